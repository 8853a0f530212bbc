/-! save: the text; the class writes it -/
abbrev yX_pa : List Int := [37, 80, 65, 80, 69, 82, 10]
abbrev yX_ob : List Int := [32, 111, 98, 106, 10]
abbrev yX_st : List Int := [115, 116, 114, 101, 97, 109, 10]
abbrev yX_es : List Int := [10, 101, 110, 100, 115, 116, 114, 101, 97, 109, 10]
abbrev yX_eo : List Int := [101, 110, 100, 111, 98, 106, 10]
abbrev yX_xr : List Int := [120, 114, 101, 102, 10]
abbrev yX_n : List Int := [32, 110, 10]
abbrev yX_f : List Int := [32, 102, 10]
abbrev yX_tr : List Int := [116, 114, 97, 105, 108, 101, 114, 10, 60, 60, 47, 82, 111, 111, 116, 32]
abbrev yX_pv : List Int := [32, 47, 80, 114, 101, 118, 32]
abbrev yX_gt : List Int := [62, 62, 10]
def yw_ob (n g : Int) (es : List ye_E) (c : Bool) (ct : List Int) : List Int := [48 + n, 32, 48 + g] ++ (yX_ob ++ (ye_pr true es ++ ([10] ++ ((if c = true then yX_st ++ (ct ++ yX_es) else []) ++ yX_eo))))
def yw_obs (kp : Nat → Bool) (O : Nat → List Int) : Nat → Nat → List Int
  | 0, _ => []
  | k + 1, n => (if kp n = true then O n else []) ++ yw_obs kp O k (n + 1)
def yd3 (x : Int) : List Int := [48 + zq_rem (zq_div x 100) 10, 48 + zq_rem (zq_div x 10) 10, 48 + zq_rem x 10]
def yw_g (u k : Bool) (g : Int) : Int := if u = true ∧ k = false then (if g + 1 ≤ 9 then g + 1 else 9) else g
def yw_en (P : Nat → Int) (u kp : Nat → Bool) (g : Nat → Int) (n : Nat) : List Int := yd3 (if kp n = true then P n else 0) ++ ([32, 48 + yw_g (u n) (kp n) (g n)] ++ (if kp n = true then yX_n else yX_f))
def yw_rl (li : Nat → Bool) : Nat → Nat → Nat
  | 0, _ => 0
  | k + 1, n => if li n = true then 1 + yw_rl li k (n + 1) else 0
def yw_tab (li : Nat → Bool) (E : Nat → List Int) : Nat → Nat → List Int
  | 0, _ => []
  | k + 1, n => (if li n = true then (if li (n - 1) = true then [] else [48 + (n : Int), 32, 48 + (yw_rl li (10 - n) n : Int), 10]) ++ E n else []) ++ yw_tab li E k (n + 1)
def yw_end (r g tl xp : Int) : List Int := yX_tr ++ ([48 + r, 32, 48 + g, 32, 82] ++ ((if tl = -1 then [] else yX_pv ++ ye_num tl) ++ (yX_gt ++ (yX_sx ++ (ye_num xp ++ yX_ef)))))
set_option maxRecDepth 100000 in
theorem ye_num_1 {x : Int} (h0 : 0 ≤ x) (h9 : x ≤ 9) : ye_num x = [48 + x] := by
  unfold ye_num ye_dec
  rw [if_neg (by omega), if_pos (by omega), show ((x.natAbs : Nat) : Int) = x by omega]
  rfl
set_option maxRecDepth 100000 in
theorem yd3_ch : ∀ x : Nat, x < 1000 → zq_ch (48 + zq_rem (zq_div x 100) 10) ∧ zq_ch (48 + zq_rem (zq_div x 10) 10) ∧ zq_ch (48 + zq_rem x 10) := by decide +kernel
set_option maxRecDepth 100000 in
theorem yx_ps_len (n : Nat) : ∀ (l : List Int) (q : List Int × Int), q.1.length ≤ n → (yx_ps n q l).1.length = min n (q.1.length + l.length)
  | [], q, h => by
    show q.1.length = min n (q.1.length + 0)
    omega
  | c :: l, q, h => by
    have e : yx_ps n q (c :: l) = yx_ps n (yx_p n q c) l := rfl
    rw [e]
    unfold yx_p
    split
    · next hlt =>
      rw [yx_ps_len n l _ (by simp; omega)]
      simp
      omega
    · next hlt =>
      rw [yx_ps_len n l (q.1, 1) h]
      simp only [List.length_cons]
      omega
set_option maxRecDepth 100000 in
theorem yx_ps_over (n : Nat) : ∀ (l : List Int) (q : List Int × Int), q.1.length ≤ n → n < q.1.length + l.length → (yx_ps n q l).2 = 1
  | [], q, h, h2 => by simp at h2; omega
  | c :: l, q, h, h2 => by
    have e : yx_ps n q (c :: l) = yx_ps n (yx_p n q c) l := rfl
    rw [e]
    simp only [List.length_cons] at h2
    unfold yx_p
    split
    · next hlt => exact yx_ps_over n l _ (by simp; omega) (by simp; omega)
    · next hlt =>
      cases l with
      | nil => rfl
      | cons c2 l2 => exact yx_ps_over n (c2 :: l2) (q.1, 1) h (by simp only [List.length_cons]; omega)
/-- a text of room 999 that is being written: all that was added so far -/
def yw (s : zq_S) (b : Nat) (L : List Int) : Prop := yx s b (yx_ps 999 ([], 0) L)
def ycap (l : List Int) : Nat := min 999 l.length
set_option maxRecDepth 100000 in
theorem yw.size {s : zq_S} {b : Nat} {L : List Int} (h : yw s b L) : zq_i s b 1 = (ycap L : Nat) := by
  have := h.1
  rw [this, yx_ps_len 999 L ([], 0) (by simp)]
  unfold ycap
  simp
set_option maxRecDepth 100000 in
theorem yw.add {s' : zq_S} {b : Nat} {L w : List Int} (hT : zq_T b = 999) (h : yx s' b (yx_ps (zq_T b) (yx_ps 999 ([], 0) L) w)) : yw s' b (L ++ w) := by
  unfold yw
  rw [yx_ps_app]
  rw [hT] at h
  exact h
section YLD7
variable {X : Nat × (Nat → Int32)} {s : zq_S} {K : zq_S → Prop} {b : Nat} {L : List Int}
set_option maxRecDepth 100000 in
theorem yw_19 (hb : zq_o 1 b) (hT : zq_T b = 999) (h : yw s b L) {c : Int} (hc : zq_ch c) (k : ∀ s', yw s' b (L ++ [c]) → yf [b, b + 1] s s' → K s') : zq_Ex X 19 0 [.ref b, zq_vi c] [] s (zq_rv K) := ys_19 hb h hc (fun s' h' f => k s' (yw.add hT h') f)
set_option maxRecDepth 100000 in
theorem yw_24 (hb : zq_o 1 b) (hT : zq_T b = 999) (h : yw s b L) {x : Int} (hx : -1000000 < x ∧ x < 1000000) (k : ∀ s', yw s' b (L ++ ye_num x) → yf [b, b + 1] s s' → K s') : zq_Ex X 24 0 [.ref b, zq_vi x, zz_no, zz_no, zz_no, zz_no] [] s (zq_rv K) := ys_24 hb hx h (fun s' h' f => k s' (yw.add hT h') f)
set_option maxRecDepth 100000 in
theorem yw_23 {j : Nat} (hb : zq_o 1 b) (hT : zq_T b = 999) (h : yw s b L) {w : List Int} (hw : (zq_str j == w && decide (j < 1000000) && decide (w.length < 10000) && w.all (fun c => decide (0 ≤ c) && decide (c < 65536))) = true) (k : ∀ s', yw s' b (L ++ w) → yf [b, b + 1] s s' → K s') : zq_Ex X 23 0 [.ref b, .ref (1000000 + j), zz_no] [] s (zq_rv K) := ys_23' hb h hw (fun s' h' f => k s' (yw.add hT h') f)
set_option maxRecDepth 100000 in
theorem yw_27 (hb : zq_o 1 b) (hT : zq_T b = 999) (h : yw s b L) {x y : Int} (hx : 0 ≤ x ∧ x ≤ 9) (hy : 0 ≤ y ∧ y ≤ 9) (k : ∀ s', yw s' b (L ++ [48 + x, 32, 48 + y, 32, 82]) → yf [b, b + 1] s s' → K s') : zq_Ex X 27 0 [.ref b, zq_vi x, zq_vi y] [] s (zq_rv K) := ys_27 hb hx hy h (fun s' h' f => k s' (yw.add hT h') f)
set_option maxRecDepth 100000 in
theorem yw_101 (hb : zq_o 1 b) (hT : zq_T b = 999) (h : yw s b L) {x : Int} (h0 : 0 ≤ x) (h9 : x ≤ 999) (k : ∀ s', yw s' b (L ++ yd3 x) → yf [b, b + 1] s s' → K s') : zq_Ex X 101 0 [.ref b, zq_vi x] [] s (zq_rv K) := by
  obtain ⟨n, hn⟩ : ∃ n : Nat, x = n := ⟨x.toNat, by omega⟩
  subst hn
  obtain ⟨c1, c2, c3⟩ := yd3_ch n (by omega)
  refine zw_101 hb ⟨by omega, by omega⟩ (yw_19 hb hT h c1 (fun s1 h1 f1 => yw_19 hb hT h1 c2 (fun s2 h2 f2 => yw_19 hb hT h2 c3 (fun s3 h3 f3 => ?_))))
  refine k s3 ?_ (f1.trans (f2.trans f3))
  have e : ((L ++ [48 + zq_rem (zq_div n 100) 10]) ++ [48 + zq_rem (zq_div n 10) 10]) ++ [48 + zq_rem n 10] = L ++ yd3 n := by
    unfold yd3
    simp only [List.append_assoc]
    rfl
  rw [← e]
  exact h3
end YLD7
section YLD7b
variable {X : Nat × (Nat → Int32)}
set_option maxRecDepth 100000 in
/-- what the writer may change -/
theorem yfw_I {s S : zq_S} {dr fl : List Int} {ev : Nat → List ye_E} {ct : Nat → List Int} {F t : Nat} (hI : yI s (dr, fl, ev, ct, F, t)) (f : yf [48 - F, 48 - F + 1, 22] s S) : yI S (dr, fl, ev, ct, F, t) := by
  have h1 : F = 23 ∨ F = 25 := hI.2.1.1
  refine yk.yI (F := F) hI rfl ⟨fun b hb h2 => f.i (by unfold yirr at hb; simp; omega), fun j hj => (by rw [f.i (b := 232) (by simp; omega)]), fun b _ => (by rw [f.r]), fun b _ _ => (by rw [f.l])⟩ ?_
  exact hI.2.2.2.2.2.2.2.cong (fun j _ => by rw [f.i (b := 232) (by simp; omega)]) (f.i (by simp; omega))
set_option maxRecDepth 100000 in
theorem yfw_cell {F c : Nat} (f1 : F = 23 ∨ F = 25) (hc : 30 ≤ c) : c ∉ [48 - F, 48 - F + 1, 22] := by
  simp
  omega
set_option maxRecDepth 100000 in
theorem ys_97 {s S : zq_S} {dr fl : List Int} {ev : Nat → List ye_E} {ct : Nat → List Int} {F t : Nat} (hI : yI s (dr, fl, ev, ct, F, t)) (fr : yf [48 - F, 48 - F + 1, 22] s S) {o : Nat} (o1 : 1 ≤ o) (o9 : o ≤ 9) (hu : zq_i s 237 o = 1) {L : List Int} (hw : yw S (48 - F) L) {K : zq_S → Prop} (k : ∀ S', yf [48 - F, 48 - F + 1, 22] s S' → yf [48 - F, 48 - F + 1] S S' → yw S' (48 - F) (L ++ yw_ob o (zq_i s 238 o) (ev o) (decide (zq_i s 242 o ≠ 0)) (ct o)) → K S') : zq_Ex X 97 0 [.ref 21, .ref (48 - F), zq_vi (o : Int), .ref (ysl t o)] [] S (zq_rv K) := by
  have f1 : F = 23 ∨ F = 25 := hI.2.1.1
  have f2 : t = 27 ∨ t = 126 := hI.2.1.2.1
  have oF : zq_o 1 (48 - F) := by rcases f1 with z | z <;> (subst z; decide +kernel)
  have T9 : zq_T (48 - F) = 999 := by rcases f1 with z | z <;> (subst z; decide +kernel)
  have a4 : yI_tab s t ev ct := hI.2.2.2.1
  obtain ⟨r1, r2, r3, r4, r5, r6, r7, r8, r9⟩ := yk_sl f2 o1 o9
  obtain ⟨d1, d2, d3, d4, d5, d6⟩ := a4 o o1 o9
  have d4 : zq_i s (ysl t o) 3 = zq_i s 238 o := d4
  obtain ⟨⟨tr, e1, e2⟩, e3, e4, e5, e6, e7⟩ := d6 (by rw [d2]; exact hu)
  obtain ⟨⟨d, es, ed, er⟩, ewf, _⟩ := id e3
  rw [ed] at e2 ewf
  obtain ⟨tr2, j1, j2, j3⟩ := yI_tre.slot hI.2.2.1 f2 o1 o9
  have htt : tr2 = tr := Option.some.inj (j1.symm.trans e1)
  subst htt
  have hbt := yk_tree j2 j3
  have hky : ye_ky d = [] := by
    have : d.2.2.2.1 = [] := ewf.2.1
    unfold ye_ky
    rw [if_pos this]
  have hpr : ye_op d ++ ye_pr (ye_nest d) es = ye_pr true (ev o) := by
    rw [ed]
    show _ = [] ++ (ye_ky d ++ (ye_op d ++ ye_pr (ye_nest d) es))
    rw [hky]
    rfl
  have cell : ∀ {S' : zq_S}, yf [48 - F, 48 - F + 1, 22] s S' → ∀ c, 30 ≤ c → zq_i S' c = zq_i s c := fun {S'} f c hc => f.i (yfw_cell f1 hc)
  have ex : ∀ {S1 S2 : zq_S}, yf [48 - F, 48 - F + 1] S1 S2 → yf [48 - F, 48 - F + 1, 22] S1 S2 := fun {S1 S2} f => f.mono (by simp)
  refine zw_97 oF ⟨by omega, by omega⟩ r1 (yw_24 oF T9 hw ⟨by omega, by omega⟩ (fun s1 h1 g1 => yw_19 oF T9 h1 ⟨by decide, by decide⟩ (fun s2 h2 g2 => ?_)))
  have F2 := fr.trans ((ex g1).trans (ex g2))
  have hg : zq_i s2 (ysl t o) 3 = zq_i s 238 o := by rw [cell F2 _ (by omega)]; exact d4
  rw [hg]
  rw [d4] at d5
  refine yw_24 oF T9 h2 ⟨by omega, by omega⟩ (fun s3 h3 g3 => yw_23 (w := yX_ob) oF T9 h3 (by decide +kernel) (fun s4 h4 g4 => ?_))
  have F4 := F2.trans ((ex g3).trans (ex g4))
  refine ⟨tr2, by rw [F4.r]; exact e1, ?_⟩
  have ht4 : yt_tr s4 tr2 0 0 (.inl d :: es) := e2.cong (fun q hq => cell F4 q (by have := yk_t7 hq; omega)) (by rw [F4.l])
  refine ys_16 (B := es) (R := []) j2 oF ht4 ewf er (List.append_nil es).symm h4 (fun s5 h5 g5 => ?_)
  have h5 := yw.add T9 h5
  rw [hpr] at h5
  refine yw_19 oF T9 h5 ⟨by decide, by decide⟩ (fun s6 h6 g6 => ?_)
  have F6 := F4.trans ((ex g5).trans (ex g6))
  have G6 := g1.trans (g2.trans (g3.trans (g4.trans (g5.trans g6))))
  have h2' : zq_i s6 (ysl t o) 2 = zq_i s 242 o := by rw [cell F6 _ (by omega)]; exact e6
  rw [h2']
  have n1 : ye_num (o : Int) = [48 + (o : Int)] := ye_num_1 (by omega) (by omega)
  have n2 : ye_num (zq_i s 238 o) = [48 + zq_i s 238 o] := ye_num_1 d5.1 d5.2
  rw [n1, n2] at h6
  refine yl_if (fun hz => ?_) (fun hz => ?_)
  · refine yw_23 (w := yX_eo) oF T9 h6 (by decide +kernel) (fun s7 h7 g7 => ?_)
    refine k s7 (F6.trans (ex g7)) (G6.trans g7) ?_
    have e : ((((((L ++ [48 + (o : Int)]) ++ [32]) ++ [48 + zq_i s 238 o]) ++ yX_ob) ++ ye_pr true (ev o)) ++ [10]) ++ yX_eo = L ++ yw_ob o (zq_i s 238 o) (ev o) (decide (zq_i s 242 o ≠ 0)) (ct o) := by
      unfold yw_ob
      rw [decide_eq_false (fun z => z hz), if_neg (by decide)]
      simp only [List.append_assoc, List.cons_append, List.nil_append]
    rw [← e]
    exact h7
  · have h21 : zq_i s (ysl t o) 2 = 1 := by
      rcases d1.2.2 with w | w
      · rw [e6] at w; exact absurd w hz
      · exact w
    obtain ⟨_, ⟨v, q3⟩, q4, q5, q6⟩ := e7 h21
    refine yw_23 (w := yX_st) oF T9 h6 (by decide +kernel) (fun s7 h7 g7 => ?_)
    have F7 := F6.trans (ex g7)
    have hcx : yx s7 (ysl t o + 8) (ct o, v) := q3.cong (cell F7 _ (by omega)) (cell F7 _ (by omega))
    refine ys_80 oF r3 (by omega) (fun c hc => decide_eq_true (by have := q4 c hc; omega)) h7 hcx (fun s8 h8 g8 => ?_)
    have h8 := yw.add T9 h8
    refine yw_23 (w := yX_es) oF T9 h8 (by decide +kernel) (fun s9 h9 g9 => yw_23 (w := yX_eo) oF T9 h9 (by decide +kernel) (fun s10 h10 g10 => ?_))
    refine k s10 (F7.trans ((ex g8).trans ((ex g9).trans (ex g10)))) (G6.trans (g7.trans (g8.trans (g9.trans g10)))) ?_
    have e : (((((((((L ++ [48 + (o : Int)]) ++ [32]) ++ [48 + zq_i s 238 o]) ++ yX_ob) ++ ye_pr true (ev o)) ++ [10]) ++ yX_st) ++ ct o) ++ yX_es) ++ yX_eo = L ++ yw_ob o (zq_i s 238 o) (ev o) (decide (zq_i s 242 o ≠ 0)) (ct o) := by
      unfold yw_ob
      rw [decide_eq_true hz, if_pos rfl]
      simp only [List.append_assoc, List.cons_append, List.nil_append]
    rw [← e]
    exact h10
/-- an object's text -/
def yO (s : zq_S) (ev : Nat → List ye_E) (ct : Nat → List Int) (n : Nat) : List Int := yw_ob n (zq_i s 238 n) (ev n) (decide (zq_i s 242 n ≠ 0)) (ct n)
set_option maxRecDepth 100000 in
theorem ys_96_3 {s : zq_S} {dr fl : List Int} {ev : Nat → List ye_E} {ct : Nat → List Int} {F t : Nat} (hI : yI s (dr, fl, ev, ct, F, t)) {km : Nat} (hk : yog s km) {pre : List Int} {K : zq_S → Prop}
    (k : ∀ S', yf [48 - F, 48 - F + 1, 22] s S' → yw S' (48 - F) (pre ++ yw_obs (fun n => km.testBit n) (yO s ev ct) 9 1) → (∀ n : Nat, 1 ≤ n → n ≤ 9 → km.testBit n = true → zq_i S' 22 n = (ycap (pre ++ yw_obs (fun n => km.testBit n) (yO s ev ct) (n - 1) 1) : Nat)) → K S') : ∀ (m n : Nat) (S : zq_S) (v5 : Value), v5.category = 1 → n + m = 10 → 1 ≤ n → yf [48 - F, 48 - F + 1, 22] s S → yw S (48 - F) (pre ++ yw_obs (fun n => km.testBit n) (yO s ev ct) (n - 1) 1) → (∀ i : Nat, 1 ≤ i → i < n → km.testBit i = true → zq_i S 22 i = (ycap (pre ++ yw_obs (fun n => km.testBit n) (yO s ev ct) (i - 1) 1) : Nat)) → zq_Ex X 96 3 [.ref 21, .ref (48 - F), .ref t, zq_vi (km : Int), zq_vi (n : Int), v5] [] S (zq_rv K)
  | 0, n, S, v5, h5, hn, n1, fr, hw, hp => by
    have f1 : F = 23 ∨ F = 25 := hI.2.1.1
    have f2 : t = 27 ∨ t = 126 := hI.2.1.2.1
    have oF : zq_o 1 (48 - F) := by rcases f1 with z | z <;> (subst z; decide +kernel)
    have := hk.1
    have hn : n = 10 := by omega
    subst hn
    refine zw_96_3 oF (yk_t8 f2) ⟨by omega, by omega⟩ ⟨by omega, by omega⟩ h5 ?_
    rw [if_neg (by omega)]
    exact k S fr hw (fun i i1 i9 hi => hp i i1 (by omega) hi)
  | m + 1, n, S, v5, h5, hn, n1, fr, hw, hp => by
    have f1 : F = 23 ∨ F = 25 := hI.2.1.1
    have f2 : t = 27 ∨ t = 126 := hI.2.1.2.1
    have oF : zq_o 1 (48 - F) := by rcases f1 with z | z <;> (subst z; decide +kernel)
    have := hk.1
    have hIS := yfw_I hI fr
    have e237 : zq_i S 237 = zq_i s 237 := fr.i (by simp; omega)
    -- one more object
    have snoc : ∀ (k i : Nat), yw_obs (fun n => km.testBit n) (yO s ev ct) (k + 1) i = yw_obs (fun n => km.testBit n) (yO s ev ct) k i ++ (if km.testBit (i + k) = true then yO s ev ct (i + k) else []) := by
      intro k
      induction k with
      | zero =>
        intro i
        show (if km.testBit i = true then yO s ev ct i else []) ++ [] = [] ++ _
        rw [List.append_nil, List.nil_append]
        rfl
      | succ k ih =>
        intro i
        have e : yw_obs (fun n => km.testBit n) (yO s ev ct) (k + 1 + 1) i = (if km.testBit i = true then yO s ev ct i else []) ++ yw_obs (fun n => km.testBit n) (yO s ev ct) (k + 1) (i + 1) := rfl
        rw [e, ih (i + 1)]
        have e2 : yw_obs (fun n => km.testBit n) (yO s ev ct) (k + 1) i = (if km.testBit i = true then yO s ev ct i else []) ++ yw_obs (fun n => km.testBit n) (yO s ev ct) k (i + 1) := rfl
        rw [e2, List.append_assoc, show i + 1 + k = i + (k + 1) by omega]
    have hs : yw_obs (fun n => km.testBit n) (yO s ev ct) (n + 1 - 1) 1 = yw_obs (fun n => km.testBit n) (yO s ev ct) (n - 1) 1 ++ (if km.testBit n = true then yO s ev ct n else []) := by
      have := snoc (n - 1) 1
      rw [show n - 1 + 1 = n + 1 - 1 by omega, show 1 + (n - 1) = n by omega] at this
      exact this
    have next : ∀ (S' : zq_S) (w : Value), w.category = 1 → yf [48 - F, 48 - F + 1, 22] s S' → yw S' (48 - F) (pre ++ yw_obs (fun n => km.testBit n) (yO s ev ct) (n + 1 - 1) 1) → (∀ i : Nat, 1 ≤ i → i < n + 1 → km.testBit i = true → zq_i S' 22 i = (ycap (pre ++ yw_obs (fun n => km.testBit n) (yO s ev ct) (i - 1) 1) : Nat)) → zq_Ex X 96 3 [.ref 21, .ref (48 - F), .ref t, zq_vi (km : Int), zq_vi ((n + 1 : Nat) : Int), w] [] S' (zq_rv K) := fun S' w hw2 a b c => ys_96_3 hI hk k m (n + 1) S' w hw2 (by omega) (by omega) a b c
    have skip : ∀ (w : Value), w.category = 1 → km.testBit n = false → zq_Ex X 96 3 [.ref 21, .ref (48 - F), .ref t, zq_vi (km : Int), zq_vi ((n + 1 : Nat) : Int), w] [] S (zq_rv K) := fun w hw2 hb => by
      refine next S w hw2 fr ?_ (fun i i1 i2 hi => ?_)
      · rw [hs, hb, if_neg (by decide), List.append_nil]
        exact hw
      · by_cases e : i = n
        · rw [e, hb] at hi; cases hi
        · exact hp i i1 (by omega) hi
    refine zw_96_3 oF (yk_t8 f2) ⟨by omega, by omega⟩ ⟨by omega, by omega⟩ h5 ?_
    rw [if_pos (by omega), show (n : Int) + 1 = ((n + 1 : Nat) : Int) by omega]
    refine ys_33 f2 hIS.2.2.2.1 ⟨by omega, by omega⟩ (fun hno => ⟨fun _ => skip _ rfl ?_, fun b z => (by cases z)⟩) (fun o ho o1 o9 hu => ⟨fun z => (by cases z), fun b hbb => ?_⟩)
    · cases hb : km.testBit n with
      | false => rfl
      | true =>
        exfalso
        obtain ⟨z1, z2, z3⟩ := hk.2 n hb
        refine hno ⟨by omega, by omega, ?_⟩
        have a4 : yI_tab s t ev ct := hI.2.2.2.1
        obtain ⟨d1, d2, _⟩ := a4 n z1 z2
        rw [e237]
        rw [d2] at d1
        rcases d1.1 with w | w
        · exact absurd w z3
        · exact w
    · have hbb : ysl t o = b := Option.some.inj hbb
      subst hbb
      have hon : o = n := by omega
      subst hon
      rw [e237] at hu
      refine zw_35 ⟨by omega, by omega⟩ ⟨by omega, by omega⟩ ?_
      rw [ybit_get km hk.1 o (by omega)]
      cases hb : km.testBit o with
      | false =>
        rw [if_neg (by decide), if_pos rfl]
        exact skip _ rfl hb
      | true =>
        rw [if_pos rfl, if_neg (show ¬ (1 : Int) = 0 by decide)]
        refine ⟨⟨by omega, by omega⟩, ?_⟩
        have hsz := hw.size
        have fr1 : yf [48 - F, 48 - F + 1, 22] s (zq_si S 22 o (zq_i S (48 - F) 1)) := fr.trans (yf.si (by simp))
        have hw1 : yw (zq_si S 22 o (zq_i S (48 - F) 1)) (48 - F) (pre ++ yw_obs (fun n => km.testBit n) (yO s ev ct) (o - 1) 1) := yx.cong hw (by
          funext j
          rw [zq_i_si, if_neg (fun z => by have := z.1; omega)]) (by
          funext j
          rw [zq_i_si, if_neg (fun z => by have := z.1; omega)])
        refine ys_97 hI fr1 o1 o9 hu hw1 (fun S' g1 g2 g3 => ?_)
        refine next S' _ rfl g1 ?_ (fun i i1 i2 hi => ?_)
        · rw [hs, if_pos hb, ← List.append_assoc]
          exact g3
        · rw [g2.i (b := 22) (by simp; omega), zq_i_si]
          by_cases e : i = o
          · rw [e, if_pos ⟨rfl, rfl⟩, hsz]
          · rw [if_neg (fun z => e (by have := z.2; omega))]
            exact hp i i1 (by omega) hi
end YLD7b
