/-! what can be reached: the class's side -/
set_option maxRecDepth 100000 in
theorem ybit_nat {a : Nat} (ha : a < 1024) : (Int32.ofInt (a : Int)).toBitVec.toNat = a := by
  have key : ∀ a : Nat, a < 1024 → (Int32.ofInt (a : Int)).toBitVec.toNat = a := by decide +kernel
  exact key a ha
set_option maxRecDepth 100000 in
theorem ybit_or2 {a b : Nat} (ha : a < 1024) (hb : b < 1024) : zq_or a b = ((a ||| b : Nat) : Int) ∧ a ||| b < 1024 := by
  have hlt : a ||| b < 2 ^ 10 := Nat.or_lt_two_pow ha hb
  have hlt2 : a ||| b < 1024 := Nat.lt_of_lt_of_le hlt (by decide)
  refine ⟨?_, hlt2⟩
  have e : zq_or a b = ((Int32.ofInt (a : Int)).toBitVec ||| (Int32.ofInt (b : Int)).toBitVec).toInt := rfl
  have hn : ((Int32.ofInt (a : Int)).toBitVec ||| (Int32.ofInt (b : Int)).toBitVec).toNat = a ||| b := by
    rw [BitVec.toNat_or, ybit_nat ha, ybit_nat hb]
  rw [e, BitVec.toInt_eq_toNat_of_lt (by rw [hn]; omega), hn]
set_option maxRecDepth 100000 in
theorem ybit_or0 : ∀ m : Nat, m < 1024 → zq_or m 0 = m := by decide +kernel
set_option maxRecDepth 100000 in
theorem ybit_shl : ∀ n : Nat, n < 10 → zq_shl 1 n = ((2 ^ n : Nat) : Int) ∧ 2 ^ n < 1024 := by decide +kernel
set_option maxRecDepth 100000 in
theorem ybc_mono {a b : Nat} (h : ∀ i, a.testBit i = true → b.testBit i = true) : ybc a ≤ ybc b := by
  unfold ybc
  rw [← List.countP_eq_length_filter, ← List.countP_eq_length_filter]
  exact List.countP_mono_left (fun x _ hx => h x hx)
set_option maxRecDepth 100000 in
theorem ybc_pos : ∀ m : Nat, m < 1024 → m ≠ 0 → 1 ≤ ybc m := by decide +kernel
/-- which objects a value means -/
def yoN (s : zq_S) : List (Int × ye_N) → Nat
  | [] => 0
  | (_, d) :: ns => (if d.1 = 8 ∧ yz_to s d ≠ 0 then 2 ^ yz_to s d else 0) ||| yoN s ns
def yo (s : zq_S) : List ye_E → Nat
  | [] => 0
  | .inl d :: es => (if d.1 = 8 ∧ yz_to s d ≠ 0 then 2 ^ yz_to s d else 0) ||| yo s es
  | .inr _ :: es => yo s es
set_option maxRecDepth 100000 in
theorem yoN_nl (s : zq_S) : ∀ (es : List ye_E) (l : Int), yoN s (ye_nl l es) = yo s es
  | [], _ => rfl
  | .inl d :: es, l => by
    show (if d.1 = 8 ∧ yz_to s d ≠ 0 then 2 ^ yz_to s d else 0) ||| yoN s (ye_nl (if ye_nest d = true then l + 1 else l) es) = (if d.1 = 8 ∧ yz_to s d ≠ 0 then 2 ^ yz_to s d else 0) ||| yo s es
    rw [yoN_nl s es]
  | .inr k :: es, l => yoN_nl s es (l - 1)
/-- a set of objects in use -/
def yog (s : zq_S) (m : Nat) : Prop := m < 1024 ∧ ∀ n, m.testBit n = true → 1 ≤ n ∧ n ≤ 9 ∧ zq_i s 237 n ≠ 0
set_option maxRecDepth 100000 in
theorem yog0 (s : zq_S) : yog s 0 := ⟨by decide, fun n h => by rw [Nat.zero_testBit] at h; cases h⟩
set_option maxRecDepth 100000 in
theorem yog_or {s : zq_S} {a b : Nat} (ha : yog s a) (hb : yog s b) : yog s (a ||| b) := ⟨(ybit_or2 ha.1 hb.1).2, fun n h => by
  rw [Nat.testBit_or, Bool.or_eq_true] at h
  rcases h with z | z
  · exact ha.2 n z
  · exact hb.2 n z⟩
set_option maxRecDepth 100000 in
theorem yog_pow {s : zq_S} {n : Nat} (h1 : 1 ≤ n) (h9 : n ≤ 9) (hu : zq_i s 237 n ≠ 0) : yog s (2 ^ n) := ⟨(ybit_shl n (by omega)).2, fun k h => by
  rw [Nat.testBit_two_pow] at h
  have : n = k := of_decide_eq_true h
  subst this
  exact ⟨h1, h9, hu⟩⟩
set_option maxRecDepth 100000 in
theorem yz_to_cases (s : zq_S) (d : ye_N) : yz_to s d = 0 ∨ (1 ≤ yz_to s d ∧ yz_to s d ≤ 9 ∧ d.2.1 = yz_to s d ∧ zq_i s 237 (yz_to s d) ≠ 0) := by
  unfold yz_to
  by_cases h : ym_me s d.2.1 d.2.2.1 = true
  · rw [if_pos h]
    obtain ⟨⟨h1, h2, h3⟩, _⟩ := ym_me_iff.mp h
    right
    refine ⟨by omega, by omega, by omega, ?_⟩
    rw [show ((d.2.1.toNat : Nat) : Int) = d.2.1 by omega]
    exact h3
  · rw [if_neg h]
    exact Or.inl rfl
set_option maxRecDepth 100000 in
theorem yo_bit (s : zq_S) (d : ye_N) : yog s (if d.1 = 8 ∧ yz_to s d ≠ 0 then 2 ^ yz_to s d else 0) := by
  split
  · next h =>
    rcases yz_to_cases s d with z | ⟨z1, z2, _, z3⟩
    · exact absurd z h.2
    · exact yog_pow z1 z2 z3
  · exact yog0 s
set_option maxRecDepth 100000 in
theorem yoN_g (s : zq_S) : ∀ ns : List (Int × ye_N), yog s (yoN s ns)
  | [] => yog0 s
  | (_, d) :: ns => yog_or (yo_bit s d) (yoN_g s ns)
set_option maxRecDepth 100000 in
theorem yo_g (s : zq_S) : ∀ es : List ye_E, yog s (yo s es)
  | [] => yog0 s
  | .inl d :: es => yog_or (yo_bit s d) (yo_g s es)
  | .inr _ :: es => yo_g s es
def yoR (s : zq_S) (ev : Nat → List ye_E) (m : Nat) : Nat → Nat → Nat
  | 0, _ => 0
  | k + 1, i => (if m.testBit (i + 1) = true then yo s (ev (i + 1)) else 0) ||| yoR s ev m k (i + 1)
def yoA (s : zq_S) (ev : Nat → List ye_E) (m : Nat) : Nat := yoR s ev m 9 0
set_option maxRecDepth 100000 in
theorem yoR_g (s : zq_S) (ev : Nat → List ye_E) (m : Nat) : ∀ k i, yog s (yoR s ev m k i)
  | 0, _ => yog0 s
  | k + 1, i => by
    show yog s ((if m.testBit (i + 1) = true then yo s (ev (i + 1)) else 0) ||| yoR s ev m k (i + 1))
    refine yog_or ?_ (yoR_g s ev m k (i + 1))
    split
    · exact yo_g s _
    · exact yog0 s
set_option maxRecDepth 100000 in
theorem yoR_bit (s : zq_S) (ev : Nat → List ye_E) (m x : Nat) : ∀ k i, (yoR s ev m k i).testBit x = true ↔ ∃ n, i + 1 ≤ n ∧ n ≤ i + k ∧ m.testBit n = true ∧ (yo s (ev n)).testBit x = true
  | 0, i => by
    show (0 : Nat).testBit x = true ↔ _
    rw [Nat.zero_testBit]
    constructor
    · intro h; cases h
    · intro ⟨n, h1, h2, _⟩; omega
  | k + 1, i => by
    show ((if m.testBit (i + 1) = true then yo s (ev (i + 1)) else 0) ||| yoR s ev m k (i + 1)).testBit x = true ↔ _
    rw [Nat.testBit_or, Bool.or_eq_true, yoR_bit s ev m x k (i + 1)]
    constructor
    · intro h
      rcases h with h | ⟨n, h1, h2, h3⟩
      · by_cases hb : m.testBit (i + 1) = true
        · rw [if_pos hb] at h
          exact ⟨i + 1, by omega, by omega, hb, h⟩
        · rw [if_neg hb, Nat.zero_testBit] at h
          cases h
      · exact ⟨n, by omega, by omega, h3⟩
    · intro ⟨n, h1, h2, h3, h4⟩
      by_cases e : n = i + 1
      · left
        rw [← e, if_pos h3]
        exact h4
      · right
        exact ⟨n, by omega, by omega, h3, h4⟩
set_option maxRecDepth 100000 in
theorem yoA_bit {s : zq_S} {ev : Nat → List ye_E} {m x : Nat} : (yoA s ev m).testBit x = true ↔ ∃ n, 1 ≤ n ∧ n ≤ 9 ∧ m.testBit n = true ∧ (yo s (ev n)).testBit x = true := by
  have := yoR_bit s ev m x 9 0
  rw [show 0 + 1 = 1 from rfl, show 0 + 9 = 9 from rfl] at this
  exact this
def yoI (s : zq_S) (ev : Nat → List ye_E) : Nat → Nat → Nat
  | 0, m => m
  | k + 1, m => yoI s ev k (m ||| yoA s ev m)
set_option maxRecDepth 100000 in
theorem yoI_g {s : zq_S} {ev : Nat → List ye_E} : ∀ (k m : Nat), yog s m → yog s (yoI s ev k m)
  | 0, m, h => h
  | k + 1, m, h => yoI_g k _ (yog_or h (yoR_g s ev m 9 0))
set_option maxRecDepth 100000 in
theorem yoI_sub {s : zq_S} {ev : Nat → List ye_E} {D : Nat} (hD : ∀ x, (yoA s ev D).testBit x = true → D.testBit x = true) : ∀ (k m : Nat), (∀ x, m.testBit x = true → D.testBit x = true) → ∀ x, (yoI s ev k m).testBit x = true → D.testBit x = true
  | 0, m, h => h
  | k + 1, m, h => yoI_sub hD k (m ||| yoA s ev m) (fun x hx => by
    rw [Nat.testBit_or, Bool.or_eq_true] at hx
    rcases hx with z | z
    · exact h x z
    · refine hD x (yoA_bit.mpr ?_)
      obtain ⟨n, n1, n2, n3, n4⟩ := yoA_bit.mp z
      exact ⟨n, n1, n2, h n n3, n4⟩)
set_option maxRecDepth 100000 in
theorem yoI_sup {s : zq_S} {ev : Nat → List ye_E} : ∀ (k m x : Nat), m.testBit x = true → (yoI s ev k m).testBit x = true
  | 0, m, x, h => h
  | k + 1, m, x, h => yoI_sup k (m ||| yoA s ev m) x (by rw [Nat.testBit_or, h]; rfl)
set_option maxRecDepth 100000 in
theorem yoI_fix {s : zq_S} {ev : Nat → List ye_E} {m : Nat} (h : m ||| yoA s ev m = m) : ∀ k, yoI s ev k m = m
  | 0 => rfl
  | k + 1 => by
    show yoI s ev k (m ||| yoA s ev m) = m
    rw [h]
    exact yoI_fix h k
set_option maxRecDepth 100000 in
theorem ybc_lt {m b : Nat} (hm : m < 1024) (hb : b < 1024) (h : m ||| b ≠ m) : ybc m + 1 ≤ ybc (m ||| b) := by
  have : ∃ n, m.testBit n = false ∧ b.testBit n = true := by
    refine Classical.byContradiction fun z => h (Nat.eq_of_testBit_eq fun i => ?_)
    rw [Nat.testBit_or]
    cases hi : m.testBit i with
    | true => rfl
    | false =>
      cases hj : b.testBit i with
      | false => rfl
      | true => exact absurd ⟨i, hi, hj⟩ z
  obtain ⟨n, h1, h2⟩ := this
  have n10 : n < 10 := by
    refine Decidable.byContradiction fun z => ?_
    have : b.testBit n = false := Nat.testBit_lt_two_pow (Nat.lt_of_lt_of_le hb (by
      have : 2 ^ 10 ≤ 2 ^ n := Nat.pow_le_pow_right (by decide) (by omega)
      exact Nat.le_trans (by decide) this))
    rw [this] at h2
    cases h2
  rw [← ybit_cnt m hm n n10 h1]
  refine ybc_mono fun i hi => ?_
  rw [ybit_or, Bool.or_eq_true] at hi
  rw [Nat.testBit_or, Bool.or_eq_true]
  rcases hi with z | z
  · exact Or.inl z
  · right
    have : n = i := of_decide_eq_true z
    rw [← this]
    exact h2
set_option maxRecDepth 100000 in
theorem yoI_cnt {s : zq_S} {ev : Nat → List ye_E} : ∀ (k m : Nat), yog s m → yoI s ev k m ||| yoA s ev (yoI s ev k m) = yoI s ev k m ∨ ybc m + k ≤ ybc (yoI s ev k m)
  | 0, m, _ => Or.inr (Nat.le_refl _)
  | k + 1, m, h => by
    by_cases e : m ||| yoA s ev m = m
    · left
      rw [yoI_fix e]
      exact e
    · have h1 := ybc_lt h.1 (yoR_g s ev m 9 0).1 e
      rcases yoI_cnt k (m ||| yoA s ev m) (yog_or h (yoR_g s ev m 9 0)) with z | z
      · exact Or.inl z
      · right
        have h1 : ybc m + 1 ≤ ybc (m ||| yoA s ev m) := h1
        show ybc m + (k + 1) ≤ ybc (yoI s ev k (m ||| yoA s ev m))
        omega
set_option maxRecDepth 100000 in
/-- nine rounds are enough -/
theorem yoI_closed {s : zq_S} {ev : Nat → List ye_E} {m : Nat} (h : yog s m) : yoI s ev 9 m ||| yoA s ev (yoI s ev 9 m) = yoI s ev 9 m := by
  have hg := yoI_g (ev := ev) 9 m h
  have h9 := ybit_le _ hg.1 (by
    cases hb : (yoI s ev 9 m).testBit 0 with
    | false => rfl
    | true => have := (hg.2 0 hb).1; omega)
  by_cases h0 : m = 0
  · subst h0
    have e : 0 ||| yoA s ev 0 = 0 := by
      refine Nat.eq_of_testBit_eq fun i => ?_
      rw [Nat.zero_testBit, Nat.testBit_or, Nat.zero_testBit, Bool.false_or]
      cases hb : (yoA s ev 0).testBit i with
      | false => rfl
      | true =>
        obtain ⟨n, _, _, n3, _⟩ := yoA_bit.mp hb
        rw [Nat.zero_testBit] at n3
        cases n3
    rw [yoI_fix e]
    exact e
  · rcases yoI_cnt (ev := ev) 9 m h with z | z
    · exact z
    · have := ybc_pos m h.1 h0
      omega
section YLC5
variable {X : Nat × (Nat → Int32)}
set_option maxRecDepth 100000 in
theorem ys_36_4 {s : zq_S} {dr fl : List Int} {ev : Nat → List ye_E} {ct : Nat → List Int} {F t a : Nat} (hI : yI s (dr, fl, ev, ct, F, t)) (ha : zq_o 4 a) (h12 : zq_i s a 0 ≤ 12) {K : Int → zq_S → Prop} : ∀ (ns : List (Int × ye_N)) (m : Nat) (j : Int) (v4 : Value), v4.category = 1 → m < 1024 → yt_ns s a j ns → (∀ q ∈ ns, ye_ok q.2) → 0 ≤ j → j + ns.length = zq_i s a 0 → K ((m ||| yoN s ns : Nat) : Int) s → zq_Ex X 36 4 [.ref t, .ref a, zq_vi (m : Int), zq_vi j, v4] [] s (zq_rp zq_iv K)
  | [], m, j, v4, h4, hm, _, _, j0, hj, k => by
    have f2 : t = 27 ∨ t = 126 := hI.2.1.2.1
    have hj : j = zq_i s a 0 := by simpa using hj
    refine zw_36_4 (yk_t8 f2) ha ⟨by omega, by omega⟩ ⟨by omega, by omega⟩ h4 ?_
    rw [if_neg (by omega)]
    have e : m ||| yoN s [] = m := Nat.or_zero m
    rw [e] at k
    exact k
  | (l, d) :: ns, m, j, v4, h4, hm, hns, hok, j0, hj, k => by
    have f2 : t = 27 ∨ t = 126 := hI.2.1.2.1
    have a4 : yI_tab s t ev ct := hI.2.2.2.1
    obtain ⟨n1, n2⟩ := yt_ns_cons.mp hns
    have hd : ye_ok d := hok (l, d) (by simp)
    simp only [List.length_cons] at hj
    have rest : ∀ (b : Nat) (v : Value), v.category = 1 → (if d.1 = 8 ∧ yz_to s d ≠ 0 then 2 ^ yz_to s d else 0) = b → m ||| b < 1024 → zq_Ex X 36 4 [.ref t, .ref a, zq_vi ((m ||| b : Nat) : Int), zq_vi (j + 1), v] [] s (zq_rp zq_iv K) := fun b v hv hb hlt => by
      refine ys_36_4 hI ha h12 ns (m ||| b) (j + 1) v hv hlt n2 (fun q hq => hok q (List.mem_cons_of_mem _ hq)) (by omega) (by omega) ?_
      have e : m ||| yoN s ((l, d) :: ns) = (m ||| b) ||| yoN s ns := by
        show m ||| ((if d.1 = 8 ∧ yz_to s d ≠ 0 then 2 ^ yz_to s d else 0) ||| yoN s ns) = _
        rw [hb, Nat.or_assoc]
      rw [e] at k
      exact k
    have zero : ∀ v : Value, v.category = 1 → ¬ (d.1 = 8 ∧ yz_to s d ≠ 0) → zq_Ex X 36 4 [.ref t, .ref a, zq_vi (zq_or (m : Int) 0), zq_vi (j + 1), v] [] s (zq_rp zq_iv K) := fun v hv hno => by
      have := rest 0 v hv (if_neg hno) (by rw [Nat.or_zero]; exact hm)
      rw [Nat.or_zero] at this
      rw [ybit_or0 m hm]
      exact this
    refine zw_36_4 (yk_t8 f2) ha ⟨by omega, by omega⟩ ⟨by omega, by omega⟩ h4 ?_
    rw [if_pos (by omega), n1.1]
    refine ⟨⟨by omega, by omega⟩, yl_if (fun h8 => ?_) (fun h8 => zero _ rfl (fun z => h8 z.1))⟩
    obtain ⟨g1, g2, g3, g4⟩ := ye_ok8 hd h8
    have e3 : zq_i s (a + 3) j = d.2.1 := by
      rw [n1.2.2.1]
      unfold ye_nu
      rw [if_neg (by omega), if_pos (by omega)]
    have e4 : zq_i s (a + 4) j = d.2.2.1 := n1.2.2.2.1 h8
    rw [e3, e4]
    refine ⟨⟨by omega, by omega⟩, ⟨by omega, by omega⟩, zw_32 (yk_t8 f2) ⟨by omega, by omega⟩ ⟨by omega, by omega⟩ (ys_33 f2 a4 ⟨by omega, by omega⟩ (fun hno => ⟨fun _ => ⟨fun _ => zero _ rfl (fun z => z.2 (yz_to0 fun y => hno ⟨y.1.1, y.1.2.1, ?_⟩)), fun b z => (by cases z)⟩, fun b z => (by cases z)⟩) (fun o ho h1 h9 hu => ⟨fun z => (by cases z), fun b hbb => ?_⟩))⟩
    · obtain ⟨o, ho⟩ : ∃ o : Nat, d.2.1 = o := ⟨d.2.1.toNat, by omega⟩
      rw [ho] at y ⊢
      obtain ⟨d1, d2, _⟩ := a4 o (by omega) (by omega)
      have z2 : zq_i s 237 o ≠ 0 := y.1.2.2
      rw [d2] at d1
      rcases d1.1 with w | w
      · exact absurd w z2
      · exact w
    · have hbb : ysl t o = b := Option.some.inj hbb
      subst hbb
      obtain ⟨d1, d2, d3, d4, d5, d6⟩ := a4 o h1 h9
      have d4 : zq_i s (ysl t o) 3 = zq_i s 238 o := d4
      refine yl_if (fun hg => ⟨fun z => (by cases z), fun b hbb => ⟨⟨by omega, by omega⟩, ?_⟩⟩) (fun hg => ⟨fun _ => zero _ rfl (fun z => z.2 (yz_to0 fun y => hg ?_)), fun b z => (by cases z)⟩)
      · rw [d4] at hg
        have hto : yz_to s d = o := yz_to1 ho h1 h9 (by rw [hu]; decide) hg
        have hset := ybit_set m hm o (by omega)
        have := rest (2 ^ o) (zq_vi 1) rfl (by rw [if_pos ⟨h8, by omega⟩, hto]) hset.2
        rw [e3, ho, hset.1]
        exact this
      · rw [d4]
        have y := y.2
        rw [ho] at y
        exact y
set_option maxRecDepth 100000 in
theorem ys_36 {s : zq_S} {dr fl : List Int} {ev : Nat → List ye_E} {ct : Nat → List Int} {F t a : Nat} (hI : yI s (dr, fl, ev, ct, F, t)) (ha : zq_o 4 a) {es : List ye_E} {st : List Int} (htr : yt_tr s a 0 0 es) (hwf : ye_wf st es) {K : Int → zq_S → Prop} (k : K (yo s es : Nat) s) : zq_Ex X 36 0 [.ref t, .ref a, zz_no, zz_no, zz_no] [] s (zq_rp zq_iv K) := by
  have f2 : t = 27 ∨ t = 126 := hI.2.1.2.1
  have hoks : ∀ (es : List ye_E) (l : Int), ye_oks es → ∀ q ∈ ye_nl l es, ye_ok q.2 := by
    intro es
    induction es with
    | nil => intro l _ q hq; cases hq
    | cons e es ih =>
      intro l ho q hq
      cases e with
      | inl d =>
        have hq : q ∈ (l, d) :: ye_nl (if ye_nest d = true then l + 1 else l) es := hq
        rcases List.mem_cons.mp hq with z | z
        · rw [z]; exact ho.1 d (by simp)
        · exact ih _ ho.tl q z
      | inr c => exact ih (l - 1) ho.tl q hq
  refine zw_36 (yk_t8 f2) ha (ys_36_4 hI ha htr.2.2.2 (ye_nl 0 es) 0 0 _ rfl (by decide) htr.2.1 (hoks es 0 hwf.oks) (by decide) htr.1.symm ?_)
  rw [Nat.zero_or, yoN_nl]
  exact k
set_option maxRecDepth 100000 in
theorem ys_34_4 {s : zq_S} {dr fl : List Int} {ev : Nat → List ye_E} {ct : Nat → List Int} {F t : Nat} (hI : yI s (dr, fl, ev, ct, F, t)) {m : Nat} (hm : yog s m) {K : Int → zq_S → Prop} : ∀ (k i x : Nat), i + k = 9 → x < 1024 → K ((x ||| yoR s ev m k i : Nat) : Int) s → zq_Ex X 34 4 [.ref t, zq_vi (m : Int), zq_vi (x : Int), zq_vi (i : Int)] [] s (zq_rp zq_iv K)
  | 0, i, x, hi, hx, kk => by
    have f2 : t = 27 ∨ t = 126 := hI.2.1.2.1
    have := hm.1
    refine zw_34_4 (yk_t8 f2) ⟨by omega, by omega⟩ ⟨by omega, by omega⟩ ⟨by omega, by omega⟩ ?_
    rw [if_neg (by omega)]
    have e : x ||| yoR s ev m 0 i = x := Nat.or_zero x
    rw [e] at kk
    exact kk
  | k + 1, i, x, hi, hx, kk => by
    have f2 : t = 27 ∨ t = 126 := hI.2.1.2.1
    have a4 : yI_tab s t ev ct := hI.2.2.2.1
    have := hm.1
    have e : x ||| yoR s ev m (k + 1) i = (x ||| (if m.testBit (i + 1) = true then yo s (ev (i + 1)) else 0)) ||| yoR s ev m k (i + 1) := by
      show x ||| ((if m.testBit (i + 1) = true then yo s (ev (i + 1)) else 0) ||| yoR s ev m k (i + 1)) = _
      rw [Nat.or_assoc]
    rw [e] at kk
    refine zw_34_4 (yk_t8 f2) ⟨by omega, by omega⟩ ⟨by omega, by omega⟩ ⟨by omega, by omega⟩ ?_
    rw [if_pos (by omega)]
    refine zw_35 ⟨by omega, by omega⟩ ⟨by omega, by omega⟩ ?_
    rw [show (i : Int) + 1 = ((i + 1 : Nat) : Int) by omega, ybit_get m hm.1 (i + 1) (by omega)]
    by_cases hb : m.testBit (i + 1) = true
    · rw [if_pos hb] at kk
      rw [if_pos (by rw [if_pos hb]), if_neg (by decide)]
      have hu1 : zq_i s 237 ((i + 1 : Nat) : Int) = 1 := by
        have hu := (hm.2 _ hb).2.2
        obtain ⟨d1, d2, _⟩ := a4 (i + 1) (by omega) (by omega)
        rw [d2] at d1
        rcases d1.1 with w | w
        · exact absurd w hu
        · exact w
      obtain ⟨tr, c1, c2, c3, c4, _⟩ := hI.obj (o := i + 1) (by omega) (fun _ => hu1)
      have hcu : zq_r s (t + 1 + 8 + 10 * ((i : Int)).toNat) 4 = some tr := by
        unfold ycu at c1
        rw [if_neg (by omega)] at c1
        unfold ysl at c1
        rw [show t + 1 + 8 + 10 * ((i : Int)).toNat = t + 9 + 10 * (i + 1 - 1) by omega]
        exact c1
      refine ⟨⟨by omega, by omega⟩, tr, hcu, ys_36 hI c2.1 c3 c4.2.1 ?_⟩
      have h2 := ybit_or2 hx (yo_g s (ev (i + 1))).1
      rw [h2.1]
      exact ys_34_4 hI hm k (i + 1) _ (by omega) h2.2 kk
    · rw [if_neg hb, Nat.or_zero] at kk
      rw [if_neg (by rw [if_neg hb]; decide), if_pos rfl]
      exact ys_34_4 hI hm k (i + 1) x (by omega) hx kk
set_option maxRecDepth 100000 in
theorem ys_31_28 {s : zq_S} {dr fl : List Int} {ev : Nat → List ye_E} {ct : Nat → List Int} {F t : Nat} (hI : yI s (dr, fl, ev, ct, F, t)) {K : Int → zq_S → Prop} : ∀ (k i m : Nat), i + k = 9 → yog s m → K (yoI s ev k m : Nat) s → zq_Ex X 31 28 [.ref t, zq_vi (m : Int), zq_vi (i : Int)] [] s (zq_rp zq_iv K)
  | 0, i, m, hi, hm, kk => by
    have f2 : t = 27 ∨ t = 126 := hI.2.1.2.1
    have := hm.1
    refine zw_31_28 (yk_t8 f2) ⟨by omega, by omega⟩ ⟨by omega, by omega⟩ ?_
    rw [if_neg (by omega)]
    exact kk
  | k + 1, i, m, hi, hm, kk => by
    have f2 : t = 27 ∨ t = 126 := hI.2.1.2.1
    have := hm.1
    have hA := yoR_g s ev m 9 0
    refine zw_31_28 (yk_t8 f2) ⟨by omega, by omega⟩ ⟨by omega, by omega⟩ ?_
    rw [if_pos (by omega)]
    refine zw_34 (yk_t8 f2) ⟨by omega, by omega⟩ (ys_34_4 hI hm 9 0 0 (by omega) (by decide) ?_)
    rw [Nat.zero_or, (ybit_or2 hm.1 hA.1).1, show (i : Int) + 1 = ((i + 1 : Nat) : Int) by omega]
    exact ys_31_28 hI k (i + 1) _ (by omega) (yog_or hm hA) kk
/-- the root, if it means something -/
def yo0 (s : zq_S) : Nat := if ym_me s (zq_i s 232 17) (zq_i s 232 18) = true then 2 ^ (zq_i s 232 17).toNat else 0
set_option maxRecDepth 100000 in
theorem yo0_g (s : zq_S) : yog s (yo0 s) := by
  unfold yo0
  split
  · next h =>
    obtain ⟨⟨h1, h2, h3⟩, _⟩ := ym_me_iff.mp h
    refine yog_pow (by omega) (by omega) ?_
    rw [show (((zq_i s 232 17).toNat : Nat) : Int) = zq_i s 232 17 by omega]
    exact h3
  · exact yog0 s
set_option maxRecDepth 100000 in
theorem ys_31 {s : zq_S} {dr fl : List Int} {ev : Nat → List ye_E} {ct : Nat → List Int} {F t : Nat} (hI : yI s (dr, fl, ev, ct, F, t)) {K : Int → zq_S → Prop} (k : K (yoI s ev 9 (yo0 s) : Nat) s) : zq_Ex X 31 0 [.ref t, zz_no, zz_no] [] s (zq_rp zq_iv K) := by
  have f2 : t = 27 ∨ t = 126 := hI.2.1.2.1
  have a4 : yI_tab s t ev ct := hI.2.2.2.1
  obtain ⟨_, _, _, _, _, _, _, _, t9, t10, t11, t12⟩ := hI.2.1
  have t9 : zq_i s t 2 = zq_i s 232 17 := t9
  have t10 : zq_i s t 3 = zq_i s 232 18 := t10
  have none : yo0 s = 0 → zq_Ex X 31 28 [.ref t, zq_vi 0, zq_vi 0] [] s (zq_rp zq_iv K) := fun h0 => by
    rw [h0] at k
    exact ys_31_28 hI 9 0 0 (by omega) (yog0 s) k
  refine zw_31 (yk_t8 f2) ?_
  rw [t9, t10]
  refine zw_32 (yk_t8 f2) ⟨by omega, by omega⟩ ⟨by omega, by omega⟩ (ys_33 f2 a4 ⟨by omega, by omega⟩ (fun hno => ⟨fun _ => ⟨fun _ => none ?_, fun b z => (by cases z)⟩, fun b z => (by cases z)⟩) (fun o ho h1 h9 hu => ⟨fun z => (by cases z), fun b hbb => ?_⟩))
  · unfold yo0
    rw [if_neg (fun z => ?_)]
    obtain ⟨⟨y1, y2, y3⟩, _⟩ := ym_me_iff.mp z
    refine hno ⟨y1, y2, ?_⟩
    obtain ⟨o, ho⟩ : ∃ o : Nat, zq_i s 232 17 = o := ⟨(zq_i s 232 17).toNat, by omega⟩
    rw [ho] at y3 ⊢
    obtain ⟨d1, d2, _⟩ := a4 o (by omega) (by omega)
    rw [d2] at d1
    rcases d1.1 with w | w
    · exact absurd w y3
    · exact w
  · have hbb : ysl t o = b := Option.some.inj hbb
    subst hbb
    obtain ⟨d1, d2, d3, d4, d5, d6⟩ := a4 o h1 h9
    have d4 : zq_i s (ysl t o) 3 = zq_i s 238 o := d4
    refine yl_if (fun hg => ⟨fun z => (by cases z), fun b hbb => ?_⟩) (fun hg => ⟨fun _ => none ?_, fun b z => (by cases z)⟩)
    · have e0 : yo0 s = 2 ^ o := by
        unfold yo0
        rw [if_pos (ym_me_iff.mpr ⟨⟨by omega, by omega, by rw [ho, hu]; decide⟩, by rw [ho, ← d4]; exact hg⟩), ho]
        rfl
      have hg0 := yo0_g s
      rw [e0] at k hg0
      rw [t9, ho, (ybit_shl o (by omega)).1]
      exact ys_31_28 hI 9 0 (2 ^ o) (by omega) hg0 k
    · unfold yo0
      rw [if_neg (fun z => hg ?_)]
      have y := (ym_me_iff.mp z).2
      rw [d4, ← y, ho]
end YLC5
