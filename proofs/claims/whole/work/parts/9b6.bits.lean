/-! bits of small numbers; the cursor moves and helpers work; an object's root; resolving, the class's side -/
set_option maxRecDepth 100000 in
theorem ybit_get : ∀ m : Nat, m < 1024 → ∀ n : Nat, n < 10 → zq_and (zq_shr m n) 1 = if m.testBit n = true then 1 else 0 := by decide +kernel
set_option maxRecDepth 100000 in
theorem ybit_set : ∀ m : Nat, m < 1024 → ∀ n : Nat, n < 10 → zq_or m (zq_shl 1 n) = ((m ||| 2 ^ n : Nat) : Int) ∧ m ||| 2 ^ n < 1024 := by decide +kernel
def ybc (m : Nat) : Nat := ((List.range 10).filter (fun n => m.testBit n)).length
set_option maxRecDepth 100000 in
theorem ybit_cnt : ∀ m : Nat, m < 1024 → ∀ n : Nat, n < 10 → m.testBit n = false → ybc (m ||| 2 ^ n) = ybc m + 1 := by decide +kernel
set_option maxRecDepth 100000 in
theorem ybit_le : ∀ m : Nat, m < 1024 → m.testBit 0 = false → ybc m ≤ 9 := by decide +kernel
set_option maxRecDepth 100000 in
theorem ybit_or (m n k : Nat) : (m ||| 2 ^ n).testBit k = (m.testBit k || decide (n = k)) := by rw [Nat.testBit_or, Nat.testBit_two_pow]
set_option maxRecDepth 100000 in
theorem yI.curs2 {s S : zq_S} {dr fl : List Int} {ev : Nat → List ye_E} {ct : Nat → List Int} {F t : Nat} (hI : yI s (dr, fl, ev, ct, F, t)) (ei : ∀ b, ¬ yirr F b → b ≠ 3 → b ≠ 232 → zq_i S b = zq_i s b) (ej : ∀ j ∈ yJ, j ≠ 19 → j ≠ 20 → zq_i S 232 j = zq_i s 232 j) (er : ∀ b, b ≠ 3 → ¬ (4 ≤ b ∧ b ≤ 22) → zq_r S b = zq_r s b) (el : ∀ b, ¬ (4 ≤ b ∧ b ≤ 22) → b ≠ 259 → zq_l S b = zq_l s b) (hm : ym_I S) (hc : yI_cur S t ev) : yI S (dr, fl, ev, ct, F, t) := by
  obtain ⟨s1, h1⟩ : ∃ s1 : zq_S, s1 = (fun b j => if b = 3 then zq_i s 3 j else if b = 232 ∧ (j = 0 ∨ j = 19 ∨ j = 20) then zq_i s 232 j else zq_i S b j, fun b j => if b = 3 then zq_r s 3 j else zq_r S b j, S.2.2) := ⟨_, rfl⟩
  have i1 : ∀ b j, zq_i s1 b j = if b = 3 then zq_i s 3 j else if b = 232 ∧ (j = 0 ∨ j = 19 ∨ j = 20) then zq_i s 232 j else zq_i S b j := fun b j => by rw [h1]; rfl
  have r1 : ∀ b j, zq_r s1 b j = if b = 3 then zq_r s 3 j else zq_r S b j := fun b j => by rw [h1]; rfl
  have l1 : zq_l s1 = zq_l S := by rw [h1]; rfl
  have hm1 : ym_I s1 := hm.cong (fun j hj => by
    have : j = 1 ∨ j = 3 ∨ j = 5 ∨ j = 23 := by simpa using hj
    rw [i1, if_neg (by decide), if_neg (by omega)]) (by
    funext j
    rw [i1, if_neg (by decide), if_neg (by omega)])
  have hI1 : yI s1 (dr, fl, ev, ct, F, t) := by
    refine yk.yI (F := F) hI rfl ⟨fun b hb h2 => ?_, fun j hj => ?_, fun b hb => ?_, fun b hb h9 => ?_⟩ hm1
    · funext j
      rw [i1]
      by_cases h3 : b = 3
      · rw [if_pos h3, h3]
      · rw [if_neg h3, if_neg (by omega), ei b hb h3 h2]
    · rw [i1, if_neg (by decide)]
      by_cases hc : j = 0 ∨ j = 19 ∨ j = 20
      · rw [if_pos ⟨rfl, hc⟩]
      · rw [if_neg (fun z => hc z.2)]
        exact ej j hj (by omega) (by omega)
    · funext j
      rw [r1]
      by_cases h3 : b = 3
      · rw [if_pos h3, h3]
      · rw [if_neg h3, er b h3 hb]
    · rw [l1]
      exact el b hb h9
  refine hI1.curs (fun b b3 b2 => ?_) (fun j j0 j1 j2 => ?_) (fun b b3 => ?_) (fun b _ => ?_) hc
  · funext j
    rw [i1, if_neg b3, if_neg (by omega)]
  · rw [i1, if_neg (by decide), if_neg (by omega)]
  · funext j
    rw [r1, if_neg b3]
  · rw [l1]
set_option maxRecDepth 100000 in
/-- an object's value begins with a node without a key -/
theorem yI.root {s : zq_S} {dr fl : List Int} {ev : Nat → List ye_E} {ct : Nat → List Int} {F t : Nat} (hI : yI s (dr, fl, ev, ct, F, t)) {o : Nat} (h1 : o ≤ 9) (h3 : o ≠ 0 → zq_i s 237 o = 1) : ∃ tr d es, ycu s t o = some tr ∧ (zq_o 4 tr ∧ 29 ≤ tr ∧ tr + 6 ≤ 231) ∧ yt_tr s tr 0 0 (.inl d :: es) ∧ ev o = .inl d :: es ∧ ye_wf [] (.inl d :: es) ∧ ye_at (ym_c s (10 + o)) 0 (ye_op d ++ (ye_pr (ye_nest d) es ++ [0])) ∧ d.2.2.2.1 = [] ∧ ye_rest d es = some [] ∧ es.length ≤ 40 ∧ yp_T6 (ym_c s (10 + o)) := by
  obtain ⟨tr, b1, b2, b3, b4, b5, b6⟩ := hI.obj h1 h3
  obtain ⟨⟨d, es, ed, er⟩, ewf, emany, _⟩ := b4
  have hsu := yob_su b5 b6
  have h500 := hI.2.2.2.2.2.2.2.2.2.2.2 o (by omega) (by omega)
  rw [ed] at b3 ewf hsu emany
  have hw2 : d.2.2.2.1 = [] := ewf.2.1
  have hky : ye_ky d = [] := by unfold ye_ky; rw [if_pos hw2]
  refine ⟨tr, d, es, b1, b2, b3, ed, ewf, ?_, hw2, er, ?_, fun j hj => ?_⟩
  · have := ye_su_node1 hsu
    rw [hky] at this
    exact this
  · have := ye_wf_len ewf
    simp only [List.length_nil, List.length_cons] at this
    omega
  · unfold ym_c
    rw [if_neg (by omega), if_neg (by omega), if_neg (by omega), if_neg (by omega), if_neg (by omega), if_neg (by rw [show (10 : Int) + (o : Int) - 10 = o by omega]; omega)]
/-! resolving -/
def yz_hd (es : List ye_E) : ye_N := match es with
  | .inl d :: _ => d
  | _ => ye_null
def yz_to (s : zq_S) (d : ye_N) : Nat := if ym_me s d.2.1 d.2.2.1 = true then d.2.1.toNat else 0
def yz (s : zq_S) (ev : Nat → List ye_E) : Nat → Nat → Option Nat → ye_N → Option (Option Nat)
  | 0, _, _, _ => none
  | f + 1, m, cur, d => if d.1 = 8 then (if yz_to s d = 0 then some (some 0) else if m.testBit (yz_to s d) = true then none else yz s ev f (m ||| 2 ^ yz_to s d) (some (yz_to s d)) (yz_hd (ev (yz_to s d)))) else some cur
set_option maxRecDepth 100000 in
theorem ym_me_iff {s : zq_S} {n g : Int} : ym_me s n g = true ↔ (1 ≤ n ∧ n ≤ 9 ∧ zq_i s 237 n ≠ 0) ∧ zq_i s 238 n = g := by
  unfold ym_me ym_us
  rw [Bool.and_eq_true, decide_eq_true_iff, decide_eq_true_iff]
set_option maxRecDepth 100000 in
theorem yz_to0 {s : zq_S} {d : ye_N} (h : ¬ ((1 ≤ d.2.1 ∧ d.2.1 ≤ 9 ∧ zq_i s 237 d.2.1 ≠ 0) ∧ zq_i s 238 d.2.1 = d.2.2.1)) : yz_to s d = 0 := by
  unfold yz_to
  rw [if_neg (fun z => h (ym_me_iff.mp z))]
set_option maxRecDepth 100000 in
theorem yz_to1 {s : zq_S} {d : ye_N} {o : Nat} (e : d.2.1 = o) (h1 : 1 ≤ o) (h9 : o ≤ 9) (hu : zq_i s 237 o ≠ 0) (hg : zq_i s 238 o = d.2.2.1) : yz_to s d = o := by
  unfold yz_to
  rw [if_pos (ym_me_iff.mpr ⟨⟨by omega, by omega, by rw [e]; exact hu⟩, by rw [e]; exact hg⟩)]
  omega
def yz_pos (s : zq_S) (t : Nat) (tr0 : Nat) (j0 : Int) (cur : Option Nat) (tr : Nat) (j : Int) : Prop := match cur with
  | none => tr = tr0 ∧ j = j0
  | some n => n ≤ 9 ∧ (n ≠ 0 → zq_i s 237 n = 1) ∧ ycu s t n = some tr ∧ j = 0
def yz_fr (s S : zq_S) : Prop := (∀ b, b ≠ 4 → zq_i S b = zq_i s b) ∧ (∀ b, b ≠ 4 → zq_r S b = zq_r s b) ∧ zq_l S = zq_l s ∧ zq_n S = zq_n s
set_option maxRecDepth 100000 in
theorem yz_fr.refl (s : zq_S) : yz_fr s s := ⟨fun _ _ => rfl, fun _ _ => rfl, rfl, rfl⟩
set_option maxRecDepth 100000 in
theorem yz_fr.si {s S : zq_S} (h : yz_fr s S) (j x : Int) : yz_fr s (zq_si S 4 j x) := ⟨fun b hb => by
  funext i
  rw [zq_i_si, if_neg (fun z => hb z.1), h.1 b hb], h.2⟩
set_option maxRecDepth 100000 in
theorem yz_fr.sr {s S : zq_S} (h : yz_fr s S) (j : Int) (x : Option Nat) : yz_fr s (zq_sr S 4 j x) := ⟨h.1, fun b hb => by
  funext i
  rw [zq_r_sr, if_neg (fun z => hb z.1), h.2.1 b hb], h.2.2⟩
set_option maxRecDepth 100000 in
theorem yz_fr.yI {s S : zq_S} {A : yA} (hI : yI s A) (h : yz_fr s S) : yI S A := yk.yI (F := A.2.2.2.2.1) hI rfl ⟨fun b hb _ => h.1 b (fun z => hb (by rw [z]; exact Or.inl ⟨by decide, by decide⟩)), fun j _ => (by rw [h.1 232 (by decide)]), fun b hb => h.2.1 b (by omega), fun b _ _ => (by rw [h.2.2.1])⟩ (hI.2.2.2.2.2.2.2.cong (fun j _ => by rw [h.1 232 (by decide)]) (h.1 240 (by decide)))
set_option maxRecDepth 100000 in
theorem ye_ok8 {d : ye_N} (h : ye_ok d) (h8 : d.1 = 8) : 1 ≤ d.2.1 ∧ d.2.1 ≤ 9 ∧ 0 ≤ d.2.2.1 ∧ d.2.2.1 ≤ 9 := by
  rcases h.2 with k | ⟨k, _⟩ | ⟨k, _⟩ | ⟨k, _⟩ | ⟨_, k⟩
  · omega
  · omega
  · omega
  · omega
  · exact k
section YLB6
variable {X : Nat × (Nat → Int32)}
set_option maxRecDepth 100000 in
theorem ys_48n {s : zq_S} {K : Int → zq_S → Prop} {a : Nat} {x d : Int} (ha : zq_o 4 a) (hc : zq_i s a 0 ≤ 12) (h0 : 0 ≤ x) (h1 : x < zq_i s a 0) (hd : zq_i s (a + 1) x = d) (k : K d s) : zq_Ex X 48 0 [.ref a, zq_vi x] [] s (zq_rp zq_iv K) := ys_48 ha hc ⟨by omega, by omega⟩ (by rw [if_pos ⟨h0, h1⟩, hd]; exact k)
set_option maxRecDepth 100000 in
theorem ys_93_4 {s : zq_S} {dr fl : List Int} {ev : Nat → List ye_E} {ct : Nat → List Int} {F t : Nat} (hI : yI s (dr, fl, ev, ct, F, t)) {K : Int → zq_S → Prop} {tr0 : Nat} {j0 : Int} : ∀ (f m : Nat) (S : zq_S) (cur : Option Nat) (tr : Nat) (j : Int) (d : ye_N) (l : Int) (v4 v5 : Value), v4.category = 1 → v5.category = 1 → m < 1024 → f ≤ 10 → yz_fr s S → zq_r S 4 0 = some tr → zq_i S 4 1 = j → (zq_o 4 tr ∧ 29 ≤ tr) → (0 ≤ j ∧ j < zq_i s tr 0 ∧ zq_i s tr 0 ≤ 12) → yt_nd s tr j l d → ye_ok d → yz_pos s t tr0 j0 cur tr j →
    (∀ S', yz_fr s S' → yz s ev f m cur d = none → K 0 S') →
    (∀ S' r tr' j', yz_fr s S' → yz s ev f m cur d = some r → zq_r S' 4 0 = some tr' → zq_i S' 4 1 = j' → yz_pos s t tr0 j0 r tr' j' → K 1 S') →
    zq_Ex X 93 4 [.ref t, .ref 4, zq_vi (m : Int), zq_vi (10 - (f : Int)), v4, v5] [] S (zq_rp zq_bo K) := by
  have f2 : t = 27 ∨ t = 126 := hI.2.1.2.1
  have ot : zq_o 8 t := by rcases f2 with z | z <;> (subst z; decide +kernel)
  have ot2 : zq_o 4 (t + 2) := by rcases f2 with z | z <;> (subst z; decide +kernel)
  have o4 : zq_o 2 4 := by decide +kernel
  have a4 : yI_tab s t ev ct := hI.2.2.2.1
  intro f
  induction f with
  | zero =>
    intro m S cur tr j d l v4 v5 h4 h5 hm hf fr hr hj htr hjb hnd hok hpos k0 k1
    refine zw_93_4 ot o4 ⟨by omega, by omega⟩ ⟨by omega, by omega⟩ h4 h5 ?_
    rw [if_neg (by omega)]
    exact k0 S fr rfl
  | succ f ih =>
    intro m S cur tr j d l v4 v5 h4 h5 hm hf fr hr hj htr hjb hnd hok hpos k0 k1
    have hIS : yI S (dr, fl, ev, ct, F, t) := fr.yI hI
    have nt : ∀ i, i < 7 → tr + i ≠ 4 := fun i hi => by omega
    refine zw_93_4 ot o4 ⟨by omega, by omega⟩ ⟨by omega, by omega⟩ h4 h5 ?_
    rw [if_pos (by omega)]
    refine zw_94 o4 ⟨fun z => ?_, fun b hb => ?_⟩
    · rw [hr] at z; cases z
    have hb : tr = b := Option.some.inj (hr.symm.trans hb)
    subst hb
    rw [hj]
    refine ys_48n (d := d.1) htr.1 (by rw [fr.1 tr (nt 0 (by decide))]; exact hjb.2.2) hjb.1 (by rw [fr.1 tr (nt 0 (by decide))]; exact hjb.2.1) (by rw [fr.1 (tr + 1) (nt 1 (by decide))]; exact hnd.1) ?_
    refine yl_if (fun h8 => ?_) (fun h8 => ?_)
    · refine ⟨fun z => ?_, fun b hb => ?_⟩
      · rw [hr] at z; cases z
      have hb : tr = b := Option.some.inj (hr.symm.trans hb)
      subst hb
      have e3 : zq_i S (tr + 3) (zq_i S 4 1) = d.2.1 := by
        rw [hj, fr.1 (tr + 3) (nt 3 (by decide)), hnd.2.2.1]
        unfold ye_nu
        rw [if_neg (by omega), if_pos (by omega)]
      have e4 : zq_i S (tr + 4) (zq_i S 4 1) = d.2.2.1 := by
        rw [hj, fr.1 (tr + 4) (nt 4 (by decide))]
        exact hnd.2.2.2.1 h8
      rw [e3, e4, hj]
      obtain ⟨g1, g2, g3, g4⟩ := ye_ok8 hok h8
      have nul : yz_to s d = 0 → zq_Ex X 92 0 [.ref 4, .ref (t + 2), zq_vi 0] [] S (zq_rv fun s_15 => K 1 s_15) := fun h0 => by
        refine zw_92 o4 ot2 ⟨by decide, by decide⟩ ?_
        refine k1 _ (some 0) (t + 2) 0 ((fr.sr 0 _).si 1 0) ?_ ?_ (zq_i_at _ _ _ _) ⟨by decide, fun z => absurd rfl z, rfl, rfl⟩
        · show (if d.1 = 8 then (if yz_to s d = 0 then some (some 0) else _) else some cur) = some (some 0)
          rw [if_pos h8, if_pos h0]
        · rw [zq_r_si, zq_r_sr, if_pos ⟨rfl, rfl⟩]
      have h237 : zq_i S 237 = zq_i s 237 := fr.1 237 (by decide)
      refine ⟨⟨by omega, by omega⟩, ⟨by omega, by omega⟩, zw_32 ot ⟨by omega, by omega⟩ ⟨by omega, by omega⟩ (ys_33 f2 hIS.2.2.2.1 ⟨by omega, by omega⟩ (fun hno => ⟨fun _ => ⟨fun _ => nul (yz_to0 fun z => hno ⟨z.1.1, z.1.2.1, ?_⟩), fun b z => (by cases z)⟩, fun b z => (by cases z)⟩) (fun o ho h1 h9 hu => ⟨fun z => (by cases z), fun b hbb => ?_⟩))⟩
      · rw [h237]
        obtain ⟨o, ho⟩ : ∃ o : Nat, d.2.1 = o := ⟨d.2.1.toNat, by omega⟩
        rw [ho] at z ⊢
        obtain ⟨d1, d2, _⟩ := a4 o (by omega) (by omega)
        have z2 : zq_i s 237 o ≠ 0 := z.1.2.2
        rw [d2] at d1
        rcases d1.1 with w | w
        · exact absurd w z2
        · exact w
      · have hbb : ysl t o = b := Option.some.inj hbb
        subst hbb
        rw [h237] at hu
        obtain ⟨q1, q2, q3, q4, q5, q6, q7, q8, q9⟩ := yk_sl f2 h1 h9
        obtain ⟨d1, d2, d3, d4, d5, d6⟩ := a4 o h1 h9
        have d4 : zq_i s (ysl t o) 3 = zq_i s 238 o := d4
        refine yl_if (fun hg => ⟨fun z => (by cases z), fun b hbb => ?_⟩) (fun hg => ⟨fun _ => nul (yz_to0 fun z => hg ?_), fun b z => (by cases z)⟩)
        · have hbb : ysl t o = b := Option.some.inj hbb
          subst hbb
          rw [fr.1 (ysl t o) (by omega), d4] at hg
          have hto : yz_to s d = o := yz_to1 ho h1 h9 (by rw [hu]; decide) hg
          have hyz : yz s ev (f + 1) m cur d = if m.testBit o = true then none else yz s ev f (m ||| 2 ^ o) (some o) (yz_hd (ev o)) := by
            show (if d.1 = 8 then (if yz_to s d = 0 then some (some 0) else if m.testBit (yz_to s d) = true then none else yz s ev f (m ||| 2 ^ yz_to s d) (some (yz_to s d)) (yz_hd (ev (yz_to s d)))) else some cur) = _
            rw [if_pos h8, hto, if_neg (by omega)]
          rw [hyz] at k0 k1
          rw [ho]
          refine zw_35 ⟨by omega, by omega⟩ ⟨by omega, by omega⟩ ?_
          rw [ybit_get m hm o (by omega)]
          by_cases hbit : m.testBit o = true
          · rw [if_pos hbit] at k0
            rw [if_pos (by rw [if_pos hbit]), if_neg (by decide)]
            exact k0 S fr rfl
          · rw [if_neg hbit] at k0 k1
            rw [if_neg (by rw [if_neg hbit]; decide), if_pos rfl]
            obtain ⟨tr', dd, es, r1, r2, r3, r4, r5, r6, r7, r8, r9, r10⟩ := hI.root h9 (fun _ => hu)
            have hcu : zq_r s (ysl t o) 4 = some tr' := by
              unfold ycu at r1
              rw [if_neg (by omega)] at r1
              exact r1
            have hhd : yz_hd (ev o) = dd := by rw [r4]; rfl
            rw [hhd] at k0 k1
            obtain ⟨n1, n2, n3⟩ := r3.node
            refine ⟨tr', by rw [fr.2.1 (ysl t o) (by omega)]; exact hcu, zw_92 o4 r2.1 ⟨by decide, by decide⟩ ?_⟩
            rw [(ybit_set m hm o (by omega)).1, show 10 - ((f + 1 : Nat) : Int) + 1 = 10 - (f : Int) by omega]
            refine ih (m ||| 2 ^ o) _ (some o) tr' 0 dd 0 _ _ rfl rfl (ybit_set m hm o (by omega)).2 (by omega) (((fr.si 2 _).sr 0 _).si 1 0) ?_ (zq_i_at _ _ _ _) ⟨r2.1, r2.2.1⟩ ⟨by decide, n3, r3.2.2.2⟩ n1 r5.1 ⟨h9, fun _ => hu, r1, rfl⟩ k0 k1
            rw [zq_r_si, zq_r_sr, if_pos ⟨rfl, rfl⟩]
        · rw [fr.1 (ysl t o) (by omega), d4]
          have z := z.2
          rw [ho] at z
          exact z
    · refine k1 S cur tr j fr ?_ hr hj hpos
      show (if d.1 = 8 then _ else some cur) = some cur
      rw [if_neg h8]
end YLB6
