/-! Tree.print -/
set_option maxRecDepth 100000 in
theorem ye_skip_len : ∀ {es R : List ye_E} {n : Nat}, ye_skip es n = some R → R.length ≤ es.length
  | [], _, _, h => by cases h
  | .inl d :: es, R, n, h => by
    have h : ye_skip es (if ye_nest d = true then n + 1 else n) = some R := h
    have := ye_skip_len h
    simp
    omega
  | .inr k :: es, R, n, h => by
    have h : (if n ≤ 1 then some es else ye_skip es (n - 1)) = some R := h
    split at h
    · cases h
      simp
    · have := ye_skip_len h
      simp
      omega
set_option maxRecDepth 100000 in
theorem yt_end (LV : Int → Int) (c j : Int) : ∀ (n : Nat) (e0 : Int), e0 + n = c → j < e0 → (∀ m, j < m → m < e0 → LV j < LV m) → ∃ e, j < e ∧ e ≤ c ∧ (∀ m, j < m → m < e → LV j < LV m) ∧ (e < c → LV e ≤ LV j)
  | 0, e0, h, h1, h2 => ⟨e0, h1, by omega, h2, fun z => by omega⟩
  | n + 1, e0, h, h1, h2 => by
    by_cases hc : LV e0 ≤ LV j
    · exact ⟨e0, h1, by omega, h2, fun _ => hc⟩
    · refine yt_end LV c j n (e0 + 1) (by omega) (by omega) fun m m1 m2 => ?_
      by_cases e : m = e0
      · rw [e]; omega
      · exact h2 m m1 (by omega)
section YP3
variable {X : Nat × (Nat → Int32)} {a b : Nat} {K : zq_S → Prop} {x l : Int} {LV KD : Int → Int} {cnt : Int}
/-- what is known of the tree's rows -/
def yt_rows (s : zq_S) (a : Nat) (LV KD : Int → Int) (cnt : Int) : Prop := zq_i s (a + 2) = LV ∧ zq_i s (a + 1) = KD ∧ zq_i s a 0 = cnt ∧ cnt ≤ 12
set_option maxRecDepth 100000 in
theorem yt_rows.fr {s s' : zq_S} (h : yt_rows s a LV KD cnt) (hb : zq_o 1 b) (ha : zq_o 4 a) (f : yf [b, b + 1] s s') : yt_rows s' a LV KD cnt := by
  have e := yt_fr hb ha f
  unfold yt_rows
  rw [e (a + 1) (by simp), e (a + 2) (by simp), e a (by simp)]
  exact h
set_option maxRecDepth 100000 in
theorem ys_17g {s : zq_S} {K : Int → zq_S → Prop} (ha : zq_o 4 a) (hr : yt_rows s a LV KD cnt) {j : Int} (j0 : 0 ≤ j) (j1 : j < cnt) (k : ∀ e, j < e → e ≤ cnt → (∀ m, j < m → m < e → LV j < LV m) → (e < cnt → LV e ≤ LV j) → K e s) : zq_Ex X 17 0 [.ref a, zq_vi j, zz_no] [] s (zq_rp zq_iv K) := by
  obtain ⟨r1, r2, r3, r4⟩ := hr
  obtain ⟨e, e1, e2, e3, e4⟩ := yt_end LV cnt j (cnt - (j + 1)).toNat (j + 1) (by omega) (by omega) (fun m m1 m2 => by omega)
  refine zw_17 ha ⟨by omega, by omega⟩ (ys_17_4 ha (by omega) j0 (by omega) (e := e) (by omega) ?_ ?_ (k e e1 e2 e3 e4) (e - (j + 1)).toNat (j + 1) (by omega) (by omega))
  · rw [r1]; exact e3
  · rw [r1, r3]; exact e4
set_option maxRecDepth 100000 in
theorem ys_28k {s : zq_S} {q : List Int × Int} (ha : zq_o 4 a) (hb : zq_o 1 b) (hr : yt_rows s a LV KD cnt) (x0 : 0 ≤ x) (x1 : x < 12) (hx : yx s b q) (k : ∀ s', yx s' b (yx_ps (zq_T b) q (if KD x = 6 ∨ KD x = 7 then ye_cl (KD x) else [])) → yf [b, b + 1] s s' → K s') : zq_Ex X 28 0 [.ref a, zq_vi x, .ref b] [] s (zq_rv K) := by
  refine zw_28 ha ⟨by omega, by omega⟩ hb ⟨⟨x0, x1⟩, ?_⟩
  rw [hr.2.1]
  unfold ye_cl at k
  split
  · next h =>
    rw [h] at k
    exact ys_19 hb hx (by decide) fun s1 x1 f1 => k s1 x1 f1
  · next h =>
    refine ⟨⟨x0, x1⟩, ?_⟩
    split
    · next h7 =>
      rw [h7] at k
      exact ys_23' hb hx (w := [62, 62]) (by decide +kernel) k
    · next h7 =>
      rw [if_neg (by omega)] at k
      exact k s hx (yf.refl _ _)
/-- a node behind which nothing is closed now -/
def yt_C (LV KD : Int → Int) (cnt i j : Int) : Prop := ¬ (KD j = 6 ∨ KD j = 7) ∨ (∃ m, j < m ∧ m ≤ i ∧ LV m ≤ LV j) ∨ (i + 1 < cnt ∧ LV j < LV (i + 1))
set_option maxRecDepth 100000 in
theorem ys_16_skip {s : zq_S} {q : List Int × Int} (ha : zq_o 4 a) (hb : zq_o 1 b) (hr : yt_rows s a LV KD cnt) (x0 : 0 ≤ x) {e i : Int} (he : zq_iv e) (i1 : i < cnt) (hx : yx s b q) : ∀ (n : Nat) (k : Int), k ≤ i → x ≤ k - n + 1 → (∀ j, k - n < j → j ≤ k → yt_C LV KD cnt i j) → (∀ s', yx s' b q → yf [b, b + 1] s s' → zq_Ex X 16 39 [.ref a, zq_vi x, .ref b, zq_vi e, zq_vi i, zq_vi (k - n)] [] s' (zq_rv K)) → zq_Ex X 16 39 [.ref a, zq_vi x, .ref b, zq_vi e, zq_vi i, zq_vi k] [] s (zq_rv K) := by
  intro n
  induction n generalizing s with
  | zero =>
    intro k _ _ _ h
    have := h s hx (yf.refl _ _)
    rw [show k - ((0 : Nat) : Int) = k by omega] at this
    exact this
  | succ n ih =>
    intro k hk hxk hC h
    have hc12 := hr.2.2.2
    have go : ∀ s', yx s' b q → yf [b, b + 1] s s' → zq_Ex X 16 39 [.ref a, zq_vi x, .ref b, zq_vi e, zq_vi i, zq_vi (k + (-1))] [] s' (zq_rv K) := fun s' hx' f' => by
      refine ih (hr.fr hb ha f') hx' (k + (-1)) (by omega) (by omega) (fun j j1 j2 => hC j (by omega) (by omega)) fun s2 x2 f2 => ?_
      have := h s2 x2 (f'.trans f2)
      rw [show k + -1 - (n : Int) = k - ((n + 1 : Nat) : Int) by omega]
      exact this
    refine zw_16_39 ha ⟨by omega, by omega⟩ hb he ⟨by omega, by omega⟩ ⟨by omega, by omega⟩ ?_
    rw [if_neg (by omega)]
    refine ys_17g ha hr (by omega) (by omega) fun e' e1 e2 e3 e4 => ⟨⟨by omega, by omega⟩, ?_⟩
    split
    · next heq =>
      refine ys_28k ha hb hr (by omega) (by omega) hx fun s' x' f' => go s' ?_ f'
      rcases hC k (by omega) (by omega) with z | ⟨m, m1, m2, m3⟩ | ⟨z1, z2⟩
      · rw [if_neg z] at x'
        exact x'
      · have := e3 m m1 (by omega)
        omega
      · have := e4 (by omega)
        rw [heq] at this
        omega
    · exact go s hx (yf.refl _ _)
set_option maxRecDepth 100000 in
theorem ys_16_39 (ha : zq_o 4 a) (hb : zq_o 1 b) (x0 : 0 ≤ x) {e : Int} {R : List ye_E} (he : e = cnt - (ye_nl l R).length) (st0 : List Int) : ∀ (es B : List ye_E) (s : zq_S) (i k lv : Int) (os : List (Int × Int)) (f : Bool) (q : List Int × Int), es = B ++ R → (os = [] → B = []) → (os ≠ [] → ye_skip es os.length = some R) → yt_rows s a LV KD cnt → yt_tr s a (i + 1) lv es → ye_wf (os.map Prod.snd ++ st0) es → lv = l + os.length →
    (∀ (t : Nat) (j kd : Int), os[t]? = some (j, kd) → x ≤ j ∧ j ≤ k ∧ LV j = lv - 1 - t ∧ KD j = kd ∧ (kd = 6 ∨ kd = 7) ∧ ∀ m, j < m → m ≤ i → LV j < LV m) →
    (∀ j, x ≤ j → j ≤ k → (∀ kd, (j, kd) ∉ os) → ¬ (KD j = 6 ∨ KD j = 7) ∨ ∃ m, j < m ∧ m ≤ i ∧ LV m ≤ LV j) →
    (∀ j, k < j → j ≤ i → lv ≤ LV j) → (f = true → LV i < lv) → (f = false → lv ≤ LV i) → lv ≤ LV i + 1 → x - 1 ≤ k → k ≤ i → x ≤ i → i < cnt → yx s b q → (∀ s', yx s' b (yx_ps (zq_T b) q (ye_pr f B)) → yf [b, b + 1] s s' → K s') → zq_Ex X 16 39 [.ref a, zq_vi x, .ref b, zq_vi e, zq_vi i, zq_vi k] [] s (zq_rv K) := by
  intro es
  induction es with
  | nil =>
    intro B s i k lv os f q hes ho1 ho2 hr ht hwf hlv hS hC hD hf1 hf2 hf3 hxk hki hxi hic hx kk
    have hos : os = [] := by
      cases os with
      | nil => rfl
      | cons o os => have := ho2 (by simp); cases this
    subst hos
    have hB := ho1 rfl
    subst hB
    have hR : R = [] := by simpa using hes.symm
    subst hR
    have hc12 := hr.2.2.2
    have hcc : cnt = i + 1 := by
      have := ht.1
      rw [hr.2.2.1] at this
      simpa [ye_nl] using this
    refine ys_16_skip ha hb hr x0 ⟨by simp [ye_nl] at he; omega, by simp [ye_nl] at he; omega⟩ hic hx (k - (x - 1)).toNat k hki (by omega) (fun j j1 j2 => ?_) fun s' x' f' => ?_
    · rcases hC j (by omega) (by omega) (fun kd => by simp) with z | z
      · exact Or.inl z
      · exact Or.inr (Or.inl z)
    · simp [ye_nl] at he
      rw [show k - (((k - (x - 1)).toNat : Nat) : Int) = x - 1 by omega]
      refine zw_16_39 ha ⟨by omega, by omega⟩ hb ⟨by omega, by omega⟩ ⟨by omega, by omega⟩ ⟨by omega, by omega⟩ ?_
      rw [if_pos (by omega)]
      refine zw_16_9 ha ⟨by omega, by omega⟩ hb ⟨by omega, by omega⟩ ⟨by omega, by omega⟩ rfl ?_
      rw [if_neg (by omega)]
      exact kk s' x' f'
  | cons ev es ih =>
    intro B s i k lv os f q hes ho1 ho2 hr ht hwf hlv hS hC hD hf1 hf2 hf3 hxk hki hxi hic hx kk
    have hc12 := hr.2.2.2
    have hcnt := ht.1
    rw [hr.2.2.1] at hcnt
    cases os with
    | nil =>
      have hB := ho1 rfl
      subst hB
      have hR : R = ev :: es := by simpa using hes.symm
      subst hR
      have hl2 : lv = l := by simpa using hlv
      subst hl2
      refine ys_16_skip ha hb hr x0 ⟨by omega, by omega⟩ hic hx (k - (x - 1)).toNat k hki (by omega) (fun j j1 j2 => ?_) fun s' x' f' => ?_
      · rcases hC j (by omega) (by omega) (fun kd => by simp) with z | z
        · exact Or.inl z
        · exact Or.inr (Or.inl z)
      · rw [show k - (((k - (x - 1)).toNat : Nat) : Int) = x - 1 by omega]
        refine zw_16_39 ha ⟨by omega, by omega⟩ hb ⟨by omega, by omega⟩ ⟨by omega, by omega⟩ ⟨by omega, by omega⟩ ?_
        rw [if_pos (by omega)]
        refine zw_16_9 ha ⟨by omega, by omega⟩ hb ⟨by omega, by omega⟩ ⟨by omega, by omega⟩ rfl ?_
        rw [if_neg (by omega)]
        exact kk s' x' f'
    | cons o os =>
      obtain ⟨j1, kd1⟩ := o
      have hsk := ho2 (by simp)
      obtain ⟨t1, t2, t3, t4, t5, t6⟩ := hS 0 j1 kd1 rfl
      have hlow : ∀ j kd, (j, kd) ∈ os → j < j1 := fun j kd hj => by
        obtain ⟨t, ht', hte⟩ := List.getElem_of_mem hj
        obtain ⟨u1, u2, u3, u4, u5, u6⟩ := hS (t + 1) j kd (by rw [List.getElem?_cons_succ, List.getElem?_eq_getElem ht', hte])
        by_cases hlt : j < j1
        · exact hlt
        · by_cases he2 : j = j1
          · subst he2; omega
          · have := t6 j (by omega) (by omega)
            omega
      cases ev with
      | inr c =>
        obtain ⟨hw1, hw2, hw3⟩ := hwf
        have hw1 : c = kd1 := hw1
        subst hw1
        have hcl := ht.close
        have hhd : i + 1 < cnt → LV (i + 1) ≤ lv - 1 := fun hlt => by
          have h1 := hcl.1
          rw [hr.2.2.1] at h1
          cases hnl : ye_nl (lv - 1) es with
          | nil => rw [hnl] at h1; simp at h1; omega
          | cons qq ns =>
            obtain ⟨l', d'⟩ := qq
            have hle := ye_nl_hd es (lv - 1) l' d' ns hnl
            have h2 := (hcl.2.1 0 l' d' (by rw [hnl]; rfl)).2.1
            rw [hr.1] at h2
            simp at h2
            omega
        have hBc : ∃ B', B = .inr c :: B' ∧ es = B' ++ R := by
          have hsk : (if os.length + 1 ≤ 1 then some es else ye_skip es (os.length + 1 - 1)) = some R := hsk
          cases B with
          | nil =>
            exfalso
            have hR : R = .inr c :: es := by simpa using hes.symm
            have hle : R.length ≤ es.length := by
              by_cases h1 : os.length + 1 ≤ 1
              · rw [if_pos h1] at hsk
                cases hsk
                omega
              · rw [if_neg h1] at hsk
                exact ye_skip_len hsk
            rw [hR] at hle
            simp at hle
            omega
          | cons b0 B' =>
            simp at hes
            exact ⟨B', by rw [← hes.1], hes.2⟩
        obtain ⟨B', hB', hes'⟩ := hBc
        have hee : zq_iv e := by
          have := he
          have : (ye_nl l R).length ≤ 100000 := by
            have h1 := hcl.1
            rw [hr.2.2.1] at h1
            have h2 : ∀ (es R : List ye_E) (n : Nat), ye_skip es n = some R → 1 ≤ n → ∀ l : Int, (ye_nl l R).length ≤ (ye_nl (l + n) es).length := fun es R n hh hn l => by
              obtain ⟨Bn, b1, _, _⟩ := ye_nl_skip (l := l) hh hn
              rw [b1]
              simp
            have h3 := h2 _ _ _ hsk (by simp) l
            have h4 := ht.1
            rw [hr.2.2.1] at h4
            rw [hlv] at h4
            omega
          exact ⟨by omega, by omega⟩
        refine ys_16_skip ha hb hr x0 hee hic hx (k - j1).toNat k hki (by omega) (fun j h1 h2 => ?_) fun s' x' f' => ?_
        · rcases hC j (by omega) (by omega) (fun kd hm => by
            rcases List.mem_cons.mp hm with z | z
            · cases z; omega
            · have := hlow j kd z; omega) with z | z
          · exact Or.inl z
          · exact Or.inr (Or.inl z)
        · rw [show k - (((k - j1).toNat : Nat) : Int) = j1 by omega]
          have hr' := hr.fr hb ha f'
          refine zw_16_39 ha ⟨by omega, by omega⟩ hb hee ⟨by omega, by omega⟩ ⟨by omega, by omega⟩ ?_
          rw [if_neg (by omega)]
          refine ys_17g ha hr' (by omega) (by omega) fun e' e1 e2 e3 e4 => ⟨⟨by omega, by omega⟩, ?_⟩
          have hend : e' = i + 1 := by
            by_cases h1 : e' < i + 1
            · have := t6 e' e1 (by omega)
              have := e4 (by omega)
              omega
            · by_cases h2 : i + 1 < e'
              · have := e3 (i + 1) (by omega) h2
                have := hhd (by omega)
                simp at t3
                omega
              · omega
          rw [if_pos hend]
          refine ys_28k ha hb hr' (by omega) (by omega) x' fun s2 x2 f2 => ?_
          rw [t4, if_pos t5] at x2
          simp at t3
          refine ih B' s2 i (j1 + (-1)) (lv - 1) os false _ hes' (fun ho => ?_) (fun ho => ?_) (hr'.fr hb ha f2) (hcl.fr hb ha (f'.trans f2)) hw3 ?_ ?_ ?_ ?_ (fun z => by cases z) (fun _ => by omega) (by omega) (by omega) (by omega) hxi hic x2 fun s3 x3 f3 => kk s3 ?_ ((f'.trans f2).trans f3)
          · subst ho
            have hsk : (if 0 + 1 ≤ 1 then some es else ye_skip es (0 + 1 - 1)) = some R := hsk
            rw [if_pos (by omega)] at hsk
            cases hsk
            have h9 := congrArg List.length hes'
            simp at h9
            exact h9
          · have hsk : (if os.length + 1 ≤ 1 then some es else ye_skip es (os.length + 1 - 1)) = some R := hsk
            rw [if_neg (by have : os.length ≠ 0 := fun z => ho (List.length_eq_zero_iff.mp z); omega)] at hsk
            exact hsk
          · simp at hlv; omega
          · intro t j kd hj
            obtain ⟨u1, u2, u3, u4, u5, u6⟩ := hS (t + 1) j kd (by rw [List.getElem?_cons_succ]; exact hj)
            have := hlow j kd (List.mem_of_getElem? hj)
            refine ⟨u1, by omega, by rw [u3]; omega, u4, u5, u6⟩
          · intro j h1 h2 h3
            refine hC j h1 (by omega) fun kd hm => ?_
            rcases List.mem_cons.mp hm with z | z
            · cases z; omega
            · exact h3 kd z
          · intro j h1 h2
            by_cases hj : j = j1
            · subst hj; omega
            · have := t6 j (by omega) h2
              omega
          · rw [hB']
            have ep : ye_pr f (.inr c :: B') = ye_cl c ++ ye_pr false B' := rfl
            rw [ep, yx_ps_app]
            exact x3
      | inl d =>
        obtain ⟨n1, n2, n3⟩ := ht.node
        rw [hr.2.2.1] at n3
        obtain ⟨hw1, _, hw3⟩ := hwf
        have hLi : LV (i + 1) = lv := by rw [← hr.1]; exact n1.2.1
        have hKi : KD (i + 1) = d.1 := by rw [← hr.2.1]; exact n1.1
        have hsk : ye_skip es (if ye_nest d = true then os.length + 1 + 1 else os.length + 1) = some R := hsk
        have hBc : ∃ B', B = .inl d :: B' ∧ es = B' ++ R := by
          cases B with
          | nil =>
            exfalso
            have hR : R = .inl d :: es := by simpa using hes.symm
            have hle : R.length ≤ es.length := ye_skip_len hsk
            rw [hR] at hle
            simp at hle
            omega
          | cons b0 B' =>
            simp at hes
            exact ⟨B', by rw [← hes.1], hes.2⟩
        obtain ⟨B', hB', hes'⟩ := hBc
        have hel : i + 2 ≤ e ∧ e ≤ cnt := by
          have h1 := n2.1
          rw [hr.2.2.1] at h1
          obtain ⟨Bn, b1, _, _⟩ := ye_nl_skip (l := l) hsk (by split <;> omega)
          have e1 : (if ye_nest d = true then lv + 1 else lv) = l + ((if ye_nest d = true then os.length + 1 + 1 else os.length + 1 : Nat) : Int) := by
            rw [hlv]
            split <;> simp <;> omega
          rw [e1, b1] at h1
          simp at h1
          omega
        refine ys_16_skip ha hb hr x0 ⟨by omega, by omega⟩ hic hx (k - (x - 1)).toNat k hki (by omega) (fun j h1 h2 => ?_) fun s' x' f' => ?_
        · by_cases hin : ∃ kd, (j, kd) ∈ (j1, kd1) :: os
          · obtain ⟨kd, hm⟩ := hin
            obtain ⟨t, ht', hte⟩ := List.getElem_of_mem hm
            obtain ⟨u1, u2, u3, u4, u5, u6⟩ := hS t j kd (by rw [List.getElem?_eq_getElem ht', hte])
            exact Or.inr (Or.inr ⟨n3, by omega⟩)
          · rcases hC j (by omega) (by omega) (fun kd hm => hin ⟨kd, hm⟩) with z | z
            · exact Or.inl z
            · exact Or.inr (Or.inl z)
        · rw [show k - (((k - (x - 1)).toNat : Nat) : Int) = x - 1 by omega]
          have hr' := hr.fr hb ha f'
          refine zw_16_39 ha ⟨by omega, by omega⟩ hb ⟨by omega, by omega⟩ ⟨by omega, by omega⟩ ⟨by omega, by omega⟩ ?_
          rw [if_pos (by omega)]
          refine zw_16_9 ha ⟨by omega, by omega⟩ hb ⟨by omega, by omega⟩ ⟨by omega, by omega⟩ rfl ?_
          rw [if_pos (by omega), if_neg (by omega)]
          refine ys_18 ha hb (by omega) (by omega) hw1 (n1.fr hb ha f') (f := f) (fun z => ?_) (fun z => ?_) x' fun s2 x2 f2 => ?_
          · rw [hr'.1, show i + 1 - 1 = i by omega]; exact hf1 z
          · rw [hr'.1, show i + 1 - 1 = i by omega]; exact hf2 z
          have hr2 := hr'.fr hb ha f2
          refine ys_22 ha hb (by omega) (by omega) hw1 ((n1.fr hb ha f').fr hb ha f2) x2 fun s3 x3 f3 => ?_
          have ft := (f'.trans f2).trans f3
          refine ih B' s3 (i + 1) (i + 1) (if ye_nest d = true then lv + 1 else lv) (if ye_nest d = true then (i + 1, d.1) :: (j1, kd1) :: os else (j1, kd1) :: os) (ye_nest d) _ hes' (fun ho => ?_) (fun _ => ?_) (hr.fr hb ha ft) (n2.fr hb ha ft) ?_ ?_ ?_ ?_ (fun j h1 h2 => by omega) (fun z => ?_) (fun z => ?_) ?_ (by omega) (by omega) (by omega) (by omega) x3 fun s4 x4 f4 => kk s4 ?_ (ft.trans f4)
          · split at ho <;> cases ho
          · rw [← hsk]
            congr 1
            split <;> rfl
          · cases hd : ye_nest d with
            | true => rw [hd] at hw3; exact hw3
            | false => rw [hd] at hw3; exact hw3
          · simp at hlv
            split <;> simp <;> omega
          · intro t j kd hj
            have old : ∀ (t : Nat) (lv' : Int), ((j1, kd1) :: os)[t]? = some (j, kd) → lv' = lv → x ≤ j ∧ j ≤ i + 1 ∧ LV j = lv' - 1 - t ∧ KD j = kd ∧ (kd = 6 ∨ kd = 7) ∧ ∀ m, j < m → m ≤ i + 1 → LV j < LV m := fun t lv' hj hlv' => by
              obtain ⟨u1, u2, u3, u4, u5, u6⟩ := hS t j kd hj
              refine ⟨u1, by omega, by omega, u4, u5, fun m m1 m2 => ?_⟩
              by_cases hm : m = i + 1
              · subst hm; omega
              · exact u6 m m1 (by omega)
            cases hd : ye_nest d with
            | false =>
              rw [hd] at hj
              exact old t _ hj rfl
            | true =>
              rw [hd] at hj
              simp only [if_true] at hj ⊢
              cases t with
              | zero =>
                simp at hj
                obtain ⟨z1, z2⟩ := hj
                subst z1
                subst z2
                refine ⟨by omega, by omega, by rw [hLi]; omega, hKi, ?_, fun m m1 m2 => by omega⟩
                unfold ye_nest at hd
                simpa using hd
              | succ t =>
                obtain ⟨u1, u2, u3, u4, u5, u6⟩ := old t lv (by simpa using hj) rfl
                exact ⟨u1, u2, by rw [u3]; omega, u4, u5, u6⟩
          · intro j h1 h2 h3
            by_cases hj : j = i + 1
            · subst hj
              left
              rw [hKi]
              intro z
              have hd : ye_nest d = true := by unfold ye_nest; simpa using z
              rw [hd] at h3
              exact h3 d.1 (by simp)
            · have hno : ∀ kd, (j, kd) ∉ (j1, kd1) :: os := fun kd hm => by
                refine h3 kd ?_
                split
                · exact List.mem_cons_of_mem _ hm
                · exact hm
              by_cases hjk : j ≤ k
              · rcases hC j h1 hjk hno with z | ⟨m, m1, m2, m3⟩
                · exact Or.inl z
                · exact Or.inr ⟨m, m1, by omega, m3⟩
              · exact Or.inr ⟨i + 1, by omega, by omega, by have := hD j (by omega) (by omega); omega⟩
          · rw [z, hLi, if_pos rfl]; omega
          · rw [z, hLi]; simp
          · rw [hLi]; split <;> omega
          · rw [hB']
            have ep : ye_pr f (.inl d :: B') = (if f = true then [] else [32]) ++ (ye_ky d ++ (ye_op d ++ ye_pr (ye_nest d) B')) := rfl
            rw [ep, ← List.append_assoc, yx_ps_app, yx_ps_app]
            exact x4
set_option maxRecDepth 100000 in
/-- Tree.print: the value whose first node is x -/
theorem ys_16 {s : zq_S} {q : List Int × Int} (ha : zq_o 4 a) (hb : zq_o 1 b) {d : ye_N} {es B R : List ye_E} {st : List Int} (ht : yt_tr s a x l (.inl d :: es)) (hw : ye_wf st (.inl d :: es)) (hr : ye_rest d es = some R) (hB : es = B ++ R) (hx : yx s b q) (k : ∀ s', yx s' b (yx_ps (zq_T b) q (ye_op d ++ ye_pr (ye_nest d) B)) → yf [b, b + 1] s s' → K s') : zq_Ex X 16 0 [.ref a, zq_vi x, .ref b, zz_no, zz_no, zz_no] [] s (zq_rv K) := by
  obtain ⟨n1, n2, n3⟩ := ht.node
  have hx0 := ht.2.2.1
  have h12 := ht.2.2.2
  obtain ⟨hw1, _, hw3⟩ := hw
  have hrows : yt_rows s a (zq_i s (a + 2)) (zq_i s (a + 1)) (zq_i s a 0) := ⟨rfl, rfl, rfl, h12⟩
  have hel : x + 1 ≤ zq_i s a 0 - (ye_nl l R).length := by
    obtain ⟨Bn, b1, _, _⟩ := ye_nl_rest (l := l) hr
    have h1 := n2.1
    rw [b1] at h1
    simp at h1
    omega
  refine zw_16 ha ⟨by omega, by omega⟩ hb (ys_17 ha ht hr ?_)
  refine zw_16_9 ha ⟨by omega, by omega⟩ hb ⟨by omega, by omega⟩ ⟨by omega, by omega⟩ rfl ?_
  rw [if_pos (by omega), if_pos (by omega)]
  refine ys_22 ha hb hx0 (by omega) hw1 n1 hx fun s1 x1 f1 => ?_
  have hl : zq_i s (a + 2) x = l := n1.2.1
  have hkd : zq_i s (a + 1) x = d.1 := n1.1
  have hsk : ye_nest d = true → ye_skip es 1 = some R := fun hd => by
    unfold ye_rest at hr
    rw [hd] at hr
    exact hr
  refine ys_16_39 (l := l) ha hb hx0 rfl st es B s1 x x (if ye_nest d = true then l + 1 else l) (if ye_nest d = true then [(x, d.1)] else []) (ye_nest d) _ hB (fun ho => ?_) (fun ho => ?_) (hrows.fr hb ha f1) (n2.fr hb ha f1) ?_ ?_ ?_ ?_ (fun j h1 h2 => by omega) (fun z => ?_) (fun z => ?_) ?_ (by omega) (by omega) (by omega) n3 x1 fun s2 x2 f2 => k s2 ?_ (f1.trans f2)
  · cases hd : ye_nest d with
    | true => rw [hd] at ho; cases ho
    | false =>
      unfold ye_rest at hr
      rw [hd] at hr
      cases hr
      have h9 := congrArg List.length hB
      simp at h9
      exact h9
  · cases hd : ye_nest d with
    | true => exact hsk hd
    | false => rw [hd] at ho; exact absurd rfl ho
  · cases hd : ye_nest d with
    | true => rw [hd] at hw3; exact hw3
    | false => rw [hd] at hw3; exact hw3
  · split <;> simp
  · intro t j kd hj
    cases hd : ye_nest d with
    | false => rw [hd] at hj; simp at hj
    | true =>
      rw [hd] at hj
      cases t with
      | zero =>
        simp at hj
        obtain ⟨z1, z2⟩ := hj
        subst z1
        subst z2
        refine ⟨by omega, by omega, by rw [hl]; simp, hkd, ?_, fun m m1 m2 => by omega⟩
        unfold ye_nest at hd
        simpa using hd
      | succ t => simp at hj
  · intro j h1 h2 h3
    have : j = x := by omega
    subst this
    left
    rw [hkd]
    intro z
    have hd : ye_nest d = true := by unfold ye_nest; simpa using z
    rw [hd] at h3
    exact h3 d.1 (by simp)
  · rw [z, hl, if_pos rfl]; omega
  · rw [z, hl]; simp
  · rw [hl]; split <;> omega
  · rw [yx_ps_app]
    exact x2
end YP3
