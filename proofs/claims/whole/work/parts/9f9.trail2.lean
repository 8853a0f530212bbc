/-! load: the trailer in the class -/
section YLF9
variable {X : Nat × (Nat → Int32)}
set_option maxRecDepth 100000 in
theorem ys_55r {s : zq_S} {K : Int → zq_S → Prop} {a : Nat} (ha : zq_o 4 a) {d : ye_N} {es : List ye_E} (ht : yt_tr s a 0 0 (.inl d :: es)) (hr : ye_rest d es = some []) (ho : ye_oks es) {w : List Int} (hw : ye_nm w) (kn : ye_fk w es 0 = none → K (-1) s) (ks : ∀ d' es', ye_fk w es 0 = some (d', es') → ∀ k', yt_tr s a k' 1 (.inl d' :: es') → 0 < k' → K k' s) : zq_Ex X 55 0 [.ref a, zq_vi 0, .long (ye_pk w 0), zz_no, zz_no, zz_no] [] s (zq_rp zq_iv K) := by
  cases hn : ye_nest d with
  | true =>
    refine ys_55 (nm := w) ha ht (by decide) (by decide) hn hr (fun d' hd' => yk_key (ho.1 d' hd') hw) ?_
    cases hf : ye_fk w es 0 with
    | none => exact kn hf
    | some p =>
      obtain ⟨d', es'⟩ := p
      exact fun k' h1 h2 => ks d' es' hf k' h1 h2
  | false =>
    have hes : es = [] := by
      unfold ye_rest at hr
      rw [hn, if_neg (by decide)] at hr
      exact Option.some.inj hr
    subst hes
    have hc : zq_i s a 0 = 1 := by
      rw [ht.1]
      rfl
    refine zw_55 ha ⟨by decide, by decide⟩ (ys_17 ha ht hr ?_)
    have e : zq_i s a 0 - ((ye_nl 0 []).length : Int) = 1 := by
      rw [hc]
      rfl
    rw [e]
    refine zw_55_12 ha ⟨by decide, by decide⟩ ⟨by decide, by decide⟩ ⟨by decide, by decide⟩ ?_
    rw [if_neg (by decide)]
    exact kn rfl
set_option maxRecDepth 100000 in
theorem yNR_nm : ye_nm yNR := ⟨by decide, by decide, by decide⟩
set_option maxRecDepth 100000 in
theorem yNP_nm : ye_nm yNP := ⟨by decide, by decide, by decide⟩
set_option maxRecDepth 100000 in
theorem ys_118 {s : zq_S} {K : Int → zq_S → Prop} {d : ye_N} {es : List ye_E} (ht : yt_tr s 11 0 0 (.inl d :: es)) (hr : ye_rest d es = some []) (ho : ye_oks es) (k : K (yb (yl_trl d es).isSome) s) : zq_Ex X 118 0 [.ref 7, zz_no, zz_no] [] s (zq_rp zq_bo K) := by
  have ha : zq_o 4 11 := by decide +kernel
  obtain ⟨m1, m2, m3⟩ := ht.node
  have h12 := ht.2.2.2
  have kind : ∀ {K' : Int → zq_S → Prop} {k' : Int} {d' : ye_N} {es' : List ye_E}, yt_tr s 11 k' 1 (.inl d' :: es') → 0 < k' → K' d'.1 s → zq_Ex X 48 0 [.ref 11, zq_vi k'] [] s (zq_rp zq_iv K') := fun {K' k' d' es'} h h0 kk => by
    obtain ⟨q1, q2, q3⟩ := h.node
    exact ys_48n ha h12 (by omega) q3 q1.1 kk
  have none48 : ∀ {K' : Int → zq_S → Prop}, K' (-1) s → zq_Ex X 48 0 [.ref 11, zq_vi (-1)] [] s (zq_rp zq_iv K') := fun {K'} kk => by
    refine ys_48 ha h12 ⟨by decide, by decide⟩ ?_
    rw [if_neg (by omega)]
    exact kk
  refine zw_118 (ys_75R (ys_55r ha ht hr ho yNR_nm (fun hR => ?_) (fun r es1 hR kr hkr kr0 => ?_)))
  · have e : (yl_trl d es).isSome = false := by
      unfold yl_trl
      rw [hR]
      split <;> rfl
    rw [e] at k
    have rest : ∀ x9 : Int, zq_Ex X 48 0 [(.ref (11)), (zq_vi (0))] [] s (zq_rp zq_iv fun x_12 s_11 => (if x_12 = 7 then (zq_Ex X 48 0 [(.ref (11)), (zq_vi (-1))] [] s_11 (zq_rp zq_iv fun x_16 s_15 => (if x_16 = 8 then (if x9 = (-1) then K (1) s_15 else (zq_Ex X 48 0 [(.ref (11)), (zq_vi x9)] [] s_15 (zq_rp zq_iv fun x_21 s_20 => (if x_21 = 3 then K (1) s_20 else K (0) s_20)))) else K (0) s_15))) else K (0) s_11)) := fun x9 => by
      refine ys_48n ha h12 (by decide) m3 m1.1 (yl_if (fun h7 => none48 ?_) (fun h7 => k))
      rw [if_neg (by decide)]
      exact k
    exact ys_75P (ys_55r ha ht hr ho yNP_nm (fun hP => rest (-1)) (fun q es2 hP kq hkq kq0 => rest kq))
  · refine ys_75P (ys_55r ha ht hr ho yNP_nm (fun hP => ?_) (fun q es2 hP kq hkq kq0 => ?_))
    · refine ys_48n ha h12 (by decide) m3 m1.1 (yl_if (fun h7 => kind hkr kr0 (yl_if (fun h8 => ?_) (fun h8 => ?_))) (fun h7 => ?_))
      · rw [if_pos rfl]
        have e : (yl_trl d es).isSome = true := by
          unfold yl_trl
          rw [if_pos h7, hR]
          show (if r.1 = 8 then _ else none).isSome = true
          rw [if_pos h8, hP]
          rfl
        rw [e] at k
        exact k
      · have e : (yl_trl d es).isSome = false := by
          unfold yl_trl
          rw [if_pos h7, hR]
          show (if r.1 = 8 then _ else none).isSome = false
          rw [if_neg h8]
          rfl
        rw [e] at k
        exact k
      · have e : (yl_trl d es).isSome = false := by
          unfold yl_trl
          rw [if_neg h7]
          rfl
        rw [e] at k
        exact k
    · refine ys_48n ha h12 (by decide) m3 m1.1 (yl_if (fun h7 => kind hkr kr0 (yl_if (fun h8 => ?_) (fun h8 => ?_))) (fun h7 => ?_))
      · rw [if_neg (by omega)]
        refine kind hkq kq0 (yl_if (fun h3 => ?_) (fun h3 => ?_))
        · have e : (yl_trl d es).isSome = true := by
            unfold yl_trl
            rw [if_pos h7, hR]
            show (if r.1 = 8 then _ else none).isSome = true
            rw [if_pos h8, hP]
            show (if q.1 = 3 then _ else none).isSome = true
            rw [if_pos h3]
            rfl
          rw [e] at k
          exact k
        · have e : (yl_trl d es).isSome = false := by
            unfold yl_trl
            rw [if_pos h7, hR]
            show (if r.1 = 8 then _ else none).isSome = false
            rw [if_pos h8, hP]
            show (if q.1 = 3 then _ else none).isSome = false
            rw [if_neg h3]
            rfl
          rw [e] at k
          exact k
      · have e : (yl_trl d es).isSome = false := by
          unfold yl_trl
          rw [if_pos h7, hR]
          show (if r.1 = 8 then _ else none).isSome = false
          rw [if_neg h8]
          rfl
        rw [e] at k
        exact k
      · have e : (yl_trl d es).isSome = false := by
          unfold yl_trl
          rw [if_neg h7]
          rfl
        rw [e] at k
        exact k
set_option maxRecDepth 100000 in
/-- where its root stands -/
theorem ys_119 {s : zq_S} {K : zq_S → Prop} {d : ye_N} {es : List ye_E} {u : Nat} (hu : zq_r s 7 7 = some u) (hu2 : u = 27 ∨ u = 126) (ht : yt_tr s 11 0 0 (.inl d :: es)) (hr : ye_rest d es = some []) (ho : ye_oks es) {ro : Int × Int × Option Int} (hro : yl_trl d es = some ro) (k : K (zq_si (zq_si s u 2 ro.1) u 3 ro.2.1)) : zq_Ex X 119 0 [.ref 7, zz_no] [] s (zq_rv K) := by
  have ha : zq_o 4 11 := by decide +kernel
  refine zw_119 (ys_75R (ys_55r ha ht hr ho yNR_nm (fun hR => ?_) (fun r es1 hR kr hkr kr0 => ?_)))
  · exfalso
    unfold yl_trl at hro
    rw [hR] at hro
    split at hro <;> cases hro
  · rw [if_neg (by omega)]
    obtain ⟨q1, q2, q3⟩ := hkr.node
    have h12 := ht.2.2.2
    have h7 : d.1 = 7 := Classical.byContradiction fun z => by
      unfold yl_trl at hro
      rw [if_neg z] at hro
      cases hro
    unfold yl_trl at hro
    rw [if_pos h7, hR] at hro
    have hro : (if r.1 = 8 then (match ye_fk yNP es 0 with
      | none => some (r.2.1, r.2.2.1, none)
      | some (q, _) => if q.1 = 3 then some (r.2.1, r.2.2.1, some q.2.1) else none) else none) = some ro := hro
    have h8 : r.1 = 8 := Classical.byContradiction fun z => by
      rw [if_neg z] at hro
      cases hro
    rw [if_pos h8] at hro
    have e12 : ro.1 = r.2.1 ∧ ro.2.1 = r.2.2.1 := by
      cases hP : ye_fk yNP es 0 with
      | none =>
        rw [hP] at hro
        have hro : some (r.2.1, r.2.2.1, (none : Option Int)) = some ro := hro
        have := Option.some.inj hro
        rw [← this]
        exact ⟨rfl, rfl⟩
      | some p =>
        obtain ⟨q, es2⟩ := p
        rw [hP] at hro
        have hro : (if q.1 = 3 then some (r.2.1, r.2.2.1, some q.2.1) else none) = some ro := hro
        split at hro
        · have := Option.some.inj hro
          rw [← this]
          exact ⟨rfl, rfl⟩
        · cases hro
    have n14 : zq_i s 14 kr = r.2.1 := by
      have h := q1.2.2.1
      unfold ye_nu at h
      rw [if_neg (by omega), if_pos (Or.inr h8)] at h
      exact h
    have n15 : zq_i (zq_si s u 2 (zq_i s 14 kr)) 15 kr = r.2.2.1 := by
      rw [zq_i_si, if_neg (fun z => by have := z.1; omega)]
      exact q1.2.2.2.1 h8
    refine ⟨u, hu, ⟨by omega, by omega⟩, ⟨by omega, by omega⟩, ?_⟩
    rw [n15, n14, ← e12.1, ← e12.2]
    exact k
end YLF9
