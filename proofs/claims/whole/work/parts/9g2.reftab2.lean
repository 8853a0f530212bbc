/-! load: the reference reads a table -/
abbrev yJt : List Int := [5, 23, 25, 26, 27, 28, 29, 32, 33, 41, 42]
abbrev yAt : List Nat := [235, 245, 246, 247, 248, 249, 250, 251, 252]
def yl_pv (o : Option Int) : Int := match o with
  | none => -1000001
  | some v => v
/-- what the numbers of a trailer are -/
def ybo (ro : Int × Int × Option Int) : Prop := (1 ≤ ro.1 ∧ ro.1 ≤ 9) ∧ (0 ≤ ro.2.1 ∧ ro.2.1 ≤ 9) ∧ ∀ v, ro.2.2 = some v → -1000000 < v ∧ v < 1000000
set_option maxRecDepth 100000 in
theorem ye_fk_mem {nm : List Int} : ∀ {es : List ye_E} {n : Nat} {d : ye_N} {es' : List ye_E}, ye_fk nm es n = some (d, es') → Sum.inl d ∈ es
  | [], n, d, es', h => by cases n <;> cases h
  | .inl d0 :: es, 0, d, es', h => by
    have h : (if d0.2.2.2.1 = nm then some (d0, es) else ye_fk nm es (if ye_nest d0 = true then 1 else 0)) = some (d, es') := h
    by_cases e : d0.2.2.2.1 = nm
    · rw [if_pos e] at h
      have this : d0 = d := congrArg Prod.fst (Option.some.inj h)
      rw [← this]
      exact List.mem_cons_self
    · rw [if_neg e] at h
      exact List.mem_cons_of_mem _ (ye_fk_mem h)
  | .inl d0 :: es, n + 1, d, es', h => by
    have h : ye_fk nm es (if ye_nest d0 = true then n + 2 else n + 1) = some (d, es') := h
    exact List.mem_cons_of_mem _ (ye_fk_mem h)
  | .inr k0 :: es, 0, d, es', h => by cases h
  | .inr k0 :: es, n + 1, d, es', h => by
    have h : ye_fk nm es n = some (d, es') := h
    exact List.mem_cons_of_mem _ (ye_fk_mem h)
set_option maxRecDepth 100000 in
theorem yl_trl_b {d : ye_N} {es : List ye_E} {ro : Int × Int × Option Int} (ho : ye_oks es) (h : yl_trl d es = some ro) : ybo ro := by
  unfold yl_trl at h
  by_cases h7 : d.1 = 7
  · rw [if_pos h7] at h
    cases hR : ye_fk yNR es 0 with
    | none => rw [hR] at h; cases h
    | some rr =>
      obtain ⟨r, esr⟩ := rr
      rw [hR] at h
      have h : (if r.1 = 8 then (match ye_fk yNP es 0 with
        | none => some (r.2.1, r.2.2.1, (none : Option Int))
        | some (q, _) => if q.1 = 3 then some (r.2.1, r.2.2.1, some q.2.1) else none) else none) = some ro := h
      by_cases h8 : r.1 = 8
      · rw [if_pos h8] at h
        obtain ⟨g1, g2, g3, g4⟩ := ye_ok8 (ho.1 r (ye_fk_mem hR)) h8
        cases hP : ye_fk yNP es 0 with
        | none =>
          rw [hP] at h
          have h : some (r.2.1, r.2.2.1, (none : Option Int)) = some ro := h
          rw [← Option.some.inj h]
          exact ⟨⟨g1, g2⟩, ⟨g3, g4⟩, fun v z => by cases z⟩
        | some qq =>
          obtain ⟨q, esq⟩ := qq
          rw [hP] at h
          have h : (if q.1 = 3 then some (r.2.1, r.2.2.1, some q.2.1) else none) = some ro := h
          by_cases h3 : q.1 = 3
          · rw [if_pos h3] at h
            rw [← Option.some.inj h]
            have hk := (ho.1 q (ye_fk_mem hP)).k3 h3
            exact ⟨⟨g1, g2⟩, ⟨g3, g4⟩, fun v z => by
              have z : q.2.1 = v := Option.some.inj z
              rw [← z]
              exact hk⟩
          · rw [if_neg h3] at h
            cases h
      · rw [if_neg h8] at h
        cases h
  · rw [if_neg h7] at h
    cases h
set_option maxRecDepth 100000 in
theorem yr_made_ok {S1 : yr_S} (hok : yr_ok S1) (hst : S1.2.2.1 = []) : yr_made S1 = ye_pr true S1.2.1 := by
  have hkn : S1.2.2.2 = none := by
    cases hk : S1.2.2.2 with
    | none => rfl
    | some w =>
      obtain ⟨_, n, ks, st, e⟩ := hok.2.2.2.2.2.1 w hk
      rw [hst] at e
      cases e
  unfold yr_made
  rw [hkn]
  exact List.append_nil _
section YLG2
variable {X : Nat × (Nat → Int32)}
set_option maxRecDepth 100000 in
/-- what a node in the scratch says -/
theorem ysc_nd {S : zq_S} (hmI : ym_I S) {p : Int} {d : ye_N} {es : List ye_E} {st : List Int} (h : ye_nd (ym_c S 2) p d es) (hwf : ye_wf st (.inl d :: es)) (p0 : 0 < p) : ye_ok d ∧ ye_oks es ∧ p < 500 ∧ ye_at (ym_c S 2) p (ye_op d ++ (ye_pr (ye_nest d) es ++ [0])) := by
  obtain ⟨w1, w2, w3⟩ := hwf
  have hat : ye_at (ym_c S 2) p (ye_op d ++ (ye_pr (ye_nest d) es ++ [0])) := by
    have := (ye_at_app.mp h).2
    rw [show p - ((ye_ky d).length : Int) + ((ye_ky d).length : Int) = p by omega] at this
    exact this
  refine ⟨w1, w3.oks, ?_, hat⟩
  obtain ⟨c, l, e1, _, _, _, _, _, e7, _⟩ := ye_op_hd w1
  have hat' := hat
  rw [e1] at hat'
  have t0 := ye_at_hd hat'
  have h5 := hmI.2.2.1
  refine Classical.byContradiction fun z => e7 ?_
  rw [← t0]
  unfold ym_c
  rw [if_neg (by omega), if_neg (by decide), if_neg (by decide), if_pos rfl, if_neg (by omega)]
set_option maxRecDepth 100000 in
theorem ys_207_237 {S : zq_S} (hmI : ym_I S) {x1 x2 x3 x4 x5 : Int} {v6 : Value} (i1 : zq_iv x1) (b2 : zq_bo x2) (b3 : zq_bo x3) (i4 : zq_iv x4) (c6 : v6.category = 1) {pv : Option Int} (hp : (x5 = -1 ∧ pv = none) ∨ ∃ q es st, ye_nd (ym_c S 2) x5 q es ∧ ye_wf st (.inl q :: es) ∧ 0 < x5 ∧ q.1 = 3 ∧ pv = some q.2.1) {K : Int → zq_S → Prop} (k : K (yl_pv pv) S) : zq_Ex X 207 237 [.ref 232, zq_vi x1, zq_vi x2, zq_vi x3, zq_vi x4, zq_vi x5, v6] [] S (zq_rp zq_iv K) := by
  have hq : ym_q 2 := ⟨by decide, by decide, Or.inl (by decide)⟩
  rcases hp with ⟨h5, hv⟩ | ⟨q, es, st, hnd, hwf, h5, h3, hv⟩
  · refine zw_207_237 i1 b2 b3 i4 ⟨by omega, by omega⟩ c6 ?_
    rw [if_pos (by omega)]
    rw [hv] at k
    exact k
  · obtain ⟨n4, n5, n3, n6⟩ := ysc_nd hmI hnd hwf h5
    refine zw_207_237 i1 b2 b3 i4 ⟨by omega, by omega⟩ c6 ?_
    rw [if_neg (by omega)]
    refine ys_161 hmI hq (by omega) (by omega) ?_
    have hk := ye_kind (by omega) n4 n5 n6
    have he := yr_end_at n4 n5 n6
    unfold yr_end at he
    rw [h3, if_neg (by decide), if_neg (by decide), if_neg (by decide), if_neg (by decide), if_neg (by decide)] at he
    have eo : ye_op q = ye_num q.2.1 := by unfold ye_op; rw [if_neg (by omega), if_neg (by omega), if_neg (by omega), if_pos h3]
    rw [eo] at n6 he
    have hl7 := ye_num_len q.2.1
    have hI3 : yp_isI (ym_c S 2) x5 (yp_wd (ym_c S 2) x5) = true := by
      rcases yr_kind hk (by omega) with ⟨z, _⟩ | ⟨z, _⟩ | ⟨z, _⟩ | ⟨z, _⟩ | ⟨z, _⟩ | ⟨z, _⟩ | ⟨z, _⟩ | ⟨z, _⟩ | ⟨_, z⟩
      · omega
      · omega
      · omega
      · omega
      · omega
      · omega
      · omega
      · omega
      · exact z
    refine ys_167 hmI hq (by omega) (by omega) (by omega) hI3 ?_
    rw [he, ye_num_val (n4.k3 h3) n6]
    rw [hv] at k
    exact k
set_option maxRecDepth 100000 in
theorem ys_207_211 {S : zq_S} (hmI : ym_I S) {x1 x2 x3 x4 x5 : Int} {v6 : Value} (i1 : zq_iv x1) (b2 : zq_bo x2) (b3 : zq_bo x3) (c6 : v6.category = 1) {r : ye_N} {esr : List ye_E} {st : List Int} (hnr : ye_nd (ym_c S 2) x4 r esr) (hwr : ye_wf st (.inl r :: esr)) (h4 : 0 < x4) (h8 : r.1 = 8) {pv : Option Int} (hp : (x5 = -1 ∧ pv = none) ∨ ∃ q es st, ye_nd (ym_c S 2) x5 q es ∧ ye_wf st (.inl q :: es) ∧ 0 < x5 ∧ q.1 = 3 ∧ pv = some q.2.1) {K : Int → zq_S → Prop} (k : ∀ S', ymf [41, 42] [] S S' → (x2 = 0 → S' = S) → (x2 ≠ 0 → zq_i S' 232 41 = r.2.1 ∧ zq_i S' 232 42 = r.2.2.1) → K (yl_pv pv) S') : zq_Ex X 207 211 [.ref 232, zq_vi x1, zq_vi x2, zq_vi x3, zq_vi x4, zq_vi x5, v6] [] S (zq_rp zq_iv K) := by
  have hq : ym_q 2 := ⟨by decide, by decide, Or.inl (by decide)⟩
  obtain ⟨n4, n5, n3, n6⟩ := ysc_nd hmI hnr hwr h4
  have i5 : zq_iv x5 := by
    rcases hp with ⟨h5, _⟩ | ⟨q, es, st', hnd, hwf, h5, _⟩
    · exact ⟨by omega, by omega⟩
    · have := (ysc_nd hmI hnd hwf h5).2.2.1
      exact ⟨by omega, by omega⟩
  have i4 : zq_iv x4 := ⟨by omega, by omega⟩
  refine zw_207_211 i1 b2 b3 i4 i5 c6 (yl_if (fun h2 => ?_) (fun h2 => ?_))
  · exact ys_207_237 hmI i1 b2 b3 i4 c6 hp (k S (ymf.refl _ _ _) (fun _ => rfl) (fun z => absurd h2 z))
  · have eo : ye_op r = [48 + r.2.1, 32, 48 + r.2.2.1, 32, 82] := by
      unfold ye_op
      rw [if_neg (by omega), if_neg (by omega), if_neg (by omega), if_neg (by omega), if_neg (by omega), if_neg (by omega), if_neg (by omega), if_neg (by omega)]
    rw [eo] at n6
    have t0 := n6 0 (by simp)
    have t2 := n6 2 (by simp)
    have t0 : ym_c S 2 x4 = 48 + r.2.1 := by simpa using t0
    have t2 : ym_c S 2 (x4 + 2) = 48 + r.2.2.1 := by simpa using t2
    refine ys_189 hmI hq i4 ?_
    rw [t0, show 48 + r.2.1 - 48 = r.2.1 by omega]
    have f1 : ymf [41, 42] [] S (zq_si S 232 41 r.2.1) := ymf.sf (by simp)
    have hm1 : ym_I (zq_si S 232 41 r.2.1) := hmI.cong (fun j hj => f1.f (by simp at hj ⊢; omega)) (f1.i (by simp) (by decide))
    have hc1 : ym_c (zq_si S 232 41 r.2.1) 2 = ym_c S 2 := f1.c (by decide) (by decide) (by decide)
    refine ys_190 hm1 hq i4 ⟨by omega, by omega⟩ ?_
    rw [hc1, t2, show 48 + r.2.2.1 - 48 = r.2.2.1 by omega]
    have f2 : ymf [41, 42] [] S (zq_si (zq_si S 232 41 r.2.1) 232 42 r.2.2.1) := f1.trans (ymf.sf (by simp))
    have hm2 : ym_I (zq_si (zq_si S 232 41 r.2.1) 232 42 r.2.2.1) := hmI.cong (fun j hj => f2.f (by simp at hj ⊢; omega)) (f2.i (by simp) (by decide))
    have hc2 : ym_c (zq_si (zq_si S 232 41 r.2.1) 232 42 r.2.2.1) 2 = ym_c S 2 := f2.c (by decide) (by decide) (by decide)
    refine ys_207_237 hm2 i1 b2 b3 i4 c6 (pv := pv) (by rw [hc2]; exact hp) (k _ f2 (fun z => absurd z h2) (fun _ => ⟨?_, ?_⟩))
    · rw [zq_i_si, if_neg (by simp), zq_i_si, if_pos ⟨rfl, rfl⟩]
    · rw [zq_i_si, if_pos ⟨rfl, rfl⟩]
end YLG2
