/-! the calls that are no bytecode of the tables, all together -/
/-- their words -/
def zp_w (Ts : List Cond) (own : String) (i : Instr) (r : List Nat) : Prop := match i with
  | .invokestatic idx => r = [4] → Cond.methodLink own idx arraycopyName ∈ Ts ∧ Cond.native arraycopyName ∈ Ts ∧ Cond.static arraycopyName ∈ Ts ∧ Cond.initialized "java/lang/System" ∈ Ts
  | .invokevirtual idx => (r = [5] → Cond.methodLink own idx zs_yL ∈ Ts) ∧ (r = [6] → Cond.methodLink own idx zs_yA ∈ Ts)
  | _ => True
/-- the string of number j -/
def zp_str (b0 : Nat) (Sx : State → Prop) (k : Nat) (cs : List Int32) : Prop := cs.length < 2 ^ 31 ∧ ∃ (v : Nat) (f : Nat → Int32), (∀ s, Sx s → zs_at b0 k v cs.length f s) ∧ ∀ j, j < cs.length → ((f j &&& 255).toUInt32 % 65536).toInt32 = cs.getD j 0 ∧ narrow .char (.int (cs.getD j 0)) = .int (cs.getD j 0)
theorem zp_two (z : Nat) (h : z < 2) : z = 0 ∨ z = 1 := by omega
section ZP
variable {l : Launch} {Z : zz_Z} {Y : zz_Y} {K : Nat → Nat × Nat} {X : Nat × (Nat → Int32)} {Ts : List Cond} {cl : List vw_C} {tys : List (ClassId × FieldType)} {tc : Nat → ClassId} {D : va_G} {Sx : State → Prop} {b0 b : Nat} {sa : Nat → Nat} {AO : List String} {SR : List (String × Nat × String × Nat)} {EX : List Nat}
theorem zp_ad {a : Nat} (h1 : zz_SB ≤ a) (h2 : a < zz_SC) : zz_ad b0 sa b a = sa (a - zz_SB) := by
  unfold zz_ad
  rw [if_neg (by omega), if_pos h2]
theorem zp_SP (hTab : zz_TAB Z Y K Ts cl tys tc AO SR EX) (hPW : ∀ M pc i n r, zz_cod Z M pc = some (i, n, r) → zp_w Ts (Y.1 M).cls i r) (hw : ∀ w ∈ zs_ws, w ∈ Ts) (hSt : zz_stable b0 Sx) (hC : ∀ s, Sx s → zs_cs b0 s) (hStr : ∀ j, zp_str b0 Sx (sa j) (zz_str Z j)) : zz_SP l Z Y K X Ts cl tys tc D Sx b0 b sa := by
  intro M pc n i r st st' h h' bc bs pc' bc' bs' hcod hsp hkd hwt hst p e R s m args below meth c H locs cells slots Q ls hx hA hme hml hfr hlo hb0 hh hS hc hs kk
  obtain ⟨m1, m2, m3, m4, m5, m6, m7⟩ := id hme
  have hts : ∀ w ∈ Ts, w.before args s = true := fun w hw => hA.1 w hw args
  obtain ⟨d0, dn, -, -, drk⟩ := hTab.1 M pc _ _ _ hcod
  have hpw := hPW M pc _ _ _ hcod
  obtain ⟨t0, t1, -, t3⟩ := hTab.2.2.1
  have hG := hTab.2.2.2
  cases i with
  | invokespecial idx =>
    exfalso
    simp only [zz_st2] at hst
    split at hst
    · cases hsp
    · cases hst
  | invokestatic idx =>
    have hn3 : n = 3 := dn.resolve_right (fun z => by cases z)
    subst hn3
    simp only [zz_st2] at hst
    split at hst
    · next n dp b' sp a t =>
      obtain ⟨w1, w2, w3, w4⟩ := hpw rfl
      obtain ⟨f1, f2⟩ := drk.2 4 rfl (by decide)
      have f1 : 4 ≤ (K M).1 := f1
      have f2 : 140 ≤ (K M).2 := f2
      have hsum : ((t.map (zz_v (zz_ad b0 sa b))).map fun v => v.category).sum + (nativeFrameWords "java/lang/System" "arraycopy" 5 + 11) ≤ R.locals := by
        rw [zz_wt_map]
        have e1 : zz_wt (.int n :: .int dp :: .ref b' :: .int sp :: .ref a :: t) = 5 + zz_wt t := by
          simp only [zz_wt, List.map_cons, List.sum_cons, Value.category]
          omega
        rw [e1] at hwt
        have e2 : nativeFrameWords "java/lang/System" "arraycopy" 5 ≤ 100 := by decide +kernel
        omega
      split at hst
      · next hcond =>
        obtain ⟨rfl, h1, h2, h3⟩ := hcond
        split at hst
        · next k f hf =>
          split at hst
          · next hk =>
            cases hst
            exact zz_copy (α := Int64) (e1 := .inl (3, k, .inr (.inl (va_cpy f f sp.toNatClampNeg dp.toNatClampNeg n.toNatClampNeg)))) (fun z => .long z) (tg := 3) (ty := .long) hx m2 hml m1 (hts _ w1) (hts _ w2) (hts _ w3) (hts _ w4) hA.2.1 hh hS hf (fun G => Iff.rfl) (fun G z => z) t3 rfl (fun z => ⟨by simp, by simp⟩) h1 h2 h3 hk.1 hk.2 (fun i hi => rfl) (by omega) hsum d0 (fun H1 locs1 a1 a2 => kk H1 locs1 cells slots a1 a2 hc hs)
          · cases hst
        · next tg k f hf =>
          split at hst
          · next hk =>
            obtain ⟨k1, k2, k3, k4⟩ := hk
            cases hst
            rcases zp_two tg k1 with rfl | rfl
            · exact zz_copy (α := Int32) (e1 := .inl (0, k, .inl (va_cpy f f sp.toNatClampNeg dp.toNatClampNeg n.toNatClampNeg))) (fun z => .int z) (tg := 0) (ty := .int) hx m2 hml m1 (hts _ w1) (hts _ w2) (hts _ w3) (hts _ w4) hA.2.1 hh hS hf (fun G => Iff.rfl) (fun G z => z) t0 rfl (fun z => ⟨by simp, by simp⟩) h1 h2 h3 k3 k4 (fun i hi => rfl) (by omega) hsum d0 (fun H1 locs1 a1 a2 => kk H1 locs1 cells slots a1 a2 hc hs)
            · refine zz_copy (α := Int32) (e1 := .inl (1, k, .inl (va_cpy f f sp.toNatClampNeg dp.toNatClampNeg n.toNatClampNeg))) (fun z => .int z) (tg := 1) (ty := .char) hx m2 hml m1 (hts _ w1) (hts _ w2) (hts _ w3) (hts _ w4) hA.2.1 hh hS hf (fun G => Iff.rfl) (fun G z => z) t1 rfl (fun z => ⟨by simp, by simp⟩) h1 h2 h3 k3 k4 (fun i hi => ?_) (by omega) hsum d0 (fun H1 locs1 a1 a2 => kk H1 locs1 cells slots a1 a2 hc hs)
              rcases k2 with k2 | k2
              · cases k2
              · exact List.all_eq_true.mp k2 i (List.mem_range.mpr hi)
          · cases hst
        · cases hst
      · cases hst
    · cases hst
  | invokevirtual idx =>
    have hn3 : n = 3 := dn.resolve_right (fun z => by cases z)
    subst hn3
    simp only [zz_st2] at hst
    split at hst
    · next a t =>
      have w1 := hpw.1 rfl
      obtain ⟨f1, f2⟩ := drk.2 5 rfl (by decide)
      have f1 : 4 ≤ (K M).1 := f1
      have f2 : 140 ≤ (K M).2 := f2
      split at hst
      · next ha =>
        cases hst
        obtain ⟨hN, v, f, hZ, -⟩ := hStr (a - zz_SB)
        obtain ⟨z1, -⟩ := hZ s hA.2.2
        have e1 : zz_wt (.ref a :: t) = 1 + zz_wt t := by simp only [zz_wt, List.map_cons, List.sum_cons, Value.category]
        rw [List.map_cons]
        show W p l e R s m args below meth c H locs cells slots Q (F0 m pc ls (.ref (zz_ad b0 sa b a) :: t.map (zz_v (zz_ad b0 sa b))))
        rw [zp_ad ha.1 ha.2]
        refine zs_call (h := h) (ad := zz_ad b0 sa b) (tc := tc) (D := D) (cl := cl) (tys := tys) (Ts := Ts) (Sx := Sx) (Rf := 1) (Rl := 13) (vs := [.ref (sa (a - zz_SB))]) (rest := t.map (zz_v (zz_ad b0 sa b))) (v := some (.int (Int32.ofNat (zz_str Z (a - zz_SB)).length))) hG hSt hA (hw (.code zs_yL zs_bL 1 (some .int)) (by decide +kernel)) zs_pf.1 hml (by rw [m2]; exact d0) hb0 hS (by omega) (by rw [zz_wt_map]; omega) ⟨by omega, by omega⟩ (by simp [lg_sl, Value.category])
          (fun mk methk hn hm hsig T hT XX => ?_) rfl (fun s' mk methk ck ls0 below' hA' hs' hown' hb' hml' hr' hlk' hl' => ?_) (fun H1 locs1 hh1 hS1 => ?_)
        · obtain ⟨cell, g1, g2, g3, -⟩ := z1.kept hS.2.1
          exact zz_go_v (argsL := []) (rest := t.map (zz_v (zz_ad b0 sa b))) XX hx m1 (Or.inl (hts _ w1)) (zs_w hw hA (.instanceMethod zs_yL) (by decide +kernel)) (zs_w hw hA (.selects "java/lang/String" zs_yL zs_yL) (by decide +kernel)) hn hm (by decide) (zs_np (n := 0) (by decide +kernel) hsig) (by rw [m2]; exact d0) (by rw [hT]; exact g1) g2 g3
        · exact zs_len hx hG hSt hw hA' hC hZ (by rw [hs', hh.2.1]; omega) hown' hb' hml' hr' hlk' hl' hh (zs_self hs') rfl rfl (Nat.le_refl _) (Nat.le_refl _)
        · exact kk H1 locs1 cells slots hh1 hS1 hc hs
      · cases hst
    · next j a t =>
      have w1 := hpw.2 rfl
      obtain ⟨f1, f2⟩ := drk.2 6 rfl (by decide)
      have f1 : 4 ≤ (K M).1 := f1
      have f2 : 140 ≤ (K M).2 := f2
      split at hst
      · next ha =>
        cases hst
        obtain ⟨hN, v, f, hZ, hch⟩ := hStr (a - zz_SB)
        obtain ⟨z1, -⟩ := hZ s hA.2.2
        have hj := zz_ix_of ha.2.2
        have hjl : j.toNatClampNeg < (zz_str Z (a - zz_SB)).length := by
          have := of_decide_eq_true ha.2.2
          omega
        obtain ⟨c1, c2⟩ := hch _ hjl
        have e1 : zz_wt (.int j :: .ref a :: t) = 1 + (1 + zz_wt t) := by simp only [zz_wt, List.map_cons, List.sum_cons, Value.category]
        rw [List.map_cons, List.map_cons]
        show W p l e R s m args below meth c H locs cells slots Q (F0 m pc ls (.int j :: .ref (zz_ad b0 sa b a) :: t.map (zz_v (zz_ad b0 sa b))))
        rw [zp_ad ha.1 ha.2.1]
        refine zs_call (h := h) (ad := zz_ad b0 sa b) (tc := tc) (D := D) (cl := cl) (tys := tys) (Ts := Ts) (Sx := Sx) (Rf := 3) (Rl := 42) (vs := [.ref (sa (a - zz_SB)), .int j]) (rest := t.map (zz_v (zz_ad b0 sa b))) (v := some (.int ((zz_str Z (a - zz_SB)).getD j.toNatClampNeg 0))) hG hSt hA (hw (.code zs_yA zs_bA 2 (some .char)) (by decide +kernel)) zs_pf.2.2.1 hml (by rw [m2]; exact d0) hb0 hS (by omega) (by rw [zz_wt_map]; omega) ⟨by omega, by omega⟩ (by simp [lg_sl, Value.category])
          (fun mk methk hn hm hsig T hT XX => ?_) rfl (fun s' mk methk ck ls0 below' hA' hs' hown' hb' hml' hr' hlk' hl' => ?_) (fun H1 locs1 hh1 hS1 => ?_)
        · obtain ⟨cell, g1, g2, g3, -⟩ := z1.kept hS.2.1
          exact zz_go_v (argsL := [.int j]) (rest := t.map (zz_v (zz_ad b0 sa b))) XX hx m1 (Or.inl (hts _ w1)) (zs_w hw hA (.instanceMethod zs_yA) (by decide +kernel)) (zs_w hw hA (.selects "java/lang/String" zs_yA zs_yA) (by decide +kernel)) hn hm (by decide) (zs_np (n := 1) (by decide +kernel) hsig) (by rw [m2]; exact d0) (by rw [hT]; exact g1) g2 g3
        · exact zs_chA hx hG hSt hw hA' hC hZ (by rw [hs', hh.2.1]; omega) hN hj hown' hb' hml' hr' hlk' (by simpa [lv_args, Value.category] using hl') hh (zs_self hs') rfl rfl (Nat.le_refl _) (Nat.le_refl _) c1 c2
        · exact kk H1 locs1 cells slots hh1 hS1 hc hs
      · cases hst
    · cases hst
  | _ => cases hsp
end ZP
