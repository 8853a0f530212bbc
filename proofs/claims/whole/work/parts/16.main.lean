/-! THE SMALL MACHINE IS SOUND: the theorem -/
section ZZ50
variable {p : Program} {l : Launch} {e : Env} {R : Room} {s : State} {m : MethodId} {args : Array Value} {below : List Frame} {meth : Method} {c : Code} {H : Heap} {locs : List Loc} {cells slots : Nat} {Q : State → Prop}
variable {cc : ByteArray} {pc : Nat} {ls : Array Slot} {D : va_G} {cl : List vw_C} {tys : List (ClassId × FieldType)}
variable {b0 b : Nat} {sa : Nat → Nat} {tc : Nat → ClassId} {h h' : zz_H} {Z : zz_Z} {Y : zz_Y} {Ts : List Cond} {AO : List String} {SR : List (String × Nat × String × Nat)} {M n bc bs bc' bs' pc' : Nat} {r : List Nat} {st st' : List Value} {X : Nat × (Nat → Int32)} {i : Instr}
theorem zz_st2_ok0 (hx : p.tables.exec = Jvm.exec) (hb : c.code = cc) (hown : s.vm.findClass (Y.1 M).cls = some m.cls) (hnm : meth.name = (Y.1 M).name) (hml : c.maxLocals = ls.size) (hts : ∀ w ∈ Ts, w.before args s = true) (hK : va_K D cl tys s) (hT4 : zz_T4 tys tc) (hAO : ∀ C ∈ AO, (Cond.arrayOver (.object C)).before args s = true)
    (hXs : va_X b X.1 X.2 s s.heap) (hbl : b < s.heap.size) (hbb : b < b0)
    (hLK : zz_LK Z Y Ts cl tys tc AO SR M i r) (hdg : decode cc pc = .ok (i, n)) (hn : n = zz_len i) (hsp : zz_sp i r = false) (hno : ∀ idx, i ≠ .invokespecial idx)
    (hh : zz_hr b0 (zz_ad b0 sa b) tc D cl h H) (hS : zz_fr b0 s.heap H locs) (hc : cells + bc ≤ R.cells) (hs : slots + bs ≤ R.slots) (h2 : zz_st2 Z X i r pc st h bc bs = some (pc', st', h', bc', bs'))
    (kk : ∀ (H1 : Heap) (locs1 : List Loc) (cells1 slots1 : Nat), zz_hr b0 (zz_ad b0 sa b) tc D cl h' H1 → zz_fr b0 s.heap H1 locs1 → cells1 + bc' ≤ R.cells → slots1 + bs' ≤ R.slots → W p l e R s m args below meth c H1 locs1 cells1 slots1 Q (F0 m pc' ls (st'.map (zz_v (zz_ad b0 sa b))))) :
    W p l e R s m args below meth c H locs cells slots Q (F0 m pc ls (st.map (zz_v (zz_ad b0 sa b)))) := by
  subst hn
  have hSC : zz_ad b0 sa b zz_SC = b := by
    unfold zz_ad zz_SC zz_SB
    rw [if_neg (by omega), if_neg (by omega)]
  unfold zz_st2 at h2
  split at h2
  -- getfield
  · split at h2
    · next a t ci k =>
      obtain ⟨C, T, N, g1, g2, g3⟩ := hLK ci k rfl
      split at h2
      · next c0 fs hfs =>
        split at h2
        · next hci =>
          subst hci
          obtain ⟨v, hv, e0⟩ := Option.map_eq_some_iff.mp h2
          cases e0
          exact zz_get hx hb hown hts hK g1 g2 (g3.lnk hts) hh hfs hv hdg (kk H locs cells slots hh hS hc hs)
        · cases h2
      · cases h2
    · cases h2
  -- putfield
  · split at h2
    · next v a t ci k =>
      obtain ⟨C, T, N, g1, g2, g3, g4⟩ := hLK ci k rfl
      split at h2
      · next c0 fs hfs =>
        split at h2
        · next hci =>
          obtain ⟨rfl, hk, hv⟩ := hci
          cases h2
          obtain ⟨hv1, hv2⟩ := zz_v_fit (zz_ad b0 sa b) hv
          exact zz_put hx hb hown hts hK g1 g2 (g3.lnk hts) (g4.imp id fun ⟨q1, q2, q3, q4⟩ => ⟨q1, hnm.trans q2, q3, hts _ q4⟩) hh hS hfs hk hv1 hv2 hdg (fun H1 locs1 a1 a2 => kk H1 locs1 cells slots a1 a2 hc hs)
        · cases h2
      · cases h2
    · cases h2
  -- iaload
  · split at h2
    · next j a t =>
      split at h2
      · next ha =>
        subst ha
        split at h2
        · next hj =>
          cases h2
          have := va_sld (A := fun q => b0 ≤ q) hx hb hXs hbl (by omega) hS (zz_ix_of hj) hdg (kk H locs cells slots hh hS hc hs)
          rw [← hSC] at this
          exact this
        · cases h2
      · split at h2
        · next n f hf =>
          split at h2
          · next hj =>
            cases h2
            exact zz_iald hx hb hK hh hf hT4.1 hj hdg (kk H locs cells slots hh hS hc hs)
          · cases h2
        · cases h2
    · cases h2
  -- caload
  · split at h2
    · next j a t =>
      split at h2
      · next n f hf =>
        split at h2
        · next hj =>
          cases h2
          exact zz_cald hx hb hK hh hf hT4.2.1 hj hdg (kk H locs cells slots hh hS hc hs)
        · cases h2
      · cases h2
    · cases h2
  -- baload
  · split at h2
    · next j a t =>
      split at h2
      · next n f hf =>
        split at h2
        · next hj =>
          cases h2
          exact zz_zald hx hb hK hh hf hT4.2.2.1 hj hdg (kk H locs cells slots hh hS hc hs)
        · cases h2
      · cases h2
    · cases h2
  -- laload
  · split at h2
    · next j a t =>
      split at h2
      · next n f hf =>
        split at h2
        · next hj =>
          cases h2
          exact zz_lald hx hb hK hh hf hT4.2.2.2 hj hdg (kk H locs cells slots hh hS hc hs)
        · cases h2
      · cases h2
    · cases h2
  -- aaload
  · split at h2
    · next j a t g =>
      obtain ⟨C, hC⟩ := hLK g rfl
      split at h2
      · next tg n f hf =>
        split at h2
        · next hj =>
          obtain ⟨rfl, hj⟩ := hj
          cases h2
          exact zz_aald hx hb hK hh hf hC hj hdg (kk H locs cells slots hh hS hc hs)
        · cases h2
      · cases h2
    · cases h2
  -- iastore
  · split at h2
    · next x j a t =>
      split at h2
      · next n f hf =>
        split at h2
        · next hj =>
          cases h2
          exact zz_iast hx hb hK hh hS hf hT4.1 hj hdg (fun H1 locs1 a1 a2 => kk H1 locs1 cells slots a1 a2 hc hs)
        · cases h2
      · cases h2
    · cases h2
  -- castore
  · split at h2
    · next x j a t =>
      split at h2
      · next n f hf =>
        split at h2
        · next hj =>
          cases h2
          exact zz_cast hx hb hK hh hS hf hT4.2.1 hj hdg (fun H1 locs1 a1 a2 => kk H1 locs1 cells slots a1 a2 hc hs)
        · cases h2
      · cases h2
    · cases h2
  -- bastore
  · split at h2
    · next x j a t =>
      split at h2
      · next n f hf =>
        split at h2
        · next hj =>
          cases h2
          exact zz_zast hx hb hK hh hS hf hT4.2.2.1 hj hdg (fun H1 locs1 a1 a2 => kk H1 locs1 cells slots a1 a2 hc hs)
        · cases h2
      · cases h2
    · cases h2
  -- lastore
  · split at h2
    · next x j a t =>
      split at h2
      · next n f hf =>
        split at h2
        · next hj =>
          cases h2
          exact zz_last hx hb hK hh hS hf hT4.2.2.2 hj hdg (fun H1 locs1 a1 a2 => kk H1 locs1 cells slots a1 a2 hc hs)
        · cases h2
      · cases h2
    · cases h2
  -- aastore
  · split at h2
    · next v j a t g ci =>
      obtain ⟨q, hq, htq⟩ := hLK g ci rfl
      split at h2
      · next tg n f c0 fs hf hv =>
        split at h2
        · next hj =>
          obtain ⟨rfl, rfl, hj⟩ := hj
          cases h2
          exact zz_aast hx hb hK hh hS hf htq hv hq hj hdg (fun H1 locs1 a1 a2 => kk H1 locs1 cells slots a1 a2 hc hs)
        · cases h2
      · cases h2
    · cases h2
  -- arraylength
  · split at h2
    · next a t g =>
      obtain ⟨ty, hty⟩ := hLK g rfl
      split at h2
      · next ha =>
        subst ha
        cases h2
        have := va_slen (A := fun q => b0 ≤ q) hx hb hXs hbl (by omega) hS hdg (kk H locs cells slots hh hS hc hs)
        rw [← hSC] at this
        exact this
      · split at h2
        · next tg n x hf =>
          split at h2
          · next hg =>
            subst hg
            cases h2
            exact zz_alen hx hb hK hh hf hty hdg (kk H locs cells slots hh hS hc hs)
          · cases h2
        · cases h2
    · cases h2
  -- newarray
  · split at h2
    · next nn t tg =>
      obtain ⟨ht, hw⟩ := hLK tg rfl
      subst ht
      split at h2
      · next hcnd =>
        obtain ⟨q1, q2, q3, q4, q5, q6⟩ := hcnd
        cases h2
        refine zz_newa hx hb hK q6 (hts _ hw) ?_ hh hS q1 q4 (by omega) (by omega) q5 hdg (fun H1 a1 a2 => kk H1 locs _ _ a1 a2 (by omega) (by omega))
        rcases (show tg = 0 ∨ tg = 1 ∨ tg = 2 ∨ tg = 3 by omega) with rfl | rfl | rfl | rfl
        · exact hT4.1
        · exact hT4.2.1
        · exact hT4.2.2.1
        · exact hT4.2.2.2
      · cases h2
    · cases h2
  -- anewarray
  · split at h2
    · next nn t tg =>
      obtain ⟨C, q7, q8, q9⟩ := hLK tg rfl
      split at h2
      · next hcnd =>
        obtain ⟨q1, q2, q3, q4, q5⟩ := hcnd
        cases h2
        exact zz_newq hx hb hown hK (hts _ q9) (hAO C q7) q8 hh hS q1 q4 (by omega) (by omega) q5 hdg (fun H1 a1 a2 => kk H1 locs _ _ a1 a2 (by omega) (by omega))
      · cases h2
    · cases h2
  -- new
  · split at h2
    · next ci sl =>
      obtain ⟨C, T, N, g1, g2, g3, g4, g5, g6⟩ := hLK ci sl rfl
      split at h2
      · next hcnd =>
        obtain ⟨q2, q3, q5⟩ := hcnd
        cases h2
        exact zz_newo hx hb hown hts hK g1 (hts _ g2) (hts _ g3) (hts _ g4) hh hS (g6 _) g5 (by omega) (by omega) q5 hdg (fun H1 a1 a2 => kk H1 locs _ _ a1 a2 (by omega) (by omega))
      · cases h2
    · cases h2
  -- invokespecial
  · next idx => exact absurd rfl (hno idx)
  -- invokestatic
  · cases hsp
  -- invokevirtual
  · cases hsp
  · cases h2
end ZZ50
theorem findClass_of_methodNamed_moved {s U : State} {x : MethodName} {m : MethodId} (hW : s.WarmedH U.vm) (h : s.methodNamed? x = some m) : U.vm.findClass x.cls = some m.cls := by
  rw [hW.alike.findClass]
  exact findClass_of_methodNamed h
theorem zz_nameOf {s U : State} {x : MethodName} {m : MethodId} {meth : Method} (hW : s.WarmedH U.vm) (h : s.methodNamed? x = some m) (hm : s.vm.method? m = some meth) : meth.name = x.name := (name_of_methodNamed h hm).1
section ZZM
variable {l : Launch} {Z : zz_Z} {Y : zz_Y} {K : Nat → Nat × Nat} {X : Nat × (Nat → Int32)} {Ts : List Cond} {cl : List vw_C} {tys : List (ClassId × FieldType)} {tc : Nat → ClassId} {D : va_G} {Sx : State → Prop} {b0 b : Nat} {sa : Nat → Nat} {AO : List String} {SR : List (String × Nat × String × Nat)} {EX : List Nat}
theorem zz_av_N {st vs t : List Value} {r : List Nat} {h : zz_H} {N : Nat} (hk : zz_av st r h = some (N, vs, t)) : ∃ n kd ci, r = [1, N, n, kd, ci] := by
  unfold zz_av at hk
  split at hk
  · split at hk
    · cases hk; exact ⟨_, _, _, rfl⟩
    · cases hk
  · split at hk
    · split at hk
      · split at hk
        · cases hk; exact ⟨_, _, _, rfl⟩
        · cases hk
      · cases hk
    · cases hk
  · cases hk
theorem zz_kdn {idx : Nat} {r : List Nat} : zz_kd (.new idx) r = 1 ∨ zz_kd (.new idx) r = 2 := by
  unfold zz_kd
  split <;> first | exact Or.inr rfl | exact Or.inl rfl | (split <;> first | exact Or.inr rfl | exact Or.inl rfl) | cases ‹Instr.new idx = _›
theorem zz_kd3 {i : Instr} {r : List Nat} (h0 : zz_kd i r ≠ 0) (h1 : zz_kd i r ≠ 1) (h2 : zz_kd i r ≠ 2) : ∃ idx, i = .invokevirtual idx ∨ i = .invokespecial idx ∨ i = .invokestatic idx := by
  cases i <;> first | exact ⟨_, Or.inl rfl⟩ | exact ⟨_, Or.inr (Or.inl rfl)⟩ | exact ⟨_, Or.inr (Or.inr rfl)⟩ | exact absurd rfl h0 | exact absurd rfl h1 | exact absurd rfl h2 | exact (zz_kdn.elim h1 h2).elim
theorem zz_sp2 {idx : Nat} {r : List Nat} (h : zz_sp (.invokespecial idx) r = false) : r = [2] := by
  by_cases hr : r = [2]
  · exact hr
  · have h1 : zz_sp (.invokespecial idx) r = true := by
      unfold zz_sp
      split
      · exact absurd rfl hr
      · rfl
      · rfl
      · rfl
      · next h1 h2 h3 h4 => first | exact absurd rfl (h1 idx) | exact absurd rfl (h2 idx) | exact absurd rfl (h3 idx) | exact absurd rfl (h4 idx)
    rw [h1] at h
    cases h
theorem zz_isw_kd {i : Instr} {r : List Nat} (h : zz_isw i = true) : zz_kd i r = 0 := by
  cases i <;> simp [zz_isw] at h <;> rfl
theorem zz_hv_wt {i : Instr} {r : List Nat} {st : List Value} (h : zz_sp i r = true) (hv : zz_hv i st = false) : zz_wt st ≤ 16 := by
  cases i <;> simp [zz_sp] at h <;> simp only [zz_hv, decide_eq_false_iff_not, Nat.not_lt] at hv <;> exact hv
theorem zz_sound (hTab : zz_TAB Z Y K Ts cl tys tc AO SR EX) (hSX : zz_SX AO SR EX D sa b b0 X Sx) (hSP : zz_SP l Z Y K X Ts cl tys tc D Sx b0 b sa) (hTH : zz_TH l Z Y K Ts cl tys tc D Sx b0 b sa) :
    ∀ (f M pc : Nat) (L st : List Value) (h : zz_H) (bc bs : Nat) (o : Outcome) (h' : zz_H) (bc' bs' : Nat), zz_ex Z X f M pc L st h bc bs = some (o, h', bc', bs') → zz_Runs l Z Y K Ts cl tys tc D Sx b0 b sa M pc L st h bc bs o h' bc' bs' := by
  intro f
  induction f with
  | zero => intro M pc L st h bc bs o h' bc' bs' hex; cases hex
  | succ f ih =>
    intro M pc L st h bc bs o h' bc' bs' hex p e R s m args below meth c H locs cells slots ls hx hA hme hKf hKw hb0 hl hh hS hc hs
    obtain ⟨hT, hH, hT4, hG⟩ := hTab
    obtain ⟨hSt, hbb, hSx⟩ := hSX
    obtain ⟨m1, m2, m3, m4, m5, m6, m7⟩ := id hme
    have hts : ∀ w ∈ Ts, w.before args s = true := fun w hw => hA.1 w hw args
    obtain ⟨x1, x2, x3, x4⟩ := hSx s hA.2.2
    have hml : c.maxLocals = ls.size := m3.trans hl.1.symm
    rw [zz_ex] at hex
    split at hex
    · cases hex
    · next i n r hcod =>
      obtain ⟨t1, t2, t3, t4, t5⟩ := hT M pc i n r hcod
      split at hex
      -- no heap
      · split at hex
        · cases hex
        · next pc1 L1 st1 h1 =>
          exact zz_st1_ok hx m2 m1 (zz_ck_of t4 hts x2) t3 hl t1 t2 h1 (fun ls' hl' => ih M pc1 L1 st1 h bc bs o h' bc' bs' hex p e R s m args below meth c H locs cells slots ls' hx hA hme hKf hKw hb0 hl' hh hS hc hs)
      -- heap
      · next hkd =>
        split at hex
        · cases hex
        · next hhv =>
          split at hex
          · cases hex
          · next pc1 st1 h1 bc1 bs1 h2 =>
            have kk : ∀ (H1 : Heap) (locs1 : List Loc) (cells1 slots1 : Nat), zz_hr b0 (zz_ad b0 sa b) tc D cl h1 H1 → zz_fr b0 s.heap H1 locs1 → cells1 + bc1 ≤ R.cells → slots1 + bs1 ≤ R.slots → W p l e R s m args below meth c H1 locs1 cells1 slots1 (zz_Fin b0 (zz_ad b0 sa b) tc D cl below s R o h' bc' bs') (F0 m pc1 ls (st1.map (zz_v (zz_ad b0 sa b)))) :=
              fun H1 locs1 cells1 slots1 a1 a2 a3 a4 => ih M pc1 L st1 h1 bc1 bs1 o h' bc' bs' hex p e R s m args below meth c H1 locs1 cells1 slots1 ls hx hA hme hKf hKw hb0 hl a1 a2 a3 a4
            by_cases hsp : zz_sp i r = true
            · have hw : zz_wt st ≤ 16 := zz_hv_wt hsp hhv
              exact hSP M pc n i r st st1 h h1 bc bs pc1 bc1 bs1 hcod hsp hkd hw h2 p e R s m args below meth c H locs cells slots _ ls hx hA hme hml hKf hKw hb0 hh hS hc hs kk
            · have hsp : zz_sp i r = false := by simpa using hsp
              have hfw : 1 ≤ R.frames ∧ zz_wt st + 12 ≤ R.locals ∨ (∀ idx, i ≠ .invokespecial idx) := by
                cases i with
                | invokespecial idx =>
                  left
                  simp only [zz_hv, decide_eq_false_iff_not, Nat.not_lt] at hhv
                  have hr1 : r = [2] := zz_sp2 hsp
                  have h5 := t5.2 2 (by rw [hr1]; rfl) (by decide)
                  simp only [zz_nd] at h5
                  omega
                | _ => exact Or.inr (fun idx z => by cases z)
              rcases hfw with ⟨hf1, hf2⟩ | hno
              · refine zz_st2_ok hx m2 m1 m6 hml hts hA.2.1 hT4 (fun C hC => x1 C hC args) x4 (by omega) hbb t4 t1 ?_ hsp hf1 hf2 hh hS hc hs h2 kk
                rcases t2 with t2 | t2
                · exact t2
                · exact absurd ((zz_isw_kd t2).symm.trans hkd) (by decide)
              · refine zz_st2_ok0 hx m2 m1 m6 hml hts hA.2.1 hT4 (fun C hC => x1 C hC args) x4 (by omega) hbb t4 t1 ?_ hsp hno hh hS hc hs h2 kk
                rcases t2 with t2 | t2
                · exact t2
                · exact absurd ((zz_isw_kd t2).symm.trans hkd) (by decide)
      -- an end
      · next hkd =>
        by_cases hnew : ∃ idx, i = .new idx
        · obtain ⟨idx, rfl⟩ := hnew
          simp only [zz_rt] at hex
          split at hex
          · next ci sl hnd =>
            split at hex
            · next hcn =>
              obtain ⟨q1, q2, q3, q4⟩ := hcn
              cases hex
              have h5 := t5 3 ci sl rfl
              exact hTH M pc n idx ci sl st h bc bs hcod hnd q1 q2 q3 q4 p e R s m args below meth c H locs cells slots ls hx hA hme hml (by omega) (by omega) hb0 hh hS hc hs
            · cases hex
          · cases hex
        · refine zz_rt_ok hx m2 m4 m5 (fun idx z => hnew ⟨idx, z⟩) hh hS hc hs t1 ?_ hex
          rcases t2 with t2 | t2
          · exact t2
          · exact absurd ((zz_isw_kd t2).symm.trans hkd) (by decide)
      -- a call
      · next hk0 hk1 hk2 =>
        split at hex
        · cases hex
        · next N vs t hav =>
          split at hex
          · cases hex
          · next hw =>
            have hw1 : zz_wt t ≤ 8 := by omega
            have hw2 : (zz_arg vs).length ≤ zz_mxl Z N := by omega
            obtain ⟨nn, kd, ci, rfl⟩ := zz_av_N hav
            obtain ⟨idx, hi⟩ := zz_kd3 hk0 hk1 hk2
            have hcl : zz_cl Z Y Ts cl (Y.1 M).cls idx N nn kd ci ∧ ((kd = 0 ∧ i = .invokestatic idx) ∨ (kd = 1 ∧ i = .invokevirtual idx) ∨ (kd = 2 ∧ i = .invokespecial idx)) ∧ (K N).1 + 1 ≤ (K M).1 ∧ 8 + (zz_mxl Z N + 11) + (K N).2 ≤ (K M).2 ∧ n = 3 := by
              rcases hi with rfl | rfl | rfl
              · obtain ⟨a1, a2⟩ := t4 N nn kd ci rfl
                exact ⟨a2, Or.inr (Or.inl ⟨a1, rfl⟩), (t5.1 N nn kd ci rfl).1, (t5.1 N nn kd ci rfl).2, t2.resolve_right (fun z => by cases z)⟩
              · obtain ⟨a1, a2⟩ := t4.2 N nn kd ci rfl
                exact ⟨a2, Or.inr (Or.inr ⟨a1, rfl⟩), (t5.1 N nn kd ci rfl).1, (t5.1 N nn kd ci rfl).2, t2.resolve_right (fun z => by cases z)⟩
              · obtain ⟨a1, a2⟩ := t4 N nn kd ci rfl
                exact ⟨a2, Or.inl ⟨a1, rfl⟩, (t5.1 N nn kd ci rfl).1, (t5.1 N nn kd ci rfl).2, t2.resolve_right (fun z => by cases z)⟩
            obtain ⟨hcl, hkd, hr1, hr2, rfl⟩ := hcl
            have hcw : zz_cw (Y.1 N) (Y.2.1 N) (zz_mxl Z N) (zz_ret Z N) (Y.2.2 N) args s := by
              rcases hcl.2.2.2.2.1 with ⟨q1, q2⟩ | q1
              · exact Or.inl ⟨hts _ q1, q2⟩
              · exact Or.inr (hts _ q1)
            obtain ⟨mk, methk, ck, c1, c2, c3, c4, c5, c6, c7, c8, c9⟩ := zz_cw_spec hcw
            have hpn : plainFor (Y.1 N) = true := hcl.2.2.1
            split at hex
            · cases hex
            -- it returned
            · next v h1 bc1 bs1 hcal =>
              refine zz_call (R' := { frames := (K N).1, cells := bc, slots := bs, locals := (K N).2 }) (o := .returned v) (h' := h1) (bc' := bc1) (bs' := bs1) (ad := zz_ad b0 sa b) (tc := tc) (D := D) (cl := cl) (rest := t.map (zz_v (zz_ad b0 sa b))) hml (by rw [m2]; exact t1) c2 c3 c7 (fun U hU => ?_) ?_ ?_ hc hs
                (zz_go (r := []) hx m1 hts hA.2.1 hh c1 c2 c8 hcl hkd (by rw [m2]; exact t1) hav) hS (fun s' hs1 hs2 => ?_) (fun v' hv H1 locs1 k n a1 a2 a3 a4 => ?_) (fun a ha => by cases ha)
              · exact State.plainMethod.of_named hpn (by rw [show U.methodNamed? (Y.1 N) = s.methodNamed? (Y.1 N) from (by have := State.methodNamed?_setVm (s := s) hU.alike (x := Y.1 N); exact this)]; exact c1) (by rw [hU.alike.method?]; exact c2)
              · show (K N).1 + 1 ≤ R.frames
                omega
              · show _ + (ck.maxLocals + 11) + (K N).2 ≤ R.locals
                rw [zz_wt_map, c5]
                omega
              · obtain ⟨lsk, e1, e2⟩ := zz_entry (zz_ad b0 sa b) mk vs ck.maxLocals (by rw [c5]; exact hw2)
                rw [e1]
                rw [c5] at e2
                exact ih N 0 _ [] h bc bs (.returned v) h1 bc1 bs1 hcal p e _ s' mk _ _ methk ck H [] 0 0 lsk hx (hA.next hG hSt hs2 (fun q hq => by rw [hs1]; exact hS.2.1 q (by omega) (by omega))) ⟨(findClass_of_methodNamed_moved hs2 c1), c4, c5, c6, c7, zz_nameOf hs2 c1 c2, c9⟩ (Nat.le_refl _) (Nat.le_refl _) (by rw [hs1, hh.2.1]; omega) e2 hh ⟨by rw [hs1]; exact Nat.le_refl _, fun q _ _ => by rw [hs1], fun q hq => by cases hq⟩ (by simp) (by simp)
              · cases hv
                have := ih M (pc + 3) L (v.toList ++ t) h1 bc1 bs1 o h' bc' bs' hex p e R s m args below meth c H1 locs1 (cells + k) (slots + n) ls hx hA hme hKf hKw hb0 hl a1 a2 (by simp only at a3; omega) (by simp only at a4; omega)
                have e3 : (v.toList ++ t).map (zz_v (zz_ad b0 sa b)) = (v.map (zz_v (zz_ad b0 sa b))).toList ++ t.map (zz_v (zz_ad b0 sa b)) := by cases v <;> simp
                rw [e3] at this
                exact this
            -- it threw
            · next a h1 bc1 bs1 hcal =>
              split at hex
              · next ce hce =>
                split at hex
                · cases hex
                · next q hq =>
                  refine zz_call (R' := { frames := (K N).1, cells := bc, slots := bs, locals := (K N).2 }) (o := .threw a) (h' := h1) (bc' := bc1) (bs' := bs1) (ad := zz_ad b0 sa b) (tc := tc) (D := D) (cl := cl) (rest := t.map (zz_v (zz_ad b0 sa b))) hml (by rw [m2]; exact t1) c2 c3 c7 (fun U hU => ?_) ?_ ?_ hc hs
                    (zz_go (r := []) hx m1 hts hA.2.1 hh c1 c2 c8 hcl hkd (by rw [m2]; exact t1) hav) hS (fun s' hs1 hs2 => ?_) (fun v' hv => by cases hv) (fun a' ha H1 locs1 k n a1 a2 a3 a4 T hTh XT => ?_)
                  · exact State.plainMethod.of_named hpn (by rw [show U.methodNamed? (Y.1 N) = s.methodNamed? (Y.1 N) from (by have := State.methodNamed?_setVm (s := s) hU.alike (x := Y.1 N); exact this)]; exact c1) (by rw [hU.alike.method?]; exact c2)
                  · show (K N).1 + 1 ≤ R.frames
                    omega
                  · show _ + (ck.maxLocals + 11) + (K N).2 ≤ R.locals
                    rw [zz_wt_map, c5]
                    omega
                  · obtain ⟨lsk, e1, e2⟩ := zz_entry (zz_ad b0 sa b) mk vs ck.maxLocals (by rw [c5]; exact hw2)
                    rw [e1]
                    rw [c5] at e2
                    exact ih N 0 _ [] h bc bs (.threw a) h1 bc1 bs1 hcal p e _ s' mk _ _ methk ck H [] 0 0 lsk hx (hA.next hG hSt hs2 (fun q hq => by rw [hs1]; exact hS.2.1 q (by omega) (by omega))) ⟨(findClass_of_methodNamed_moved hs2 c1), c4, c5, c6, c7, zz_nameOf hs2 c1 c2, c9⟩ (Nat.le_refl _) (Nat.le_refl _) (by rw [hs1, hh.2.1]; omega) e2 hh ⟨by rw [hs1]; exact Nat.le_refl _, fun q _ _ => by rw [hs1], fun q hq => by cases hq⟩ (by simp) (by simp)
                  · cases ha
                    have hpl : e.platform.magicAccessors = ({} : Platform).magicAccessors := by rw [XT.admits.platform]
                    obtain ⟨r0, g0, cell, g1, g2, g3, -⟩ := a1.at hce
                    obtain ⟨-, -, kC, hkC, -⟩ := hA.2.1.1 _ _ g0
                    have hUh : ((T.setTop (F0 m pc ls (t.map (zz_v (zz_ad b0 sa b))))).pushFrame (.throwing (zz_ad b0 sa b a))).heap = H1 := hTh
                    obtain ⟨vm', f1, f2⟩ := zz_find (U := (T.setTop (F0 m pc ls (t.map (zz_v (zz_ad b0 sa b))))).pushFrame (.throwing (zz_ad b0 sa b a))) (g := F0 m pc ls (t.map (zz_v (zz_ad b0 sa b)))) hpl m1 hts hA.2.1 x3 (zz_fh_EX _ _ (hH M) hq) (by rw [hUh]; exact g1) g2 ⟨kC, by rw [g2]; exact hkC⟩ g3 rfl c.exceptionTable.toList _ _ m7 (hH M) T.vm XT.warmed hq
                    have XT' := XT.noted f1
                    obtain ⟨tt, s1, s2⟩ := ih M q L [.ref a] h1 bc1 bs1 o h' bc' bs' hex p e R s m args below meth c H1 locs1 (cells + k) (slots + n) ls hx hA hme hKf hKw hb0 hl a1 a2 (by simp only at a3; omega) (by simp only at a4; omega) (T.setVm vm') hTh XT'
                    refine ⟨tt, zz_caught XT (zz_ad b0 sa b a) (g := F0 m pc ls (t.map (zz_v (zz_ad b0 sa b)))) rfl f1 (fun Q E d acts hQ => ?_) s1, s2⟩
                    rw [Jvm.W.findHandler_eq (meth := meth) (code := c) (by show T.vm.method? m = some meth; exact XT.method') XT.code]
                    exact f2 Q E d acts hQ
              · cases hex
end ZZM
