/-! the instructions on the heap: sound -/
section ZZ4
variable {p : Program} {l : Launch} {e : Env} {R : Room} {s : State} {m : MethodId} {args : Array Value} {below : List Frame} {meth : Method} {c : Code} {H H0 : Heap} {locs : List Loc} {cells slots : Nat} {Q : State → Prop}
variable {cc : ByteArray} {pc : Nat} {ls : Array Slot} {rest : List Value} {D : va_G} {cl : List vw_C} {tys : List (ClassId × FieldType)}
variable {b0 b : Nat} {sa : Nat → Nat} {tc : Nat → ClassId} {h : zz_H} {own : String}
theorem zz_aast (hx : p.tables.exec = Jvm.exec) (hb : c.code = cc) (hK : va_K D cl tys s) (hh : zz_hr b0 (zz_ad b0 sa b) tc D cl h H) (hS : zz_fr b0 H0 H locs) {a v tg n ci : Nat} {f : Nat → Option Nat} {q : vw_C} {fs : List Value} (ha : h[a]? = some (.inl (tg, n, .inr (.inr (.inr (.inr f)))))) (ht : tys[tg]? = some (tc tg, .object q.1)) (hv : h[v]? = some (.inr (ci, fs))) (hc : cl[ci]? = some q) {j : Int32} (hj : zz_ix j n = true) (hdg : decode cc pc = .ok (.aastore, 1))
    (kk : ∀ (H1 : Heap) (locs1 : List Loc), zz_hr b0 (zz_ad b0 sa b) tc D cl (h.set a (.inl (tg, n, .inr (.inr (.inr (.inr (va_up f j.toNatClampNeg (some v)))))))) H1 → zz_fr b0 H0 H1 locs1 → W p l e R s m args below meth c H1 locs1 cells slots Q (F0 m (pc + 1) ls rest)) : W p l e R s m args below meth c H locs cells slots Q (F0 m pc ls (.ref (zz_ad b0 sa b v) :: .int j :: .ref (zz_ad b0 sa b a) :: rest)) := by
  have hA : b0 ≤ zz_ad b0 sa b a := by rw [zz_ad_lo (hh.lt ha)]; omega
  have hin := zz_ix_of hj
  have hlt : j.toNatClampNeg < n := Nat.not_le.mp fun q => hin (Or.inr q)
  have h0 : ¬ j < 0 := fun q => hin (Or.inl q)
  have hat : H[zz_ad b0 sa b a]? = some (arrV (tc tg) n (fun i => va_rf ((f i).map (zz_ad b0 sa b)))) := hh.at ha
  obtain ⟨r', hr', cellV, g1, g2, g3, -⟩ := hh.at hv
  have hcls := (hK.1 ci q hc).2
  obtain ⟨kA, comp, k1, k2, k3, -⟩ := (hK.2 tg _ ht).2
  have hcomp : comp = D.1 ci := Option.some.inj (k3.symm.trans hcls.1)
  subst hcomp
  obtain ⟨kC, hkC, -⟩ := hcls.2
  refine W.aast hx hb hat (fun q h => by cases h) (fun h => by cases h) k1 k2 rfl hkC ⟨h0, by rw [arrV_size]; exact hlt⟩ g1 (fun q h => by rw [g3] at h; cases h) (by rw [g2]; exact hkC) (by rw [g2]; exact va_assign hcls) rfl rfl hdg fun H1 e1 z oq => ?_
  refine kk H1 _ (hh.set ha z oq ?_) (hS.put z oq hA)
  show H1[zz_ad b0 sa b a]? = some (vp_cell (tc tg) (n, .inr (.inr (.inr (.inr (fun i => (va_up f j.toNatClampNeg (some v) i).map (zz_ad b0 sa b)))))))
  rw [e1, arrV_store, vp_cell_q]
  congr 2
  funext q
  by_cases hq : q = j.toNatClampNeg
  · subst hq
    simp [updV, va_up, va_rf]
  · simp [updV, va_up, hq]
theorem zz_v_fit {ty : FieldType} {v : Value} (ad : Nat → Nat) (h : narrow ty v = v ∧ fits ty v = true) : narrow ty (zz_v ad v) = zz_v ad v ∧ fits ty (zz_v ad v) = true := by
  cases v with
  | ref k =>
    obtain ⟨-, h2⟩ := h
    cases ty <;> first | exact ⟨rfl, rfl⟩ | cases h2
  | _ => exact h
end ZZ4
section ZZ5
variable {p : Program} {l : Launch} {e : Env} {R : Room} {s : State} {m : MethodId} {args : Array Value} {below : List Frame} {meth : Method} {c : Code} {H : Heap} {locs : List Loc} {cells slots : Nat} {Q : State → Prop}
variable {cc : ByteArray} {pc : Nat} {ls : Array Slot} {D : va_G} {cl : List vw_C} {tys : List (ClassId × FieldType)}
variable {b0 b : Nat} {sa : Nat → Nat} {tc : Nat → ClassId} {h h' : zz_H} {Z : zz_Z} {Y : zz_Y} {Ts : List Cond} {AO : List String} {SR : List (String × Nat × String × Nat)} {M n bc bs bc' bs' pc' : Nat} {r : List Nat} {st st' : List Value} {X : Nat × (Nat → Int32)} {i : Instr}
/-- the four kinds of rows of plain things -/
def zz_T4 (tys : List (ClassId × FieldType)) (tc : Nat → ClassId) : Prop := tys[0]? = some (tc 0, .int) ∧ tys[1]? = some (tc 1, .char) ∧ tys[2]? = some (tc 2, .boolean) ∧ tys[3]? = some (tc 3, .long)
theorem zz_st2_ok (hx : p.tables.exec = Jvm.exec) (hb : c.code = cc) (hown : s.vm.findClass (Y.1 M).cls = some m.cls) (hnm : meth.name = (Y.1 M).name) (hml : c.maxLocals = ls.size) (hts : ∀ w ∈ Ts, w.before args s = true) (hK : va_K D cl tys s) (hT4 : zz_T4 tys tc) (hAO : ∀ C ∈ AO, (Cond.arrayOver (.object C)).before args s = true)
    (hXs : va_X b X.1 X.2 s s.heap) (hbl : b < s.heap.size) (hbb : b < b0)
    (hLK : zz_LK Z Y Ts cl tys tc AO SR M i r) (hdg : decode cc pc = .ok (i, n)) (hn : n = zz_len i) (hsp : zz_sp i r = false) (hfr : 1 ≤ R.frames) (hlo : zz_wt st + 12 ≤ R.locals)
    (hh : zz_hr b0 (zz_ad b0 sa b) tc D cl h H) (hS : zz_fr b0 s.heap H locs) (hc : cells + bc ≤ R.cells) (hs : slots + bs ≤ R.slots) (h2 : zz_st2 Z X i r pc st h bc bs = some (pc', st', h', bc', bs'))
    (kk : ∀ (H1 : Heap) (locs1 : List Loc) (cells1 slots1 : Nat), zz_hr b0 (zz_ad b0 sa b) tc D cl h' H1 → zz_fr b0 s.heap H1 locs1 → cells1 + bc' ≤ R.cells → slots1 + bs' ≤ R.slots → W p l e R s m args below meth c H1 locs1 cells1 slots1 Q (F0 m pc' ls (st'.map (zz_v (zz_ad b0 sa b))))) :
    W p l e R s m args below meth c H locs cells slots Q (F0 m pc ls (st.map (zz_v (zz_ad b0 sa b)))) := by
  subst hn
  have hSC : zz_ad b0 sa b zz_SC = b := by
    unfold zz_ad zz_SC zz_SB
    rw [if_neg (by omega), if_neg (by omega)]
  unfold zz_st2 at h2
  split at h2
  -- getfield
  · split at h2
    · next a t ci k =>
      obtain ⟨C, T, N, g1, g2, g3⟩ := hLK ci k rfl
      split at h2
      · next c0 fs hfs =>
        split at h2
        · next hci =>
          subst hci
          obtain ⟨v, hv, e0⟩ := Option.map_eq_some_iff.mp h2
          cases e0
          exact zz_get hx hb hown hts hK g1 g2 (g3.lnk hts) hh hfs hv hdg (kk H locs cells slots hh hS hc hs)
        · cases h2
      · cases h2
    · cases h2
  -- putfield
  · split at h2
    · next v a t ci k =>
      obtain ⟨C, T, N, g1, g2, g3, g4⟩ := hLK ci k rfl
      split at h2
      · next c0 fs hfs =>
        split at h2
        · next hci =>
          obtain ⟨rfl, hk, hv⟩ := hci
          cases h2
          obtain ⟨hv1, hv2⟩ := zz_v_fit (zz_ad b0 sa b) hv
          exact zz_put hx hb hown hts hK g1 g2 (g3.lnk hts) (g4.imp id fun ⟨q1, q2, q3, q4⟩ => ⟨q1, hnm.trans q2, q3, hts _ q4⟩) hh hS hfs hk hv1 hv2 hdg (fun H1 locs1 a1 a2 => kk H1 locs1 cells slots a1 a2 hc hs)
        · cases h2
      · cases h2
    · cases h2
  -- iaload
  · split at h2
    · next j a t =>
      split at h2
      · next ha =>
        subst ha
        split at h2
        · next hj =>
          cases h2
          have := va_sld (A := fun q => b0 ≤ q) hx hb hXs hbl (by omega) hS (zz_ix_of hj) hdg (kk H locs cells slots hh hS hc hs)
          rw [← hSC] at this
          exact this
        · cases h2
      · split at h2
        · next n f hf =>
          split at h2
          · next hj =>
            cases h2
            exact zz_iald hx hb hK hh hf hT4.1 hj hdg (kk H locs cells slots hh hS hc hs)
          · cases h2
        · cases h2
    · cases h2
  -- caload
  · split at h2
    · next j a t =>
      split at h2
      · next n f hf =>
        split at h2
        · next hj =>
          cases h2
          exact zz_cald hx hb hK hh hf hT4.2.1 hj hdg (kk H locs cells slots hh hS hc hs)
        · cases h2
      · cases h2
    · cases h2
  -- baload
  · split at h2
    · next j a t =>
      split at h2
      · next n f hf =>
        split at h2
        · next hj =>
          cases h2
          exact zz_zald hx hb hK hh hf hT4.2.2.1 hj hdg (kk H locs cells slots hh hS hc hs)
        · cases h2
      · cases h2
    · cases h2
  -- laload
  · split at h2
    · next j a t =>
      split at h2
      · next n f hf =>
        split at h2
        · next hj =>
          cases h2
          exact zz_lald hx hb hK hh hf hT4.2.2.2 hj hdg (kk H locs cells slots hh hS hc hs)
        · cases h2
      · cases h2
    · cases h2
  -- aaload
  · split at h2
    · next j a t g =>
      obtain ⟨C, hC⟩ := hLK g rfl
      split at h2
      · next tg n f hf =>
        split at h2
        · next hj =>
          obtain ⟨rfl, hj⟩ := hj
          cases h2
          exact zz_aald hx hb hK hh hf hC hj hdg (kk H locs cells slots hh hS hc hs)
        · cases h2
      · cases h2
    · cases h2
  -- iastore
  · split at h2
    · next x j a t =>
      split at h2
      · next n f hf =>
        split at h2
        · next hj =>
          cases h2
          exact zz_iast hx hb hK hh hS hf hT4.1 hj hdg (fun H1 locs1 a1 a2 => kk H1 locs1 cells slots a1 a2 hc hs)
        · cases h2
      · cases h2
    · cases h2
  -- castore
  · split at h2
    · next x j a t =>
      split at h2
      · next n f hf =>
        split at h2
        · next hj =>
          cases h2
          exact zz_cast hx hb hK hh hS hf hT4.2.1 hj hdg (fun H1 locs1 a1 a2 => kk H1 locs1 cells slots a1 a2 hc hs)
        · cases h2
      · cases h2
    · cases h2
  -- bastore
  · split at h2
    · next x j a t =>
      split at h2
      · next n f hf =>
        split at h2
        · next hj =>
          cases h2
          exact zz_zast hx hb hK hh hS hf hT4.2.2.1 hj hdg (fun H1 locs1 a1 a2 => kk H1 locs1 cells slots a1 a2 hc hs)
        · cases h2
      · cases h2
    · cases h2
  -- lastore
  · split at h2
    · next x j a t =>
      split at h2
      · next n f hf =>
        split at h2
        · next hj =>
          cases h2
          exact zz_last hx hb hK hh hS hf hT4.2.2.2 hj hdg (fun H1 locs1 a1 a2 => kk H1 locs1 cells slots a1 a2 hc hs)
        · cases h2
      · cases h2
    · cases h2
  -- aastore
  · split at h2
    · next v j a t g ci =>
      obtain ⟨q, hq, htq⟩ := hLK g ci rfl
      split at h2
      · next tg n f c0 fs hf hv =>
        split at h2
        · next hj =>
          obtain ⟨rfl, rfl, hj⟩ := hj
          cases h2
          exact zz_aast hx hb hK hh hS hf htq hv hq hj hdg (fun H1 locs1 a1 a2 => kk H1 locs1 cells slots a1 a2 hc hs)
        · cases h2
      · cases h2
    · cases h2
  -- arraylength
  · split at h2
    · next a t g =>
      obtain ⟨ty, hty⟩ := hLK g rfl
      split at h2
      · next ha =>
        subst ha
        cases h2
        have := va_slen (A := fun q => b0 ≤ q) hx hb hXs hbl (by omega) hS hdg (kk H locs cells slots hh hS hc hs)
        rw [← hSC] at this
        exact this
      · split at h2
        · next tg n x hf =>
          split at h2
          · next hg =>
            subst hg
            cases h2
            exact zz_alen hx hb hK hh hf hty hdg (kk H locs cells slots hh hS hc hs)
          · cases h2
        · cases h2
    · cases h2
  -- newarray
  · split at h2
    · next nn t tg =>
      obtain ⟨ht, hw⟩ := hLK tg rfl
      subst ht
      split at h2
      · next hcnd =>
        obtain ⟨q1, q2, q3, q4, q5, q6⟩ := hcnd
        cases h2
        refine zz_newa hx hb hK q6 (hts _ hw) ?_ hh hS q1 q4 (by omega) (by omega) q5 hdg (fun H1 a1 a2 => kk H1 locs _ _ a1 a2 (by omega) (by omega))
        rcases (show tg = 0 ∨ tg = 1 ∨ tg = 2 ∨ tg = 3 by omega) with rfl | rfl | rfl | rfl
        · exact hT4.1
        · exact hT4.2.1
        · exact hT4.2.2.1
        · exact hT4.2.2.2
      · cases h2
    · cases h2
  -- anewarray
  · split at h2
    · next nn t tg =>
      obtain ⟨C, q7, q8, q9⟩ := hLK tg rfl
      split at h2
      · next hcnd =>
        obtain ⟨q1, q2, q3, q4, q5⟩ := hcnd
        cases h2
        exact zz_newq hx hb hown hK (hts _ q9) (hAO C q7) q8 hh hS q1 q4 (by omega) (by omega) q5 hdg (fun H1 a1 a2 => kk H1 locs _ _ a1 a2 (by omega) (by omega))
      · cases h2
    · cases h2
  -- new
  · split at h2
    · next ci sl =>
      obtain ⟨C, T, N, g1, g2, g3, g4, g5, g6⟩ := hLK ci sl rfl
      split at h2
      · next hcnd =>
        obtain ⟨q2, q3, q5⟩ := hcnd
        cases h2
        exact zz_newo hx hb hown hts hK g1 (hts _ g2) (hts _ g3) (hts _ g4) hh hS (g6 _) g5 (by omega) (by omega) q5 hdg (fun H1 a1 a2 => kk H1 locs _ _ a1 a2 (by omega) (by omega))
      · cases h2
    · cases h2
  -- invokespecial
  · next idx =>
    split at h2
    · next a t =>
      obtain ⟨w1, w2, w3⟩ := hLK.1 rfl
      have hwt : zz_wt t ≤ zz_wt (.ref a :: t) := by
        unfold zz_wt
        rw [List.map_cons, List.sum_cons]
        omega
      have hlo2 : 2 * 0 + ((t.map (zz_v (zz_ad b0 sa b))).map fun v => v.category).sum + 12 ≤ R.locals := by
        rw [zz_wt_map]
        omega
      cases h2
      exact W.objInit hx hb hown (hts _ w1) (hts _ w2) (hts _ w3) rfl hml.symm rfl hdg hfr hlo2 (kk H locs cells slots hh hS hc hs)
    · cases h2
  -- invokestatic
  · cases hsp
  -- invokevirtual
  · cases hsp
  · cases h2
end ZZ5
