/-! the tables' check: by program, method by method -/
/-- a row of a method's code: pc, instruction, length, resolved operands, places of its words -/
abbrev zz_C : Type := Nat × Instr × Nat × List Nat × List Nat
def zz_look : List zz_C → Nat → Option zz_I
  | [], _ => none
  | (q, i, n, r, _) :: t, pc => if q = pc then some (i, n, r) else zz_look t pc
theorem zz_look_mem : ∀ {l : List zz_C} {pc : Nat} {i : Instr} {n : Nat} {r : List Nat}, zz_look l pc = some (i, n, r) → ∃ ws, (pc, i, n, r, ws) ∈ l
  | [], _, _, _, _, h => by cases h
  | (q, i', n', r', ws) :: t, pc, i, n, r, h => by
    unfold zz_look at h
    split at h
    · next hq =>
      subst hq
      cases h
      exact ⟨ws, List.mem_cons_self⟩
    · obtain ⟨w, hw⟩ := zz_look_mem h
      exact ⟨w, List.mem_cons_of_mem _ hw⟩
def zz_wd (big : List (List Cond)) (wi : Nat) (w : Cond) : Bool := decide ((big.getD (wi / 1000) [])[wi % 1000]? = some w) && zz_gw w
abbrev zz_Ts (big : List (List Cond)) : List Cond := big.flatten.filter zz_gw
theorem zz_wd_mem {big : List (List Cond)} {wi : Nat} {w : Cond} (h : zz_wd big wi w = true) : w ∈ zz_Ts big := by
  unfold zz_wd at h
  simp only [Bool.and_eq_true, decide_eq_true_eq] at h
  refine List.mem_filter.mpr ⟨?_, h.2⟩
  have h1 := List.mem_of_getElem? h.1
  rw [List.getD_eq_getElem?_getD] at h1
  cases hb : big[wi / 1000]? with
  | none => rw [hb] at h1; cases h1
  | some ws => rw [hb] at h1; exact List.mem_flatten.mpr ⟨ws, List.mem_of_getElem? hb, h1⟩
theorem zz_Ts_good (big : List (List Cond)) : zz_good (zz_Ts big) := fun w hw => (List.mem_filter.mp hw).2
def zz_tgb (i : Instr) (r : List Nat) (pc : Nat) : Bool := match i with
  | .ifCond _ o | .if_icmp _ o | .ifnull o | .ifnonnull o | .goto o => match r with
    | [g] => decide ((pc : Int) + o = (g : Int))
    | _ => true
  | .tableswitch d lo hi os => match r with
    | g :: gs => decide ((pc : Int) + d = (g : Int)) && decide (gs.map (fun g : Nat => (g : Int)) = os.toList.map (fun o => (pc : Int) + o))
    | [] => true
  | .lookupswitch d ps => (ps.toList.zip (ps.toList.drop 1)).all (fun (a, next) => a.1 < next.1) && match r with
    | g :: gs => decide ((pc : Int) + d = (g : Int)) && decide (gs.map (fun g : Nat => (g : Int)) = ps.toList.map (fun q => (pc : Int) + q.2))
    | [] => true
  | _ => true
theorem zz_tgb_ok {i : Instr} {r : List Nat} {pc : Nat} (h : zz_tgb i r pc = true) : zz_tg i r pc := by
  cases i with
  | ifCond c o => intro g hg; subst hg; exact of_decide_eq_true h
  | if_icmp c o => intro g hg; subst hg; exact of_decide_eq_true h
  | ifnull o => intro g hg; subst hg; exact of_decide_eq_true h
  | ifnonnull o => intro g hg; subst hg; exact of_decide_eq_true h
  | goto o => intro g hg; subst hg; exact of_decide_eq_true h
  | tableswitch d lo hi os =>
    cases r with
    | nil => exact ⟨(fun g hg => by cases hg), (fun j g hg => by cases hg)⟩
    | cons g gs =>
      simp only [zz_tgb, Bool.and_eq_true, decide_eq_true_eq] at h
      refine ⟨fun g' hg => by cases hg; exact h.1, fun j g' hg => ?_⟩
      have hg : gs[j]? = some g' := hg
      have h1 : (gs.map (fun g : Nat => (g : Int)))[j]? = some (g' : Int) := by rw [List.getElem?_map, hg]; rfl
      rw [h.2, List.getElem?_map] at h1
      obtain ⟨o, ho, h2⟩ := Option.map_eq_some_iff.mp h1
      exact ⟨o, by rw [← Array.getElem?_toList]; exact ho, h2⟩
  | lookupswitch d ps =>
    simp only [zz_tgb, Bool.and_eq_true] at h
    refine ⟨h.1, fun d' ts hr => ?_⟩
    subst hr
    have h2 := h.2
    simp only [Bool.and_eq_true, decide_eq_true_eq] at h2
    exact h2
  | _ => exact trivial
/-- a method's link, by its place -/
def zz_mlb (big : List (List Cond)) (own : String) (idx : Nat) (y : MethodName) (w : Nat) : Bool := zz_wd big w (.methodLink own idx y) || zz_wd big w (.methodLinkNest own idx y "PaperObjects")
theorem zz_mlb_ok {big : List (List Cond)} {own : String} {idx : Nat} {y : MethodName} {w : Nat} (h : zz_mlb big own idx y w = true) : zz_mw (zz_Ts big) own idx y := by
  unfold zz_mlb at h
  rw [Bool.or_eq_true] at h
  exact h.elim (fun h => Or.inl (zz_wd_mem h)) (fun h => Or.inr ⟨_, zz_wd_mem h⟩)
def zz_flb (big : List (List Cond)) (own : String) (idx : Nat) (T : u_T) (k w : Nat) : Bool := zz_wd big w (.fieldLink own idx (T k).1 (T k).2.1 (T k).2.2.1) || zz_wd big w (.fieldLinkNest own idx (T k).1 (T k).2.1 (T k).2.2.1 "PaperObjects")
theorem zz_flb_ok {big : List (List Cond)} {own : String} {idx : Nat} {T : u_T} {k w : Nat} (h : zz_flb big own idx T k w = true) : zz_lw (zz_Ts big) own idx T k := by
  unfold zz_flb at h
  rw [Bool.or_eq_true] at h
  exact h.elim (fun h => Or.inl (zz_wd_mem h)) (fun h => Or.inr ⟨_, zz_wd_mem h⟩)
/-- a call -/
def zz_clb (big : List (List Cond)) (Z : zz_Z) (Y : zz_Y) (cl : List vw_C) (PL : List Nat) (own : String) (idx N n kd ci : Nat) (ws : List Nat) : Bool := match ws with
  | [w0, w1, w2, w3] => zz_mlb big own idx (Y.1 N) w0 && decide ((Y.1 N).cls ≠ "java/lang/invoke/MethodHandle" ∧ (Y.1 N).cls ≠ "java/lang/invoke/VarHandle") && (plainName (Y.1 N).cls || decide (N ∈ PL)) &&
      (match parseMethodDescriptor (Y.1 N).desc with
        | some sig => decide (n = sig.parameters.length)
        | none => true) &&
      ((zz_wd big w1 (.code (Y.1 N) (Y.2.1 N) (zz_mxl Z N) (zz_ret Z N)) && decide (Y.2.2 N = [])) || zz_wd big w1 (.codeWith (Y.1 N) (Y.2.1 N) (zz_mxl Z N) (zz_ret Z N) (Y.2.2 N))) &&
      (match kd with
        | 0 => zz_wd big w2 (.static (Y.1 N)) && zz_wd big w3 (.initialized (Y.1 N).cls)
        | 1 => zz_wd big w2 (.instanceMethod (Y.1 N)) && (match cl[ci]? with
          | some r => zz_wd big w3 (.selects r.1 (Y.1 N) (Y.1 N))
          | none => false)
        | 2 => zz_wd big w2 (.instanceMethod (Y.1 N)) && decide ((Y.1 N).name = "<init>" ∧ zz_ret Z N = none) && zz_wd big w1 (.code (Y.1 N) (Y.2.1 N) (zz_mxl Z N) none)
        | _ => false)
  | _ => false
theorem zz_clb_ok {big : List (List Cond)} {Z : zz_Z} {Y : zz_Y} {cl : List vw_C} {PL : List Nat} {own : String} {idx N n kd ci : Nat} {ws : List Nat} (hPL : ∀ N ∈ PL, plainFor (Y.1 N) = true) (h : zz_clb big Z Y cl PL own idx N n kd ci ws = true) : zz_cl Z Y (zz_Ts big) cl own idx N n kd ci := by
  unfold zz_clb at h
  split at h
  · next w0 w1 w2 w3 =>
    simp only [Bool.and_eq_true] at h
    obtain ⟨⟨⟨⟨⟨h1, h2⟩, h3⟩, h4⟩, h5⟩, h6⟩ := h
    refine ⟨zz_mlb_ok h1, of_decide_eq_true h2, ((Bool.or_eq_true _ _).mp h3).elim plainFor_of_name (fun z => hPL N (of_decide_eq_true z)), fun sig hs => ?_, ?_, ?_⟩
    · rw [hs] at h4
      exact of_decide_eq_true h4
    · rw [Bool.or_eq_true, Bool.and_eq_true] at h5
      exact h5.elim (fun h => Or.inl ⟨zz_wd_mem h.1, of_decide_eq_true h.2⟩) (fun h => Or.inr (zz_wd_mem h))
    · split at h6
      · rw [Bool.and_eq_true] at h6
        exact Or.inl ⟨rfl, zz_wd_mem h6.1, zz_wd_mem h6.2⟩
      · rw [Bool.and_eq_true] at h6
        obtain ⟨q1, q2⟩ := h6
        split at q2
        · next r hr => exact Or.inr (Or.inl ⟨rfl, zz_wd_mem q1, r, hr, zz_wd_mem q2⟩)
        · cases q2
      · simp only [Bool.and_eq_true] at h6
        obtain ⟨⟨q1, q2⟩, q3⟩ := h6
        exact Or.inr (Or.inr ⟨rfl, zz_wd_mem q1, (of_decide_eq_true q2).1, (of_decide_eq_true q2).2, zz_wd_mem q3⟩)
      · cases h6
  · cases h
def zz_nref : Value → Bool
  | .ref _ => false
  | _ => true
theorem zz_nref_map {vs : List Value} (h : vs.all zz_nref = true) (ad : Nat → Nat) : vs.map (zz_v ad) = vs := by
  induction vs with
  | nil => rfl
  | cons v vs ih =>
    rw [List.all_cons, Bool.and_eq_true] at h
    rw [List.map_cons, ih h.2]
    congr 1
    cases v <;> first | rfl | cases h.1
/-- the links of an instruction -/
def zz_lkb (big : List (List Cond)) (Z : zz_Z) (Y : zz_Y) (cl : List vw_C) (PL : List Nat) (tyl : List FieldType) (AO : List String) (SR : List (String × Nat × String × Nat)) (M : Nat) (i : Instr) (r ws : List Nat) : Bool := match i with
  | .ldc k => match r, ws with
    | [0, b], [w] => zz_wd big w (.constant (Y.1 M).cls k (Int32.ofNat b))
    | [1, j], _ => SR.any (fun q => decide (q.1 = (Y.1 M).cls ∧ q.2.1 = k ∧ q.2.2.2 = j))
    | _, _ => false
  | .ldc_w k => match r, ws with
    | [0, b], [w] => zz_wd big w (.constant (Y.1 M).cls k (Int32.ofNat b))
    | [1, j], _ => SR.any (fun q => decide (q.1 = (Y.1 M).cls ∧ q.2.1 = k ∧ q.2.2.2 = j))
    | _, _ => false
  | .ldc2_w k => match r, ws with
    | [b], [w] => zz_wd big w (.constantLong (Y.1 M).cls k (Int64.ofNat b))
    | _, _ => false
  | .getfield idx => match r, ws with
    | [ci, k], [w] => match cl[ci]? with
      | some (_, T, N) => decide (k < N) && zz_flb big (Y.1 M).cls idx T k w
      | none => false
    | _, _ => false
  | .putfield idx => match r, ws with
    | [ci, k], [w] => match cl[ci]? with
      | some (_, T, N) => decide (k < N) && zz_flb big (Y.1 M).cls idx T k w && (decide ((T k).2.2.2 = false) || (decide ((T k).2.2.2 = true ∧ (Y.1 M).name = "<init>" ∧ (T k).1 = (Y.1 M).cls) && zz_wd big w (.fieldLink (Y.1 M).cls idx (T k).1 (T k).2.1 (T k).2.2.1)))
      | none => false
    | _, _ => false
  | .arraylength => match r with
    | [g] => decide (g < tyl.length)
    | _ => false
  | .aaload => match r with
    | [g] => match tyl[g]? with
      | some (.object _) => true
      | _ => false
    | _ => false
  | .aastore => match r with
    | [g, ci] => match cl[ci]?, tyl[g]? with
      | some q, some (.object C) => decide (C = q.1)
      | _, _ => false
    | _ => false
  | .newarray t => match r, ws with
    | [tg], [w] => decide (t = zz_pty tg) && zz_wd big w (.arrayClass (newarray.typeOf (zz_pty tg)))
    | _, _ => false
  | .anewarray idx => match r, ws with
    | [tg], [w] => match tyl[tg]? with
      | some (.object C) => decide (C ∈ AO) && zz_wd big w (.classLink (Y.1 M).cls idx C)
      | _ => false
    | _, _ => false
  | .new idx => match r, ws with
    | [_, _, _], _ => true
    | [ci, sl], [w1, w2, w3] => match cl[ci]? with
      | some (C, _, N) => zz_wd big w1 (.classLink (Y.1 M).cls idx C) && zz_wd big w2 (.instantiable C sl) && zz_wd big w3 (.initialized C) && (List.range N).all (fun j => decide (defaultValue (zz_fty Z ci j) = vp_V (zz_new Z ci) j)) && (zz_new Z ci).all zz_nref
      | none => false
    | _, _ => false
  | .invokespecial idx => match r with
    | [2] => match ws with
      | [w1, w2, w3] => zz_wd big w1 (.methodLink (Y.1 M).cls idx Lib.objectInit) && zz_wd big w2 (.instanceMethod Lib.objectInit) && zz_wd big w3 (.code Lib.objectInit ⟨#[0xb1]⟩ 1 none)
      | _ => false
    | [1, N, n, kd, ci] => decide (kd = 2) && zz_clb big Z Y cl PL (Y.1 M).cls idx N n kd ci ws
    | _ => true
  | .invokestatic idx => match r with
    | [1, N, n, kd, ci] => decide (kd = 0) && zz_clb big Z Y cl PL (Y.1 M).cls idx N n kd ci ws
    | _ => true
  | .invokevirtual idx => match r with
    | [1, N, n, kd, ci] => decide (kd = 1) && zz_clb big Z Y cl PL (Y.1 M).cls idx N n kd ci ws
    | _ => true
  | _ => true
theorem zz_lkb_ok {big : List (List Cond)} {Z : zz_Z} {Y : zz_Y} {cl : List vw_C} {tyl : List FieldType} {tys : List (ClassId × FieldType)} {tc : Nat → ClassId} {AO : List String} {SR : List (String × Nat × String × Nat)} {M : Nat} {PL : List Nat} {i : Instr} {r ws : List Nat} (hPL : ∀ N ∈ PL, plainFor (Y.1 N) = true) (htys : ∀ (g : Nat) (ty : FieldType), tyl[g]? = some ty → tys[g]? = some (tc g, ty)) (hC : ∀ ci C T N, cl[ci]? = some (C, T, N) → zz_cls cl (zz_Ts big) (zz_fty Z ci) ci C T N) (h : zz_lkb big Z Y cl PL tyl AO SR M i r ws = true) : zz_LK Z Y (zz_Ts big) cl tys tc AO SR M i r := by
  cases i with
  | ldc k =>
    simp only [zz_lkb] at h
    split at h
    · next v w => exact ⟨(fun b hb => by cases hb; exact zz_wd_mem h), (fun j hj => by cases hj)⟩
    · next j =>
      refine ⟨(fun b hb => by cases hb), (fun j' hj => ?_)⟩
      cases hj
      obtain ⟨q, hq, h1⟩ := List.any_eq_true.mp h
      obtain ⟨e1, e2, e3⟩ := of_decide_eq_true h1
      exact ⟨q.2.2.1, by rw [← e1, ← e2, ← e3]; exact hq⟩
    · cases h
  | ldc_w k =>
    simp only [zz_lkb] at h
    split at h
    · next v w => exact ⟨(fun b hb => by cases hb; exact zz_wd_mem h), (fun j hj => by cases hj)⟩
    · next j =>
      refine ⟨(fun b hb => by cases hb), (fun j' hj => ?_)⟩
      cases hj
      obtain ⟨q, hq, h1⟩ := List.any_eq_true.mp h
      obtain ⟨e1, e2, e3⟩ := of_decide_eq_true h1
      exact ⟨q.2.2.1, by rw [← e1, ← e2, ← e3]; exact hq⟩
    · cases h
  | ldc2_w k =>
    simp only [zz_lkb] at h
    split at h
    · exact fun b hb => by cases hb; exact zz_wd_mem h
    · cases h
  | getfield idx =>
    simp only [zz_lkb] at h
    split at h
    · next ci k w =>
      split at h
      · next C T N hcl =>
        rw [Bool.and_eq_true] at h
        exact fun ci' k' hr => by cases hr; exact ⟨C, T, N, hC _ _ _ _ hcl, of_decide_eq_true h.1, zz_flb_ok h.2⟩
      · cases h
    · cases h
  | putfield idx =>
    simp only [zz_lkb] at h
    split at h
    · next ci k w =>
      split at h
      · next C T N hcl =>
        simp only [Bool.and_eq_true, Bool.or_eq_true] at h
        obtain ⟨⟨h1, h2⟩, h3⟩ := h
        refine fun ci' k' hr => ?_
        cases hr
        refine ⟨C, T, N, hC _ _ _ _ hcl, of_decide_eq_true h1, zz_flb_ok h2, ?_⟩
        rcases h3 with h3 | ⟨h3, h4⟩
        · exact Or.inl (of_decide_eq_true h3)
        · obtain ⟨q1, q2, q3⟩ := of_decide_eq_true h3
          exact Or.inr ⟨q1, q2, q3, zz_wd_mem h4⟩
      · cases h
    · cases h
  | arraylength =>
    simp only [zz_lkb] at h
    split at h
    · next g => exact fun g' hr => by cases hr; exact ⟨_, htys _ _ (List.getElem?_eq_getElem (of_decide_eq_true h))⟩
    · cases h
  | aaload =>
    simp only [zz_lkb] at h
    split at h
    · next g =>
      split at h
      · next C hty => exact fun g' hr => by cases hr; exact ⟨C, htys _ _ hty⟩
      · cases h
    · cases h
  | aastore =>
    simp only [zz_lkb] at h
    split at h
    · next g ci =>
      split at h
      · next q C hq hty =>
        have := of_decide_eq_true h
        subst this
        exact fun g' ci' hr => by cases hr; exact ⟨q, hq, htys _ _ hty⟩
      · cases h
    · cases h
  | newarray t =>
    simp only [zz_lkb] at h
    split at h
    · next tg w =>
      rw [Bool.and_eq_true] at h
      exact fun tg' hr => by cases hr; exact ⟨of_decide_eq_true h.1, zz_wd_mem h.2⟩
    · cases h
  | anewarray idx =>
    simp only [zz_lkb] at h
    split at h
    · next tg w =>
      split at h
      · next C hty =>
        rw [Bool.and_eq_true] at h
        exact fun tg' hr => by cases hr; exact ⟨C, of_decide_eq_true h.1, htys _ _ hty, zz_wd_mem h.2⟩
      · cases h
    · cases h
  | new idx =>
    simp only [zz_lkb] at h
    split at h
    · exact fun ci sl hr => by cases hr
    · next ci sl w1 w2 w3 =>
      split at h
      · next C T N hcl =>
        simp only [Bool.and_eq_true] at h
        obtain ⟨⟨⟨⟨h1, h2⟩, h3⟩, h4⟩, h5⟩ := h
        refine fun ci' sl' hr => ?_
        cases hr
        exact ⟨C, T, N, hC _ _ _ _ hcl, zz_wd_mem h1, zz_wd_mem h2, zz_wd_mem h3, (fun j hj => of_decide_eq_true (List.all_eq_true.mp h4 j (List.mem_range.mpr hj))), zz_nref_map h5⟩
      · cases h
    · cases h
  | invokespecial idx =>
    simp only [zz_lkb] at h
    split at h
    · split at h
      · simp only [Bool.and_eq_true] at h
        exact ⟨(fun _ => ⟨zz_wd_mem h.1.1, zz_wd_mem h.1.2, zz_wd_mem h.2⟩), (fun N n kd ci hr => by cases hr)⟩
      · cases h
    · next N n kd ci =>
      rw [Bool.and_eq_true] at h
      exact ⟨(fun hr => by cases hr), (fun N' n' kd' ci' hr => by cases hr; exact ⟨of_decide_eq_true h.1, zz_clb_ok hPL h.2⟩)⟩
    · next h1 h2 => exact ⟨(fun hr => absurd hr h1), (fun N n kd ci hr => absurd hr (h2 N n kd ci))⟩
  | invokestatic idx =>
    simp only [zz_lkb] at h
    split at h
    · next N n kd ci =>
      rw [Bool.and_eq_true] at h
      exact fun N' n' kd' ci' hr => by cases hr; exact ⟨of_decide_eq_true h.1, zz_clb_ok hPL h.2⟩
    · next h2 => exact fun N n kd ci hr => absurd hr (h2 N n kd ci)
  | invokevirtual idx =>
    simp only [zz_lkb] at h
    split at h
    · next N n kd ci =>
      rw [Bool.and_eq_true] at h
      exact fun N' n' kd' ci' hr => by cases hr; exact ⟨of_decide_eq_true h.1, zz_clb_ok hPL h.2⟩
    · next h2 => exact fun N n kd ci hr => absurd hr (h2 N n kd ci)
  | _ => exact trivial
/-- frames and words -/
def zz_rkb (Z : zz_Z) (K : Nat → Nat × Nat) (M : Nat) (i : Instr) (r : List Nat) : Bool := match i with
  | .invokespecial _ | .invokestatic _ | .invokevirtual _ => match r with
    | [1, N, _, _, _] => decide ((K N).1 + 1 ≤ (K M).1 ∧ 8 + (zz_mxl Z N + 11) + (K N).2 ≤ (K M).2)
    | x :: _ => decide (x ≠ 1 ∧ (zz_nd x).1 ≤ (K M).1 ∧ (zz_nd x).2 ≤ (K M).2)
    | [] => true
  | .new _ => match r with
    | [_, _, _] => decide (7 ≤ (K M).1 ∧ 180 ≤ (K M).2)
    | _ => true
  | _ => true
theorem zz_rkb_ok {Z : zz_Z} {K : Nat → Nat × Nat} {M : Nat} {i : Instr} {r : List Nat} (h : zz_rkb Z K M i r = true) : zz_rk Z K M i r := by
  cases i with
  | invokespecial idx =>
    simp only [zz_rkb] at h
    split at h
    · exact ⟨(fun N n kd ci hr => by cases hr; exact of_decide_eq_true h), (fun x hx hn => by cases hx; exact absurd rfl hn)⟩
    · next h1 => exact ⟨(fun N n kd ci hr => by cases hr; exact (h1 N n kd ci rfl rfl).elim), (fun x hx hn => by cases hx; exact (of_decide_eq_true h).2)⟩
    · exact ⟨(fun N n kd ci hr => by cases hr), (fun x hx => by cases hx)⟩
  | invokestatic idx =>
    simp only [zz_rkb] at h
    split at h
    · exact ⟨(fun N n kd ci hr => by cases hr; exact of_decide_eq_true h), (fun x hx hn => by cases hx; exact absurd rfl hn)⟩
    · next h1 => exact ⟨(fun N n kd ci hr => by cases hr; exact (h1 N n kd ci rfl rfl).elim), (fun x hx hn => by cases hx; exact (of_decide_eq_true h).2)⟩
    · exact ⟨(fun N n kd ci hr => by cases hr), (fun x hx => by cases hx)⟩
  | invokevirtual idx =>
    simp only [zz_rkb] at h
    split at h
    · exact ⟨(fun N n kd ci hr => by cases hr; exact of_decide_eq_true h), (fun x hx hn => by cases hx; exact absurd rfl hn)⟩
    · next h1 => exact ⟨(fun N n kd ci hr => by cases hr; exact (h1 N n kd ci rfl rfl).elim), (fun x hx hn => by cases hx; exact (of_decide_eq_true h).2)⟩
    · exact ⟨(fun N n kd ci hr => by cases hr), (fun x hx => by cases hx)⟩
  | new idx =>
    simp only [zz_rkb] at h
    split at h
    · exact fun a ci sl hr => by cases hr; exact of_decide_eq_true h
    · next h1 => exact fun a ci sl hr => absurd hr (h1 a ci sl)
  | _ => exact trivial
/-- a row of code is as the tables say -/
def zz_chk (big : List (List Cond)) (Z : zz_Z) (Y : zz_Y) (K : Nat → Nat × Nat) (cl : List vw_C) (PL : List Nat) (tyl : List FieldType) (AO : List String) (SR : List (String × Nat × String × Nat)) (M : Nat) : zz_C → Bool
  | (pc, i, n, r, ws) => decide (decode (Y.2.1 M) pc = .ok (i, n)) && (decide (n = zz_len i) || zz_isw i) && zz_tgb i r pc && zz_lkb big Z Y cl PL tyl AO SR M i r ws && zz_rkb Z K M i r
theorem zz_chk_ok {big : List (List Cond)} {Z : zz_Z} {Y : zz_Y} {K : Nat → Nat × Nat} {cl : List vw_C} {tyl : List FieldType} {tys : List (ClassId × FieldType)} {tc : Nat → ClassId} {AO : List String} {SR : List (String × Nat × String × Nat)} {M : Nat} {PL : List Nat} {cod : List zz_C} (hPL : ∀ N ∈ PL, plainFor (Y.1 N) = true) (htys : ∀ (g : Nat) (ty : FieldType), tyl[g]? = some ty → tys[g]? = some (tc g, ty)) (hC : ∀ ci C T N, cl[ci]? = some (C, T, N) → zz_cls cl (zz_Ts big) (zz_fty Z ci) ci C T N)
    (h : cod.all (zz_chk big Z Y K cl PL tyl AO SR M) = true) {pc : Nat} {i : Instr} {n : Nat} {r : List Nat} (hl : zz_look cod pc = some (i, n, r)) :
    decode (Y.2.1 M) pc = .ok (i, n) ∧ (n = zz_len i ∨ zz_isw i = true) ∧ zz_tg i r pc ∧ zz_LK Z Y (zz_Ts big) cl tys tc AO SR M i r ∧ zz_rk Z K M i r := by
  obtain ⟨ws, hm⟩ := zz_look_mem hl
  have h1 := List.all_eq_true.mp h _ hm
  simp only [zz_chk, Bool.and_eq_true, Bool.or_eq_true] at h1
  obtain ⟨⟨⟨⟨q1, q2⟩, q3⟩, q4⟩, q5⟩ := h1
  exact ⟨of_decide_eq_true q1, q2.imp of_decide_eq_true id, zz_tgb_ok q3, zz_lkb_ok hPL htys hC q4, zz_rkb_ok q5⟩
