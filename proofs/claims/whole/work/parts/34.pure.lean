/-! THE PURE PART: the small machine's runs, put together out of pieces -/
/-- one unfolding of the run -/
def zr_body (Z : zz_Z) (X : Nat × (Nat → Int32)) (rec : Nat → Nat → List Value → List Value → zz_H → Nat → Nat → Option zz_O) (M pc : Nat) (L st : List Value) (h : zz_H) (bc bs : Nat) : Option zz_O :=
    match zz_cod Z M pc with
    | none => none
    | some (i, _, r) =>
      match zz_kd i r with
      | 0 => match zz_st1 i r pc L st with
        | none => none
        | some (pc', L', st') => rec M pc' L' st' h bc bs
      | 1 => match zz_hv i st with
        | true => none
        | false => match zz_st2 Z X i r pc st h bc bs with
          | none => none
          | some (pc', st', h', bc', bs') => rec M pc' L st' h' bc' bs'
      | 2 => zz_rt Z M i r st h bc bs
      | _ => match zz_av st r h with
        | none => none
        | some (N, vs, t) => if 8 < zz_wt t ∨ zz_mxl Z N < (zz_arg vs).length then none else
            match rec N 0 (zz_ent (zz_mxl Z N) vs) [] h bc bs with
            | none => none
            | some (.returned v, h', bc', bs') => rec M (pc + 3) L (v.toList ++ t) h' bc' bs'
            | some (.threw a, h', bc', bs') => match h'[a]? with
              | some (.inr (ci, [])) => match zz_fh (zz_hnd Z M) pc ci with
                | none => none
                | some p => rec M p L [.ref a] h' bc' bs'
              | _ => none
theorem zr_ex_succ (Z : zz_Z) (X : Nat × (Nat → Int32)) (f M pc : Nat) (L st : List Value) (h : zz_H) (bc bs : Nat) : zz_ex Z X (f + 1) M pc L st h bc bs = zr_body Z X (zz_ex Z X f) M pc L st h bc bs := rfl
section ZR
variable {Z : zz_Z} {X : Nat × (Nat → Int32)}
theorem zr_body_mono {rec rec' : Nat → Nat → List Value → List Value → zz_H → Nat → Nat → Option zz_O} (hrec : ∀ M pc L st h bc bs r, rec M pc L st h bc bs = some r → rec' M pc L st h bc bs = some r) {M pc : Nat} {L st : List Value} {h : zz_H} {bc bs : Nat} {r : zz_O} (hr : zr_body Z X rec M pc L st h bc bs = some r) : zr_body Z X rec' M pc L st h bc bs = some r := by
  unfold zr_body at hr ⊢
  cases hc : zz_cod Z M pc with
  | none => simp only [hc] at hr; cases hr
  | some q =>
    obtain ⟨i, n, r0⟩ := q
    simp only [hc] at hr ⊢
    generalize zz_kd i r0 = kk at hr ⊢
    rcases kk with _ | _ | _ | kk
    · simp only at hr ⊢
      cases he : zz_st1 i r0 pc L st with
      | none => simp only [he] at hr; cases hr
      | some q => simp only [he] at hr ⊢; exact hrec _ _ _ _ _ _ _ _ hr
    · simp only at hr ⊢
      cases hv : zz_hv i st with
      | true => simp only [hv] at hr; cases hr
      | false =>
        simp only [hv] at hr ⊢
        cases he : zz_st2 Z X i r0 pc st h bc bs with
        | none => simp only [he] at hr; cases hr
        | some q => simp only [he] at hr ⊢; exact hrec _ _ _ _ _ _ _ _ hr
    · exact hr
    · simp only at hr ⊢
      cases he : zz_av st r0 h with
      | none => simp only [he] at hr; cases hr
      | some q =>
        obtain ⟨N, vs, t⟩ := q
        simp only [he] at hr ⊢
        by_cases hw : 8 < zz_wt t ∨ zz_mxl Z N < (zz_arg vs).length
        · rw [if_pos hw] at hr; cases hr
        · rw [if_neg hw] at hr ⊢
          cases hq : rec N 0 (zz_ent (zz_mxl Z N) vs) [] h bc bs with
          | none => simp only [hq] at hr; cases hr
          | some q =>
            obtain ⟨o, h', bc', bs'⟩ := q
            simp only [hq] at hr
            simp only [hrec _ _ _ _ _ _ _ _ hq]
            cases o with
            | returned v => exact hrec _ _ _ _ _ _ _ _ hr
            | threw a =>
              cases hx : h'[a]? with
              | none => simp only [hx] at hr; cases hr
              | some e0 =>
                simp only [hx] at hr ⊢
                rcases e0 with e0 | ⟨ci, fs⟩
                · cases hr
                · cases fs with
                  | cons _ _ => cases hr
                  | nil =>
                    simp only at hr ⊢
                    cases hf : zz_fh (zz_hnd Z M) pc ci with
                    | none => simp only [hf] at hr; cases hr
                    | some p => simp only [hf] at hr ⊢; exact hrec _ _ _ _ _ _ _ _ hr
theorem zr_mono1 : ∀ (f M pc : Nat) (L st : List Value) (h : zz_H) (bc bs : Nat) (r : zz_O), zz_ex Z X f M pc L st h bc bs = some r → zz_ex Z X (f + 1) M pc L st h bc bs = some r := by
  intro f
  induction f with
  | zero => intro M pc L st h bc bs r hr; cases hr
  | succ f ih =>
    intro M pc L st h bc bs r hr
    rw [zr_ex_succ] at hr ⊢
    exact zr_body_mono (fun M pc L st h bc bs r => ih M pc L st h bc bs r) hr
theorem zr_mono {f g M pc : Nat} {L st : List Value} {h : zz_H} {bc bs : Nat} {r : zz_O} (hfg : f ≤ g) (hr : zz_ex Z X f M pc L st h bc bs = some r) : zz_ex Z X g M pc L st h bc bs = some r := by
  induction hfg with
  | refl => exact hr
  | step _ ih => exact zr_mono1 _ _ _ _ _ _ _ _ _ ih
/-- a place in a method's run: pc, locals, operands, heap, cells and slots left -/
abbrev zr_C : Type := Nat × List Value × List Value × zz_H × Nat × Nat
/-- from c the method M comes to its end r -/
def zr_ex (Z : zz_Z) (X : Nat × (Nat → Int32)) (M : Nat) (c : zr_C) (r : zz_O) : Prop := ∃ f, zz_ex Z X f M c.1 c.2.1 c.2.2.1 c.2.2.2.1 c.2.2.2.2.1 c.2.2.2.2.2 = some r
/-- from c the method M comes to c' -/
def zr_to (Z : zz_Z) (X : Nat × (Nat → Int32)) (M : Nat) (c c' : zr_C) : Prop := ∀ r, zr_ex Z X M c' r → zr_ex Z X M c r
theorem zr_to.refl {M : Nat} (c : zr_C) : zr_to Z X M c c := fun _ h => h
theorem zr_to.trans {M : Nat} {a b c : zr_C} (h1 : zr_to Z X M a b) (h2 : zr_to Z X M b c) : zr_to Z X M a c := fun r h => h1 r (h2 r h)
/-- one instruction that is no call and no end -/
def zr_one (Z : zz_Z) (X : Nat × (Nat → Int32)) (M : Nat) (c : zr_C) : Option zr_C := match zz_cod Z M c.1 with
  | none => none
  | some (i, _, r) => match zz_kd i r with
    | 0 => match zz_st1 i r c.1 c.2.1 c.2.2.1 with
      | none => none
      | some (pc', L', st') => some (pc', L', st', c.2.2.2)
    | 1 => match zz_hv i c.2.2.1 with
      | true => none
      | false => match zz_st2 Z X i r c.1 c.2.2.1 c.2.2.2.1 c.2.2.2.2.1 c.2.2.2.2.2 with
        | none => none
        | some (pc', st', h', bc', bs') => some (pc', c.2.1, st', h', bc', bs')
    | _ => none
theorem zr_one_ok {M : Nat} {c c' : zr_C} (h : zr_one Z X M c = some c') : zr_to Z X M c c' := by
  intro r ⟨f, hf⟩
  refine ⟨f + 1, ?_⟩
  rw [zr_ex_succ]
  obtain ⟨pc, L, st, hp, bc, bs⟩ := c
  unfold zr_one at h
  unfold zr_body
  cases hc : zz_cod Z M pc with
  | none => simp only [hc] at h; cases h
  | some q =>
    obtain ⟨i, n, r0⟩ := q
    simp only [hc] at h ⊢
    generalize zz_kd i r0 = kk at h ⊢
    rcases kk with _ | _ | _ | kk
    · simp only at h ⊢
      cases he : zz_st1 i r0 pc L st with
      | none => simp only [he] at h; cases h
      | some q =>
        simp only [he] at h ⊢
        cases h
        exact hf
    · simp only at h ⊢
      cases hv : zz_hv i st with
      | true => simp only [hv] at h; cases h
      | false =>
        simp only [hv] at h ⊢
        cases he : zz_st2 Z X i r0 pc st hp bc bs with
        | none => simp only [he] at h; cases h
        | some q =>
          simp only [he] at h ⊢
          cases h
          exact hf
    · cases h
    · cases h
/-- k instructions -/
def zr_run (Z : zz_Z) (X : Nat × (Nat → Int32)) (M : Nat) : Nat → zr_C → Option zr_C
  | 0, c => some c
  | k + 1, c => match zr_one Z X M c with
    | none => none
    | some c' => zr_run Z X M k c'
theorem zr_run_ok {M : Nat} : ∀ (k : Nat) {c c' : zr_C}, zr_run Z X M k c = some c' → zr_to Z X M c c'
  | 0, c, c', h => by cases h; exact zr_to.refl c
  | k + 1, c, c', h => by
    unfold zr_run at h
    split at h
    · cases h
    · next h1 => exact (zr_one_ok h1).trans (zr_run_ok k h)
/-- a call that returns -/
theorem zr_call {M pc n : Nat} {L st : List Value} {h : zz_H} {bc bs : Nat} {i : Instr} {r : List Nat} {N : Nat} {vs t : List Value} (hc : zz_cod Z M pc = some (i, n, r)) (hk : zz_kd i r = 3) (hav : zz_av st r h = some (N, vs, t)) (hw : ¬ (8 < zz_wt t ∨ zz_mxl Z N < (zz_arg vs).length)) {v : Option Value} {h' : zz_H} {bc' bs' : Nat}
    (hN : zr_ex Z X N (0, zz_ent (zz_mxl Z N) vs, [], h, bc, bs) (.returned v, h', bc', bs')) : zr_to Z X M (pc, L, st, h, bc, bs) (pc + 3, L, v.toList ++ t, h', bc', bs') := by
  intro q ⟨f, hf⟩
  obtain ⟨g, hg⟩ := hN
  refine ⟨max f g + 1, ?_⟩
  rw [zr_ex_succ]
  unfold zr_body
  simp only [hc, hk, hav]
  rw [if_neg hw, zr_mono (Nat.le_max_right f g) hg]
  exact zr_mono (Nat.le_max_left f g) hf
/-- a call that throws, and its handler -/
theorem zr_callx {M pc n : Nat} {L st : List Value} {h : zz_H} {bc bs : Nat} {i : Instr} {r : List Nat} {N : Nat} {vs t : List Value} (hc : zz_cod Z M pc = some (i, n, r)) (hk : zz_kd i r = 3) (hav : zz_av st r h = some (N, vs, t)) (hw : ¬ (8 < zz_wt t ∨ zz_mxl Z N < (zz_arg vs).length)) {a ci p : Nat} {h' : zz_H} {bc' bs' : Nat}
    (hN : zr_ex Z X N (0, zz_ent (zz_mxl Z N) vs, [], h, bc, bs) (.threw a, h', bc', bs')) (ha : h'[a]? = some (.inr (ci, []))) (hp : zz_fh (zz_hnd Z M) pc ci = some p) : zr_to Z X M (pc, L, st, h, bc, bs) (p, L, [.ref a], h', bc', bs') := by
  intro q ⟨f, hf⟩
  obtain ⟨g, hg⟩ := hN
  refine ⟨max f g + 1, ?_⟩
  rw [zr_ex_succ]
  unfold zr_body
  simp only [hc, hk, hav]
  rw [if_neg hw, zr_mono (Nat.le_max_right f g) hg]
  simp only [ha, hp]
  exact zr_mono (Nat.le_max_left f g) hf
/-- an end -/
theorem zr_end {M pc n : Nat} {L st : List Value} {h : zz_H} {bc bs : Nat} {i : Instr} {r : List Nat} {o : zz_O} (hc : zz_cod Z M pc = some (i, n, r)) (hk : zz_kd i r = 2) (hr : zz_rt Z M i r st h bc bs = some o) : zr_ex Z X M (pc, L, st, h, bc, bs) o := by
  refine ⟨1, ?_⟩
  rw [zr_ex_succ]
  unfold zr_body
  simp only [hc, hk]
  exact hr
end ZR
