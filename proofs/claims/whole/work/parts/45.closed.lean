/-! runs that don't touch the script: by evaluation, for every script at once -/
def zn_touch (i : Instr) (st : List Value) : Bool := match i, st with
  | .iaload, _ :: .ref a :: _ => decide (a = zz_SC)
  | .arraylength, .ref a :: _ => decide (a = zz_SC)
  | _, _ => false
theorem zn_st2 {Z : zz_Z} {X Y : Nat × (Nat → Int32)} {i : Instr} {r : List Nat} {pc : Nat} {st : List Value} {h : zz_H} {bc bs : Nat} (ht : zn_touch i st = false) : zz_st2 Z X i r pc st h bc bs = zz_st2 Z Y i r pc st h bc bs := by
  cases i with
  | iaload =>
    cases st with
    | nil => rfl
    | cons v st => cases v with
      | int j => cases st with
        | nil => rfl
        | cons w t => cases w with
          | ref a =>
            have h1 : ¬ a = zz_SC := of_decide_eq_false ht
            simp only [zz_st2, h1, if_false]
          | _ => rfl
      | _ => rfl
  | arraylength =>
    cases st with
    | nil => rfl
    | cons v st => cases v with
      | ref a =>
        have h1 : ¬ a = zz_SC := of_decide_eq_false ht
        cases r with
        | nil => rfl
        | cons g r => cases r with
          | nil => simp only [zz_st2, h1, if_false]
          | cons g' r => rfl
      | _ => rfl
  | _ => rfl
theorem zn_body {Z : zz_Z} {X Y : Nat × (Nat → Int32)} {rec : Nat → Nat → List Value → List Value → zz_H → Nat → Nat → Option zz_O} {M pc : Nat} {L st : List Value} {h : zz_H} {bc bs : Nat} (ht : ∀ i n r, zz_cod Z M pc = some (i, n, r) → zn_touch i st = false) : zr_body Z X rec M pc L st h bc bs = zr_body Z Y rec M pc L st h bc bs := by
  unfold zr_body
  cases hc : zz_cod Z M pc with
  | none => rfl
  | some q =>
    obtain ⟨i, n, r⟩ := q
    simp only [zn_st2 (X := X) (Y := Y) (ht i n r hc)]
/-- the run, where it does not touch the script -/
def zn_ex (Z : zz_Z) : Nat → Nat → Nat → List Value → List Value → zz_H → Nat → Nat → Option zz_O
  | 0, _, _, _, _, _, _, _ => none
  | f + 1, M, pc, L, st, h, bc, bs => match zz_cod Z M pc with
    | none => none
    | some (i, _, _) => match zn_touch i st with
      | true => none
      | false => zr_body Z (0, fun _ => 0) (zn_ex Z f) M pc L st h bc bs
theorem zn_ok {Z : zz_Z} (X : Nat × (Nat → Int32)) : ∀ (f M pc : Nat) (L st : List Value) (h : zz_H) (bc bs : Nat) (r : zz_O), zn_ex Z f M pc L st h bc bs = some r → zz_ex Z X f M pc L st h bc bs = some r := by
  intro f
  induction f with
  | zero => intro M pc L st h bc bs r hr; cases hr
  | succ f ih =>
    intro M pc L st h bc bs r hr
    unfold zn_ex at hr
    rw [zr_ex_succ]
    cases hc : zz_cod Z M pc with
    | none => simp only [hc] at hr; cases hr
    | some q =>
      obtain ⟨i, n, r0⟩ := q
      simp only [hc] at hr
      cases ht : zn_touch i st with
      | true => simp only [ht] at hr; cases hr
      | false =>
        simp only [ht] at hr
        rw [zn_body (X := X) (Y := (0, fun _ => 0)) (fun i' n' r' h' => by rw [hc] at h'; cases h'; exact ht)]
        exact zr_body_mono (fun M pc L st h bc bs r => ih M pc L st h bc bs r) hr
