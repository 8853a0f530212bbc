/-! the small machine, second part: heap, calls, ends -/
abbrev zz_U : Type := Nat × List Value × zz_H × Nat × Nat
def zz_ix (i : Int32) (n : Nat) : Bool := decide (¬ (i < 0 ∨ n ≤ i.toNatClampNeg))
/-- what a new array holds, by the number of its type: 0 int, 1 char, 2 boolean, 3 long; from 4 on references -/
def zz_blank (tg n : Nat) : va_E := if tg = 3 then .inl (3, n, .inr (.inl (fun _ => 0))) else .inl (tg, n, .inl (fun _ => 0))
/-- instructions on the heap; calls that are no bytecode of the tables (2: Object's constructor, 3: an exception's, 4: arraycopy, 5: a string's length, 6: its charAt) -/
def zz_st2 (Z : zz_Z) (X : Nat × (Nat → Int32)) (i : Instr) (r : List Nat) (pc : Nat) (st : List Value) (h : zz_H) (bc bs : Nat) : Option zz_U := match i with
  | .getfield _ => match st, r with
    | .ref a :: t, [ci, k] => match h[a]? with
      | some (.inr (c, fs)) => if c = ci then (fs[k]?).map fun v => (pc + 3, v :: t, h, bc, bs) else none
      | _ => none
    | _, _ => none
  | .putfield _ => match st, r with
    | v :: .ref a :: t, [ci, k] => match h[a]? with
      | some (.inr (c, fs)) => if c = ci ∧ k < fs.length ∧ narrow (zz_fty Z ci k) v = v ∧ fits (zz_fty Z ci k) v = true then some (pc + 3, t, h.set a (.inr (c, fs.set k v)), bc, bs) else none
      | _ => none
    | _, _ => none
  | .iaload => match st with
    | .int j :: .ref a :: t => if a = zz_SC then (if zz_ix j X.1 then some (pc + 1, .int (X.2 j.toNatClampNeg) :: t, h, bc, bs) else none) else match h[a]? with
      | some (.inl (0, n, .inl f)) => if zz_ix j n then some (pc + 1, .int (f j.toNatClampNeg) :: t, h, bc, bs) else none
      | _ => none
    | _ => none
  | .caload => match st with
    | .int j :: .ref a :: t => match h[a]? with
      | some (.inl (1, n, .inl f)) => if zz_ix j n then some (pc + 1, .int (f j.toNatClampNeg) :: t, h, bc, bs) else none
      | _ => none
    | _ => none
  | .baload => match st with
    | .int j :: .ref a :: t => match h[a]? with
      | some (.inl (2, n, .inl f)) => if zz_ix j n then some (pc + 1, .int (f j.toNatClampNeg) :: t, h, bc, bs) else none
      | _ => none
    | _ => none
  | .laload => match st with
    | .int j :: .ref a :: t => match h[a]? with
      | some (.inl (3, n, .inr (.inl f))) => if zz_ix j n then some (pc + 1, .long (f j.toNatClampNeg) :: t, h, bc, bs) else none
      | _ => none
    | _ => none
  | .aaload => match st, r with
    | .int j :: .ref a :: t, [g] => match h[a]? with
      | some (.inl (tg, n, .inr (.inr (.inr (.inr f))))) => if tg = g ∧ zz_ix j n = true then some (pc + 1, va_rf (f j.toNatClampNeg) :: t, h, bc, bs) else none
      | _ => none
    | _, _ => none
  | .iastore => match st with
    | .int x :: .int j :: .ref a :: t => match h[a]? with
      | some (.inl (0, n, .inl f)) => if zz_ix j n then some (pc + 1, t, h.set a (.inl (0, n, .inl (upd f j.toNatClampNeg x))), bc, bs) else none
      | _ => none
    | _ => none
  | .castore => match st with
    | .int x :: .int j :: .ref a :: t => match h[a]? with
      | some (.inl (1, n, .inl f)) => if zz_ix j n then some (pc + 1, t, h.set a (.inl (1, n, .inl (upd f j.toNatClampNeg (vp_nar .char x)))), bc, bs) else none
      | _ => none
    | _ => none
  | .bastore => match st with
    | .int x :: .int j :: .ref a :: t => match h[a]? with
      | some (.inl (2, n, .inl f)) => if zz_ix j n then some (pc + 1, t, h.set a (.inl (2, n, .inl (upd f j.toNatClampNeg (vp_nar .boolean x)))), bc, bs) else none
      | _ => none
    | _ => none
  | .lastore => match st with
    | .long x :: .int j :: .ref a :: t => match h[a]? with
      | some (.inl (3, n, .inr (.inl f))) => if zz_ix j n then some (pc + 1, t, h.set a (.inl (3, n, .inr (.inl (vp_updL f j.toNatClampNeg x)))), bc, bs) else none
      | _ => none
    | _ => none
  | .aastore => match st, r with
    | .ref v :: .int j :: .ref a :: t, [g, ci] => match h[a]?, h[v]? with
      | some (.inl (tg, n, .inr (.inr (.inr (.inr f))))), some (.inr (c, _)) => if tg = g ∧ c = ci ∧ zz_ix j n = true then some (pc + 1, t, h.set a (.inl (tg, n, .inr (.inr (.inr (.inr (va_up f j.toNatClampNeg (some v))))))), bc, bs) else none
      | _, _ => none
    | _, _ => none
  | .arraylength => match st, r with
    | .ref a :: t, [g] => if a = zz_SC then some (pc + 1, .int (Int32.ofNat X.1) :: t, h, bc, bs) else match h[a]? with
      | some (.inl (tg, n, _)) => if tg = g then some (pc + 1, .int (Int32.ofNat n) :: t, h, bc, bs) else none
      | _ => none
    | _, _ => none
  | .newarray _ => match st, r with
    | .int n :: t, [tg] => if ¬ n < 0 ∧ 1 ≤ bc ∧ n.toNatClampNeg ≤ bs ∧ n.toNatClampNeg * 8 ≤ 536870912 ∧ h.length < zz_SB ∧ tg < 4 then some (pc + 2, .ref h.length :: t, h ++ [zz_blank tg n.toNatClampNeg], bc - 1, bs - n.toNatClampNeg) else none
    | _, _ => none
  | .anewarray _ => match st, r with
    | .int n :: t, [tg] => if ¬ n < 0 ∧ 1 ≤ bc ∧ n.toNatClampNeg ≤ bs ∧ n.toNatClampNeg * 4 ≤ 536870912 ∧ h.length < zz_SB then some (pc + 3, .ref h.length :: t, h ++ [.inl (tg, n.toNatClampNeg, .inr (.inr (.inr (.inr (fun _ => none)))))], bc - 1, bs - n.toNatClampNeg) else none
    | _, _ => none
  | .new _ => match r with
    | [ci, sl] => if 1 ≤ bc ∧ sl ≤ bs ∧ h.length < zz_SB then some (pc + 3, .ref h.length :: st, h ++ [.inr (ci, zz_new Z ci)], bc - 1, bs - sl) else none
    | _ => none
  | .invokespecial _ => match st, r with
    | .ref a :: t, [2] => some (pc + 3, t, h, bc, bs)
    | _, _ => none
  | .invokestatic _ => match st, r with
    | .int n :: .int dp :: .ref b :: .int sp :: .ref a :: t, [4] => if a = b ∧ ¬ sp < 0 ∧ ¬ dp < 0 ∧ ¬ n < 0 then match h[a]? with
      | some (.inl (3, k, .inr (.inl f))) => if sp.toNatClampNeg + n.toNatClampNeg ≤ k ∧ dp.toNatClampNeg + n.toNatClampNeg ≤ k then some (pc + 3, t, h.set a (.inl (3, k, .inr (.inl (va_cpy f f sp.toNatClampNeg dp.toNatClampNeg n.toNatClampNeg)))), bc, bs) else none
      | some (.inl (tg, k, .inl f)) => if tg < 2 ∧ (tg = 0 ∨ (List.range n.toNatClampNeg).all (fun i => fits .char (.int (f (sp.toNatClampNeg + i)))) = true) ∧ sp.toNatClampNeg + n.toNatClampNeg ≤ k ∧ dp.toNatClampNeg + n.toNatClampNeg ≤ k then some (pc + 3, t, h.set a (.inl (tg, k, .inl (va_cpy f f sp.toNatClampNeg dp.toNatClampNeg n.toNatClampNeg))), bc, bs) else none
      | _ => none
      else none
    | _, _ => none
  | .invokevirtual _ => match st, r with
    | .ref a :: t, [5] => if zz_SB ≤ a ∧ a < zz_SC then some (pc + 3, .int (Int32.ofNat (zz_str Z (a - zz_SB)).length) :: t, h, bc, bs) else none
    | .int j :: .ref a :: t, [6] => if zz_SB ≤ a ∧ a < zz_SC ∧ zz_ix j (zz_str Z (a - zz_SB)).length = true then some (pc + 3, .int ((zz_str Z (a - zz_SB)).getD j.toNatClampNeg 0) :: t, h, bc, bs) else none
    | _, _ => none
  | _ => none
abbrev zz_O : Type := Outcome × zz_H × Nat × Nat
/-- a method's end; 'new' of an exception's class is one too: new, dup, its constructor, athrow -/
def zz_rt (Z : zz_Z) (M : Nat) (i : Instr) (r : List Nat) (st : List Value) (h : zz_H) (bc bs : Nat) : Option zz_O := match i with
  | .ireturn => match st, zz_ret Z M with
    | [.int v], some ty => if narrow ty (.int v) = .int v then some (.returned (some (.int v)), h, bc, bs) else none
    | _, _ => none
  | .lreturn => match st, zz_ret Z M with
    | [.long v], some .long => some (.returned (some (.long v)), h, bc, bs)
    | _, _ => none
  | .areturn => match st, zz_ret Z M with
    | [.ref v], some (.object _) => some (.returned (some (.ref v)), h, bc, bs)
    | [.null], some (.object _) => some (.returned (some .null), h, bc, bs)
    | _, _ => none
  | .return_ => match st, zz_ret Z M with
    | [], none => some (.returned none, h, bc, bs)
    | _, _ => none
  | .new _ => match r, zz_hnd Z M with
    | [3, ci, sl], [] => if 1 ≤ bc ∧ sl ≤ bs ∧ h.length < zz_SB ∧ st.length < 5 then some (.threw h.length, h ++ [.inr (ci, [])], bc - 1, bs - sl) else none
    | _, _ => none
  | _ => none
/-- 0: no heap; 1: heap, and calls that are no bytecode of the tables; 2: an end; 3: a call -/
def zz_kd (i : Instr) (r : List Nat) : Nat := match i with
  | .ireturn | .lreturn | .areturn | .return_ => 2
  | .new _ => match r with
    | [_, _, _] => 2
    | _ => 1
  | .invokevirtual _ | .invokespecial _ | .invokestatic _ => match r with
    | 1 :: _ => 3
    | _ => 1
  | .getfield _ | .putfield _ | .iaload | .caload | .baload | .laload | .aaload | .iastore | .castore | .bastore | .lastore | .aastore | .arraylength | .newarray _ | .anewarray _ => 1
  | _ => 0
/-- the handler for an exception of class ci at pc -/
def zz_fh : List (Nat × Nat × Nat × Nat) → Nat → Nat → Option Nat
  | [], _, _ => none
  | (a, b, p, c) :: hs, pc, ci => if a ≤ pc ∧ pc < b ∧ c = ci then some p else zz_fh hs pc ci
/-- the arguments of a call: [1, method, number of arguments without receiver, 0 static | 1 virtual | 2 constructor, receiver's class] -/
def zz_av (st : List Value) (r : List Nat) (h : zz_H) : Option (Nat × List Value × List Value) := match r with
  | [1, N, n, 0, _] => if n ≤ st.length then some (N, (st.take n).reverse, st.drop n) else none
  | [1, N, n, _, ci] => match st[n]? with
    | some (.ref a) => match h[a]? with
      | some (.inr (c, _)) => if c = ci then some (N, .ref a :: (st.take n).reverse, st.drop (n + 1)) else none
      | _ => none
    | _ => none
  | _ => none
def zz_wt (st : List Value) : Nat := (st.map fun v => v.category).sum
/-- calls that are no bytecode of the tables -/
def zz_sp (i : Instr) (r : List Nat) : Bool := match i, r with
  | .invokespecial _, [2] => false
  | .invokespecial _, _ | .invokestatic _, _ | .invokevirtual _, _ => true
  | _, _ => false
/-- an instruction that calls: its operands weigh at most 16 -/
def zz_hv (i : Instr) (st : List Value) : Bool := match i with
  | .invokespecial _ | .invokestatic _ | .invokevirtual _ => decide (16 < zz_wt st)
  | _ => false
/-- THE RUN: fuel; method, pc, locals, operands; heap; cells and slots that may still be made -/
def zz_ex (Z : zz_Z) (X : Nat × (Nat → Int32)) : Nat → Nat → Nat → List Value → List Value → zz_H → Nat → Nat → Option zz_O
  | 0, _, _, _, _, _, _, _ => none
  | f + 1, M, pc, L, st, h, bc, bs =>
    match zz_cod Z M pc with
    | none => none
    | some (i, _, r) =>
      match zz_kd i r with
      | 0 => match zz_st1 i r pc L st with
        | none => none
        | some (pc', L', st') => zz_ex Z X f M pc' L' st' h bc bs
      | 1 => match zz_hv i st with
        | true => none
        | false => match zz_st2 Z X i r pc st h bc bs with
          | none => none
          | some (pc', st', h', bc', bs') => zz_ex Z X f M pc' L st' h' bc' bs'
      | 2 => zz_rt Z M i r st h bc bs
      | _ => match zz_av st r h with
        | none => none
        | some (N, vs, t) => if 8 < zz_wt t ∨ zz_mxl Z N < (zz_arg vs).length then none else
            match zz_ex Z X f N 0 (zz_ent (zz_mxl Z N) vs) [] h bc bs with
            | none => none
            | some (.returned v, h', bc', bs') => zz_ex Z X f M (pc + 3) L (v.toList ++ t) h' bc' bs'
            | some (.threw a, h', bc', bs') => match h'[a]? with
              | some (.inr (ci, [])) => match zz_fh (zz_hnd Z M) pc ci with
                | none => none
                | some p => zz_ex Z X f M p L [.ref a] h' bc' bs'
              | _ => none
