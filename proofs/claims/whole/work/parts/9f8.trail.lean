/-! load: the trailer; the class -/
abbrev yNR : List Int := [82, 111, 111, 116]
abbrev yNP : List Int := [80, 114, 101, 118]
/-- what a trailer says: root, its generation, where the table before stands -/
def yl_trl (d : ye_N) (es : List ye_E) : Option (Int × Int × Option Int) := if d.1 = 7 then (match ye_fk yNR es 0 with
  | none => none
  | some (r, _) => if r.1 = 8 then (match ye_fk yNP es 0 with
    | none => some (r.2.1, r.2.2.1, none)
    | some (q, _) => if q.1 = 3 then some (r.2.1, r.2.2.1, some q.2.1) else none) else none) else none
section YLF8
variable {X : Nat × (Nat → Int32)}
set_option maxRecDepth 100000 in
theorem ys_75g {s : zq_S} {K : Int64 → zq_S → Prop} {j : Nat} (hj : j < 1000000) {a b c d : Int} (e : zq_str j = [a, b, c, d]) {y : Int64} (hy : (0 : Int64) ||| ((Int32.ofInt a).toInt64 <<< ((Int32.ofInt (8 * ((0 : Nat) : Int))).toInt64 &&& 63)) ||| ((Int32.ofInt b).toInt64 <<< ((Int32.ofInt (8 * ((1 : Nat) : Int))).toInt64 &&& 63)) ||| ((Int32.ofInt c).toInt64 <<< ((Int32.ofInt (8 * ((2 : Nat) : Int))).toInt64 &&& 63)) ||| ((Int32.ofInt d).toInt64 <<< ((Int32.ofInt (8 * ((3 : Nat) : Int))).toInt64 &&& 63)) = y) (k : K y s) : zq_Ex X 75 0 [.ref (1000000 + j), zz_no, zz_no, zz_no] [] s (zq_rl K) := by
  have l4 : (zq_str j).length = 4 := by rw [e]; rfl
  have step : ∀ (i : Nat) (y : Int64), i < 4 → zq_Ex X 75 4 [.ref (1000000 + j), .long (y ||| ((Int32.ofInt ([a, b, c, d].getD i 0)).toInt64 <<< ((Int32.ofInt (8 * (i : Int))).toInt64 &&& 63))), zz_no, zq_vi ((i + 1 : Nat) : Int)] [] s (zq_rl K) → zq_Ex X 75 4 [.ref (1000000 + j), .long y, zz_no, zq_vi (i : Int)] [] s (zq_rl K) := fun i y hi h => by
    refine zw_75_4 (j0 := j) hj (by rw [l4]; decide) ⟨by omega, by omega⟩ ?_
    rw [l4, if_pos (by omega), e]
    refine ⟨⟨by omega, by omega⟩, ?_⟩
    rw [show ((i : Int)).toNat = i by omega, show (i : Int) + 1 = ((i + 1 : Nat) : Int) by omega]
    exact h
  have fin : ∀ z : Int64, z = y → zq_Ex X 75 4 [.ref (1000000 + j), .long z, zz_no, zq_vi ((4 : Nat) : Int)] [] s (zq_rl K) := fun z hz => by
    refine zw_75_4 (j0 := j) hj (by rw [l4]; decide) ⟨by decide, by decide⟩ ?_
    rw [l4, if_neg (by omega), hz]
    exact k
  refine zw_75 (j0 := j) hj (by rw [l4]; decide) ?_
  exact step 0 0 (by decide) (step 1 _ (by decide) (step 2 _ (by decide) (step 3 _ (by decide) (fin _ hy))))
set_option maxRecDepth 100000 in
theorem ys_75R {s : zq_S} {K : Int64 → zq_S → Prop} (k : K (ye_pk yNR 0) s) : zq_Ex X 75 0 [.ref (1000000 + 30), zz_no, zz_no, zz_no] [] s (zq_rl K) := ys_75g (by decide) (a := 82) (b := 111) (c := 111) (d := 116) (by decide +kernel) (by decide +kernel) k
set_option maxRecDepth 100000 in
theorem ys_75P {s : zq_S} {K : Int64 → zq_S → Prop} (k : K (ye_pk yNP 0) s) : zq_Ex X 75 0 [.ref (1000000 + 31), zz_no, zz_no, zz_no] [] s (zq_rl K) := ys_75g (by decide) (a := 80) (b := 114) (c := 101) (d := 118) (by decide +kernel) (by decide +kernel) k
end YLF8
