/-! the fresh state -/
def zf_i (a : Nat) (j : Int) : Int := if j < 0 then 0 else match zf_ds[a]? with
  | some (.inl (_, _, xs)) => (xs.getD j.toNat 0).toInt
  | some (.inr (.inr (_, fs))) => (match fs[j.toNat]? with
    | some (.int x) => x.toInt
    | _ => 0)
  | _ => 0
def zf_r (a : Nat) (j : Int) : Option Nat := if j < 0 then none else match zf_ds[a]? with
  | some (.inr (.inr (_, fs))) => (match fs[j.toNat]? with
    | some (.ref r) => some r
    | _ => none)
  | _ => none
def zf_s : zq_S := (zf_i, zf_r, fun _ _ => 0, 0, 0)
/-- each described cell against the kinds of cells -/
def zf_ok1 (a : Nat) : Bool := match zf_ds[a]?, zq_k a with
  | some (.inl (t, n, xs)), (1, tg, m) => decide (t = tg ∧ n = m ∧ tg < 3 ∧ xs.length ≤ n) && xs.all (fun x => (tg != 1 || (decide (0 ≤ x.toInt) && decide (x.toInt < 65536))) && (tg != 2 || decide (x.toInt = 0) || decide (x.toInt = 1)))
  | some (.inl (t, n, _)), (2, tg, m) => decide (t = 3 ∧ tg = 3 ∧ n = m)
  | some (.inr (.inl (n, xs))), (3, tg, m) => decide (n = m) && (List.range n).all (fun j => decide (xs.getD j none = some (a + 8 + 10 * j)))
  | some (.inr (.inr (c, fs))), (0, ci, _) => decide (c = ci ∧ fs = (List.range (zq_nf ci)).map (zq_fv zf_s ci a)) && (List.range (zq_nf ci)).all (fun k => (zq_ft ci k != 1 || decide (zq_i zf_s a k = 0) || decide (zq_i zf_s a k = 1)) && (!(decide (10 ≤ zq_ft ci k) && decide (zq_ft ci k < 100)) || (match zq_r zf_s a k with
    | none => true
    | some b => decide (zq_o (zq_ft ci k - 10) b))))
  | _, _ => false
set_option maxRecDepth 100000 in
theorem zf_ok1_all : (List.range 259).all zf_ok1 = true := by decide +kernel
set_option maxRecDepth 100000 in
theorem zf_ok1_at {a : Nat} (h : a < 259) : zf_ok1 a = true := by
  have := zf_ok1_all
  rw [List.all_eq_true] at this
  exact this a (List.mem_range.mpr h)
set_option maxRecDepth 100000 in
theorem zf_len : zf_ds.length = 259 := by decide +kernel
set_option maxRecDepth 100000 in
theorem zf_k259 : zq_k 259 = (2, 3, 1) := by decide +kernel
set_option maxRecDepth 100000 in
theorem zf_k_lt {a x y z : Nat} (h : zq_k a = (x, y, z)) (hx : x < 9) : a < 259 ∨ (a = 259 ∧ x = 2 ∧ y = 3 ∧ z = 1) := by
  have h1 := zq_k_lt h hx
  by_cases e : a < 259
  · exact Or.inl e
  · right
    have : a = 259 := by omega
    subst this
    rw [zf_k259] at h
    cases h
    exact ⟨rfl, rfl, rfl, rfl⟩
