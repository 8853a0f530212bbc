/-! READING, abstractly: place, events so far, what is open (kind, how many parts, keys; innermost first), the key that waits -/
abbrev yr_S : Type := Int × List ye_E × List (Int × Nat × List (List Int)) × Option (List Int)
/-- where a plain token ends -/
def yr_end (T : Int → Int) (k p : Int) : Int := if k = 8 then yp_ref T p else if k = 4 then yp_nm T p else if k = 5 then yp_se T p else if k = 6 then p + 1 else if k = 7 then p + 2 else yp_wd T p
/-- the node that a token is -/
def yr_nd (T : Int → Int) (k p : Int) (key : List Int) : ye_N := (k, (if k = 3 then yp_num T p (yp_wd T p) else if k = 8 then T p - 48 else 0), (if k = 8 then T (yp_sk T (p + 1)) - 48 else 0), key, (if k = 4 then yp_sub T (yp_nm T p - (p + 1)).toNat (p + 1) else if k = 5 then yp_let T (yp_se T p - 1) (yp_se T p - p).toNat (p + 1) else []))
/-- a name at p -/
def yr_name (T : Int → Int) (p : Int) : List Int := yp_sub T (yp_nm T p - (p + 1)).toNat (p + 1)
def yr_push (k : Int) (st : List (Int × Nat × List (List Int))) : List (Int × Nat × List (List Int)) := if k = 6 ∨ k = 7 then (k, 0, []) :: st else st
def yr_part : List (Int × Nat × List (List Int)) → List (Int × Nat × List (List Int))
  | [] => []
  | (k, n, ks) :: st => (k, n + 1, ks) :: st
/-- how many nodes -/
def yr_many (es : List ye_E) : Nat := (es.filter (fun e => e.isLeft)).length
/-- a value is read -/
def yr_val (T : Int → Int) (S : yr_S) : yr_S ⊕ Int := if yp_kind T (yp_sk T S.1) < 0 ∨ S.2.2.1.length = 5 ∨ yr_many S.2.1 = 12 then .inr (yp_sk T S.1) else .inl (yr_end T (yp_kind T (yp_sk T S.1)) (yp_sk T S.1), S.2.1 ++ [.inl (yr_nd T (yp_kind T (yp_sk T S.1)) (yp_sk T S.1) (S.2.2.2.getD []))], yr_push (yp_kind T (yp_sk T S.1)) (yr_part S.2.2.1), none)
/-- one step: the next state, or the place of a fault -/
def yr_step (T : Int → Int) (S : yr_S) : yr_S ⊕ Int := match S.2.2.1, S.2.2.2 with
  | (k, n, ks) :: st, none => if k = 7 then (if T (yp_sk T S.1) = 62 ∧ T (yp_sk T S.1 + 1) = 62 then .inl (yp_sk T S.1 + 2, S.2.1 ++ [.inr 7], st, none) else if yp_isN T (yp_sk T S.1) = true ∧ yr_name T (yp_sk T S.1) ∉ ks then .inl (yp_nm T (yp_sk T S.1), S.2.1, (7, n, ks ++ [yr_name T (yp_sk T S.1)]) :: st, some (yr_name T (yp_sk T S.1))) else .inr (yp_sk T S.1)) else (if T (yp_sk T S.1) = 93 then .inl (yp_sk T S.1 + 1, S.2.1 ++ [.inr 6], st, none) else yr_val T S)
  | _, _ => yr_val T S
def yr_go (T : Int → Int) : Nat → yr_S → Option (yr_S ⊕ Int)
  | 0, _ => none
  | f + 1, S => match yr_step T S with
    | .inr w => some (.inr w)
    | .inl S' => if S'.2.2.1 = [] then some (.inl S') else yr_go T f S'
def yr_read (T : Int → Int) (p : Int) : Option (yr_S ⊕ Int) := yr_go T 1100 (p, [], [], none)
/-- the flag behind events -/
def ye_fl : Bool → List ye_E → Bool
  | f, [] => f
  | _, .inl d :: es => ye_fl (ye_nest d) es
  | _, .inr _ :: es => ye_fl false es
set_option maxRecDepth 100000 in
theorem ye_pr_app : ∀ (a b : List ye_E) (f : Bool), ye_pr f (a ++ b) = ye_pr f a ++ ye_pr (ye_fl f a) b
  | [], b, f => rfl
  | .inl d :: a, b, f => by
    show _ ++ (ye_ky d ++ (ye_op d ++ ye_pr (ye_nest d) (a ++ b))) = (_ ++ (ye_ky d ++ (ye_op d ++ ye_pr (ye_nest d) a))) ++ ye_pr (ye_fl (ye_nest d) a) b
    rw [ye_pr_app a b]
    simp
  | .inr k :: a, b, f => by
    show ye_cl k ++ ye_pr false (a ++ b) = (ye_cl k ++ ye_pr false a) ++ ye_pr (ye_fl false a) b
    rw [ye_pr_app a b]
    simp
set_option maxRecDepth 100000 in
theorem ye_fl_app : ∀ (a b : List ye_E) (f : Bool), ye_fl f (a ++ b) = ye_fl (ye_fl f a) b
  | [], _, _ => rfl
  | .inl d :: a, b, f => ye_fl_app a b (ye_nest d)
  | .inr k :: a, b, f => ye_fl_app a b false
set_option maxRecDepth 100000 in
/-- what a plain token says -/
theorem yr_word {T : Int → Int} {p : Int} {a b c d : Int} (h : yp_says T p a b c d = true) : T p = a ∧ T (p + 1) = b ∧ T (p + 2) = c ∧ T (p + 3) = d := of_decide_eq_true h
set_option maxRecDepth 100000 in
/-- a kind is what it is for a reason -/
theorem yr_kind {T : Int → Int} {p k : Int} (h : yp_kind T p = k) (h0 : 0 ≤ k) : (k = 6 ∧ T p = 91) ∨ (k = 7 ∧ T p = 60 ∧ T (p + 1) = 60) ∨ (k = 4 ∧ yp_isN T p = true) ∨ (k = 5 ∧ T p = 40 ∧ 0 ≤ yp_se T p) ∨ (k = 8 ∧ 0 ≤ yp_ref T p) ∨ (k = 0 ∧ yp_wd T p = p + 4 ∧ yp_says T p 110 117 108 108 = true) ∨ (k = 1 ∧ yp_wd T p = p + 4 ∧ yp_says T p 116 114 117 101 = true) ∨ (k = 2 ∧ yp_wd T p = p + 5 ∧ yp_says T p 102 97 108 115 = true ∧ T (p + 4) = 101) ∨ (k = 3 ∧ yp_isI T p (yp_wd T p) = true) := by
  unfold yp_kind at h
  split at h
  · next c => exact Or.inl ⟨h.symm, c⟩
  split at h
  · next c =>
    split at h
    · next c2 => exact Or.inr (Or.inl ⟨h.symm, c, c2⟩)
    · omega
  split at h
  · split at h
    · next c2 => exact Or.inr (Or.inr (Or.inl ⟨h.symm, c2⟩))
    · omega
  split at h
  · next c =>
    split at h
    · next c2 => exact Or.inr (Or.inr (Or.inr (Or.inl ⟨h.symm, c, c2⟩)))
    · omega
  split at h
  · next c => exact Or.inr (Or.inr (Or.inr (Or.inr (Or.inl ⟨h.symm, c⟩))))
  split at h
  · next c => exact Or.inr (Or.inr (Or.inr (Or.inr (Or.inr (Or.inl ⟨h.symm, c.1, c.2⟩)))))
  split at h
  · next c => exact Or.inr (Or.inr (Or.inr (Or.inr (Or.inr (Or.inr (Or.inl ⟨h.symm, c.1, c.2⟩))))))
  split at h
  · next c => exact Or.inr (Or.inr (Or.inr (Or.inr (Or.inr (Or.inr (Or.inr (Or.inl ⟨h.symm, c.1, c.2.1, c.2.2⟩)))))))
  split at h
  · next c => exact Or.inr (Or.inr (Or.inr (Or.inr (Or.inr (Or.inr (Or.inr (Or.inr ⟨h.symm, c⟩)))))))
  · omega
set_option maxRecDepth 100000 in
/-- runs have the characters that they are runs of -/
theorem yp_run_all {p : Int → Bool} {T : Int → Int} : ∀ (f : Nat) (k j : Int), k ≤ j → j < yp_run p T f k → p (T j) = true
  | 0, k, j, h1, h2 => by have h2 : j < k := h2; omega
  | f + 1, k, j, h1, h2 => by
    unfold yp_run at h2
    split at h2
    · next h =>
      by_cases e : j = k
      · rw [e]; exact h
      · exact yp_run_all f (k + 1) j (by omega) h2
    · omega
set_option maxRecDepth 100000 in
theorem yp_run_stop {p : Int → Bool} {T : Int → Int} (hT : yp_T T) (h0 : p 0 = false) : ∀ (f : Nat) (k : Int), 1001 ≤ k + f → p (T (yp_run p T f k)) = false
  | 0, k, h => by
    show p (T k) = false
    rw [hT k (by omega)]
    exact h0
  | f + 1, k, h => by
    unfold yp_run
    split
    · exact yp_run_stop hT h0 f (k + 1) (by omega)
    · next h1 => simpa using h1
set_option maxRecDepth 100000 in
theorem yp_sub_mem {T : Int → Int} : ∀ (n : Nat) (p c : Int), c ∈ yp_sub T n p → ∃ j, p ≤ j ∧ j < p + n ∧ c = T j
  | 0, _, _, h => by cases h
  | n + 1, p, c, h => by
    simp only [yp_sub, List.mem_cons] at h
    rcases h with h | h
    · exact ⟨p, Int.le_refl _, by omega, h⟩
    · obtain ⟨j, j1, j2, j3⟩ := yp_sub_mem n (p + 1) c h
      exact ⟨j, by omega, by omega, j3⟩
set_option maxRecDepth 100000 in
theorem yr_name_ok {T : Int → Int} {p : Int} (h : yp_isN T p = true) : ye_nm (yr_name T p) ∧ yp_nm T p = p + 1 + (yr_name T p).length := by
  have h1 := of_decide_eq_true h
  have e : (yr_name T p).length = (yp_nm T p - (p + 1)).toNat := yp_sub_len _ _ _
  refine ⟨⟨by omega, by omega, fun c hc => ?_⟩, by omega⟩
  obtain ⟨j, j1, j2, j3⟩ := yp_sub_mem _ _ c hc
  rw [j3]
  exact yp_run_all 2000 (p + 1) j j1 (by show j < yp_nm T p; omega)
