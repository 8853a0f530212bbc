/-! load: objects; the class takes the values -/
def yh_u (E : yLt) (o : Nat) : Option (Int × Int) := match E o with
  | some (true, pg) => some pg
  | _ => none
def yh_g (E : yLt) (o : Nat) : Int := match E o with
  | none => 0
  | some e => e.2.2
def yh_pl (E : yLt) (o : Nat) : Int := match yh_u E o with
  | some pg => pg.1
  | none => 0
abbrev yX_neo : List Int := [10, 101, 110, 100, 111, 98, 106, 10]
abbrev yX_nst : List Int := [10, 115, 116, 114, 101, 97, 109, 10]
abbrev yX_nes : List Int := [10, 101, 110, 100, 115, 116, 114, 101, 97, 109, 10, 101, 110, 100, 111, 98, 106, 10]
def yh_hd (T : Int → Int) (o : Nat) (p g : Int) : Bool := decide (T p = 48 + o ∧ T (p + 1) = 32 ∧ T (p + 2) = 48 + g ∧ yp_has T yX_ob (p + 3) = true)
def yh_v (T : Int → Int) (o : Nat) (p g : Int) : Option (Int × List ye_E) := if yh_hd T o p g = true then (match yr_read T (p + 8) with
  | some (.inl S') => some (S'.1, S'.2.1)
  | _ => none) else none
def yh_V (T : Int → Int) (E : yLt) (o : Nat) : Option (Int × List ye_E) := match yh_u E o with
  | some pg => yh_v T o pg.1 pg.2
  | none => none
/-- what entries are -/
def yLb (E : yLt) : Prop := ∀ o e, E o = some e → (0 ≤ e.2.1 ∧ e.2.1 ≤ 999) ∧ (0 ≤ e.2.2 ∧ e.2.2 ≤ 9)
set_option maxRecDepth 100000 in
theorem yl_put_b {T : Int → Int} {o : Nat} {p : Int} {E : yLt} (h : yl_en T p = true) (hE : yLb E) : yLb (yl_put T o p E) := fun i e he => by
  unfold yl_put at he
  by_cases hc : i = o ∧ E o = none
  · rw [if_pos hc] at he
    have he : yl_es T p = e := Option.some.inj he
    rw [← he]
    obtain ⟨d0, d1, d2, d3, d4, _⟩ := yl_en_iff.mp h
    refine ⟨yl_val3 d0 d1 d2, ?_⟩
    show 0 ≤ T (p + 4) - 48 ∧ T (p + 4) - 48 ≤ 9
    omega
  · rw [if_neg hc] at he
    exact hE i e he
set_option maxRecDepth 100000 in
theorem yl_rn_b {T : Int → Int} : ∀ (m o : Nat) (p : Int) (E : yLt) (p' : Int) (E' : yLt), yl_rn T m o p E = some (p', E') → yLb E → yLb E'
  | 0, o, p, E, p', E', h, hE => by
    have h : some (p, E) = some (p', E') := h
    cases h
    exact hE
  | m + 1, o, p, E, p', E', h, hE => by
    have h : (if yl_en T p = true then yl_rn T m (o + 1) (p + 8) (yl_put T o p E) else none) = some (p', E') := h
    by_cases he : yl_en T p = true
    · rw [if_pos he] at h
      exact yl_rn_b m (o + 1) (p + 8) _ p' E' h (yl_put_b he hE)
    · rw [if_neg he] at h
      cases h
set_option maxRecDepth 100000 in
theorem yl_run_b {T : Int → Int} {p : Int} {E : yLt} {p' : Int} {E' : yLt} (h : yl_run T p E = some (p', E')) (hE : yLb E) : yLb E' := by
  unfold yl_run at h
  split at h
  · exact yl_rn_b _ _ _ _ _ _ h hE
  · cases h
set_option maxRecDepth 100000 in
theorem yl_sec_b {T : Int → Int} : ∀ (f : Nat) (p : Int) (E : yLt) (p' : Int) (E' : yLt), yl_sec T f p E = some (p', E') → yLb E → yLb E'
  | 0, p, E, p', E', h, hE => by
    have h : some (p, E) = some (p', E') := h
    cases h
    exact hE
  | f + 1, p, E, p', E', h, hE => by
    have h : (if yp_dg (T p) = true then (match yl_run T p E with
      | none => none
      | some (p', E') => yl_sec T f p' E') else some (p, E)) = some (p', E') := h
    by_cases hd : yp_dg (T p) = true
    · rw [if_pos hd] at h
      cases hr : yl_run T p E with
      | none => rw [hr] at h; cases h
      | some x =>
        obtain ⟨p2, E2⟩ := x
        rw [hr] at h
        exact yl_sec_b f p2 E2 p' E' h (yl_run_b hr hE)
    · rw [if_neg hd] at h
      cases h
      exact hE
set_option maxRecDepth 100000 in
theorem yl_tab_b {T : Int → Int} {p : Int} {E : yLt} {p' : Int} {E' : yLt} (h : yl_tab T p E = some (p', E')) (hE : yLb E) : yLb E' := by
  unfold yl_tab at h
  split at h
  · cases hs : yl_sec T 1000 (p + 5) E with
    | none => rw [hs] at h; cases h
    | some x =>
      obtain ⟨p2, E2⟩ := x
      rw [hs] at h
      have h : (if yp_has T yX_tl p2 = true then some (p2 + 8, E2) else none) = some (p', E') := h
      split at h
      · have e : E2 = E' := congrArg Prod.snd (Option.some.inj h)
        rw [← e]
        exact yl_sec_b _ _ _ _ _ hs hE
      · cases h
  · cases h
set_option maxRecDepth 100000 in
theorem yl_tbl_b {T : Int → Int} {p : Int} {E E' : yLt} {ro : Int × Int × Option Int} (h : yl_tbl T p E = some (E', ro)) (hE : yLb E) : yLb E' := by
  unfold yl_tbl at h
  cases ht : yl_tab T p E with
  | none => rw [ht] at h; cases h
  | some x =>
    obtain ⟨q, E2⟩ := x
    have hb := yl_tab_b ht hE
    rw [ht] at h
    have h : (match yr_read T q with
      | some (.inl S') => (match S'.2.1 with
        | .inl d :: es => (match yl_trl d es with
          | none => none
          | some ro => some (E2, ro))
        | _ => none)
      | _ => none) = some (E', ro) := h
    split at h
    · split at h
      · split at h
        · cases h
        · have e : E2 = E' := congrArg Prod.fst (Option.some.inj h)
          rw [← e]
          exact hb
      · cases h
    · cases h
set_option maxRecDepth 100000 in
theorem yl_ch_b {T : Int → Int} {n : Int} : ∀ (f : Nat) (p : Int) (M : List Int) (E : yLt) (ro : Option (Int × Int)) (E' : yLt) (rg : Int × Int), yl_ch T n f p M E ro = .inr (E', rg) → yLb E → yLb E'
  | 0, p, M, E, ro, E', rg, h, hE => by cases h
  | f + 1, p, M, E, ro, E', rg, h, hE => by
    have h : (if p < 0 ∨ n ≤ p ∨ p ∈ M then .inl p else (match yl_tbl T p E with
      | none => .inl p
      | some (E', r, g, pv) => (match pv with
        | none => .inr (E', ro.getD (r, g))
        | some v => yl_ch T n f v (p :: M) E' (some (ro.getD (r, g))))) : Int ⊕ (yLt × Int × Int)) = .inr (E', rg) := h
    by_cases hc : p < 0 ∨ n ≤ p ∨ p ∈ M
    · rw [if_pos hc] at h
      cases h
    · rw [if_neg hc] at h
      cases ht : yl_tbl T p E with
      | none => rw [ht] at h; cases h
      | some x =>
        obtain ⟨E2, r, g, pv⟩ := x
        have hb := yl_tbl_b ht hE
        rw [ht] at h
        cases pv with
        | none =>
          have h : (.inr (E2, ro.getD (r, g)) : Int ⊕ (yLt × Int × Int)) = .inr (E', rg) := h
          have e : E2 = E' := congrArg Prod.fst (Sum.inr.inj h)
          rw [← e]
          exact hb
        | some v => exact yl_ch_b f v (p :: M) E2 _ E' rg h hb
set_option maxRecDepth 100000 in
theorem yh_tabs_b {T : Int → Int} {n : Int} {E : yLt} {rg : Int × Int} (h : yh_tabs T n = .inr (E, rg)) : yLb E := by
  unfold yh_tabs at h
  split at h
  · cases h
  · split at h
    · cases h
    · next x hx =>
      have e : x = (E, rg) := Sum.inr.inj h
      rw [e] at hx
      exact yl_ch_b _ _ _ _ _ _ _ hx (fun o e z => (by cases z))
set_option maxRecDepth 100000 in
theorem yh_u_b {E : yLt} (hE : yLb E) {o : Nat} {p g : Int} (h : yh_u E o = some (p, g)) : (0 ≤ p ∧ p ≤ 999) ∧ (0 ≤ g ∧ g ≤ 9) ∧ yh_g E o = g ∧ yh_pl E o = p := by
  have hpl : yh_pl E o = p := by unfold yh_pl; rw [h]
  unfold yh_u at h
  unfold yh_g
  cases he : E o with
  | none => rw [he] at h; cases h
  | some e =>
    obtain ⟨b, p2, g2⟩ := e
    have hb := hE o _ he
    rw [he] at h
    cases b with
    | false => cases h
    | true =>
      have h : (p2, g2) = (p, g) := Option.some.inj h
      have e1 : p2 = p := congrArg Prod.fst h
      have e2 : g2 = g := congrArg Prod.snd h
      have hb : (0 ≤ p2 ∧ p2 ≤ 999) ∧ (0 ≤ g2 ∧ g2 ≤ 9) := hb
      exact ⟨by omega, by omega, e2, hpl⟩
set_option maxRecDepth 100000 in
theorem yh_g_b {E : yLt} (hE : yLb E) (o : Nat) : 0 ≤ yh_g E o ∧ yh_g E o ≤ 9 := by
  unfold yh_g
  cases he : E o with
  | none => exact ⟨by decide, by decide⟩
  | some e => exact (hE o e he).2
/-- the class's view of the entries -/
def yCv (S : zq_S) (u : Nat) (E : yLt) : Prop := ∀ o : Nat, 1 ≤ o → o ≤ 9 → zq_i S (ysl u o) 0 = (if yh_u E o = none then 0 else 1) ∧ zq_i S (ysl u o) 3 = yh_g E o ∧ ∀ p g, yh_u E o = some (p, g) → zq_i S 18 o = p
set_option maxRecDepth 100000 in
theorem yLc.cv {S : zq_S} {u : Nat} {E : yLt} (h : yLc S u E) : yCv S u E := fun o o1 o9 => by
  have := h.2 o o1 o9
  unfold yh_u yh_g
  cases he : E o with
  | none =>
    rw [he] at this
    exact ⟨by rw [if_pos rfl]; exact this.1, this.2, fun p g z => (by cases z)⟩
  | some e =>
    obtain ⟨b, p2, g2⟩ := e
    rw [he] at this
    obtain ⟨a1, a2, a3⟩ := this
    cases b with
    | false => exact ⟨by rw [if_pos rfl]; exact a1, a3, fun p g z => (by cases z)⟩
    | true =>
      refine ⟨?_, a3, fun p g z => ?_⟩
      · rw [if_neg (by simp)]
        exact a1
      · have z : (p2, g2) = (p, g) := Option.some.inj z
        have e1 : p2 = p := congrArg Prod.fst z
        rw [← e1]
        exact a2
set_option maxRecDepth 100000 in
theorem yCv.cong {S S' : zq_S} {u : Nat} {E : yLt} (h : yCv S u E) (hs : ∀ o : Nat, 1 ≤ o → o ≤ 9 → ∀ j : Int, (j = 0 ∨ j = 3) → zq_i S' (ysl u o) j = zq_i S (ysl u o) j) (h18 : zq_i S' 18 = zq_i S 18) : yCv S' u E := fun o o1 o9 => by
  rw [hs o o1 o9 0 (Or.inl rfl), hs o o1 o9 3 (Or.inr rfl), h18]
  exact h o o1 o9
/-- the trees of a table's slots -/
def yD (S : zq_S) (u : Nat) : Prop := ∀ o : Nat, 1 ≤ o → o ≤ 9 → ∃ tr, zq_r S (ysl u o) 4 = some tr ∧ (zq_o 4 tr ∧ 29 < tr ∧ tr ≠ 128) ∧ ∀ o' : Nat, 1 ≤ o' → o' ≤ 9 → o' ≠ o → zq_r S (ysl u o') 4 ≠ some tr
set_option maxRecDepth 100000 in
theorem yI_tre.inj2 {s : zq_S} (h : yI_tre s) {c c' : Nat × Int} (hc : c ∈ ytI) (hc' : c' ∈ ytI) (e : zq_r s c.1 c.2 = zq_r s c'.1 c'.2) : c = c' := by
  obtain ⟨⟨l, h1, h2, h3⟩, _⟩ := h
  rw [ytl_eq] at h1
  have hnd : (ytI.map (fun c => zq_r s c.1 c.2)).Nodup := by
    rw [h1]
    exact yl_nodup h2 (fun a _ b _ e => Option.some.inj e)
  exact yl_inj hnd c hc c' hc' e
set_option maxRecDepth 100000 in
theorem yI_tre.D {s : zq_S} (h : yI_tre s) {u : Nat} (hu : u = 27 ∨ u = 126) : yD s u := fun o o1 o9 => by
  obtain ⟨tr, a1, a2, a3⟩ := h.slot hu o1 o9
  refine ⟨tr, a1, ⟨a2, a3⟩, fun o' p1 p9 hne z => hne ?_⟩
  have := h.inj2 (ytI_sl hu p1 p9) (ytI_sl hu o1 o9) (by show zq_r s (ysl u o') 4 = zq_r s (ysl u o) 4; rw [z, a1])
  exact ysl_inj p1 o1 (congrArg Prod.fst this)
/-- what taking values changes -/
def yhV (u : Nat) (s S : zq_S) : Prop := (∀ b, b ∉ [8, 9, 19] → (∀ o tr, 1 ≤ o → o ≤ 9 → zq_r s (ysl u o) 4 = some tr → b ∉ yc_t7 tr) → zq_i S b = zq_i s b ∧ zq_l S b = zq_l s b) ∧ (∀ b, b ≠ 8 → zq_r S b = zq_r s b) ∧ zq_n S = zq_n s
set_option maxRecDepth 100000 in
theorem yhV.refl (u : Nat) (s : zq_S) : yhV u s s := ⟨fun _ _ _ => ⟨rfl, rfl⟩, fun _ _ => rfl, rfl⟩
set_option maxRecDepth 100000 in
theorem yhV.hG {u : Nat} {s S : zq_S} (h : yhV u s S) : yhG u s S := by
  refine ⟨fun b hb => h.1 b (fun z => hb (Or.inl ?_)) (fun o tr o1 o9 z1 z2 => hb (Or.inr (Or.inr ⟨o, o1, o9, Or.inr (Or.inr (Or.inr ⟨tr, z1, z2⟩))⟩))), fun b hb => h.2.1 b (by omega), h.2.2⟩
  simp at z
  omega
set_option maxRecDepth 100000 in
theorem yhV.keep {u : Nat} {s S : zq_S} (hD : yD s u) (h : yhV u s S) {b : Nat} (hb : b ∉ [8, 9, 19]) (hk : b < 30 ∨ zq_k b = (0, 7, 0) ∨ zq_k b = (0, 1, 0) ∨ zq_k b = (0, 8, 0) ∨ 231 < b) : zq_i S b = zq_i s b ∧ zq_l S b = zq_l s b := by
  refine h.1 b hb (fun o tr o1 o9 z1 z2 => ?_)
  obtain ⟨tr', a1, a2, _⟩ := hD o o1 o9
  have htt : tr' = tr := Option.some.inj (a1.symm.trans z1)
  subst htt
  have hb2 := yk_tree a2.1 a2.2
  have hb3 := yk_t7 z2
  obtain ⟨c1, c2, c3, _⟩ := yk_tcells a2.1 z2
  rcases hk with z | z | z | z | z
  · omega
  · exact c2 z
  · exact c3 z
  · exact c1 z
  · omega
set_option maxRecDepth 100000 in
theorem ylk.V {s S : zq_S} {F u : Nat} {T : Int → Int} (h : ylk s F u T) (hD : yD s u) (f : yhV u s S) : ylk S F u T := by
  obtain ⟨h1, h2, h3, h4, h5, h6⟩ := h
  have c1 := (f.keep hD (b := F) (by simp; omega) (Or.inl (by omega))).1
  have c2 := (f.keep hD (b := F + 1) (by simp; omega) (Or.inl (by omega))).1
  refine ⟨h1, h2, ?_, ?_, by rw [f.2.1 7 (by decide)]; exact h5, by rw [f.2.1 7 (by decide)]; exact h6⟩
  · unfold yc_ok
    rw [c1, c2]
    exact h3
  · rw [← h4]
    unfold yc_t
    rw [c1, c2]
/-- the class's view of a value -/
def yVo (S : zq_S) (u : Nat) (T : Int → Int) (E : yLt) (o : Nat) : Prop := yh_u E o ≠ none → ∃ tr, zq_r S (ysl u o) 4 = some tr ∧ match yh_V T E o with
  | none => zq_i S tr 0 = 0
  | some (q, es) => yt_tr S tr 0 0 es ∧ yv es ∧ zq_i S 19 o = q ∧ (0 ≤ q ∧ q ≤ 1000)
set_option maxRecDepth 100000 in
theorem yVo.cong {S S' : zq_S} {u : Nat} {T : Int → Int} {E : yLt} {o : Nat} (h : yVo S u T E o) (hr : zq_r S' (ysl u o) 4 = zq_r S (ysl u o) 4) (ht : ∀ tr, zq_r S (ysl u o) 4 = some tr → (∀ q ∈ yc_t7 tr, zq_i S' q = zq_i S q) ∧ zq_l S' (tr + 5) = zq_l S (tr + 5)) (h19 : zq_i S' 19 o = zq_i S 19 o) : yVo S' u T E o := fun hu => by
  obtain ⟨tr, a1, a2⟩ := h hu
  obtain ⟨c1, c2⟩ := ht tr a1
  refine ⟨tr, hr.trans a1, ?_⟩
  cases hv : yh_V T E o with
  | none =>
    rw [hv] at a2
    show zq_i S' tr 0 = 0
    rw [c1 tr (by simp)]
    exact a2
  | some x =>
    obtain ⟨q, es⟩ := x
    rw [hv] at a2
    obtain ⟨b1, b2, b3, b4⟩ := a2
    exact ⟨b1.cong c1 c2, b2, h19.trans b3, b4⟩
section YLH2
variable {X : Nat × (Nat → Int32)}
set_option maxRecDepth 100000 in
theorem ys_33L {S : zq_S} {u : Nat} {E : yLt} (f2 : u = 27 ∨ u = 126) (hL : yCv S u E) {x : Int} (hx : zq_iv x) {K : Option Nat → zq_S → Prop} (k0 : (∀ o : Nat, x = o → 1 ≤ o → o ≤ 9 → yh_u E o = none) → K none S) (k1 : ∀ (o : Nat) (p g : Int), x = o → 1 ≤ o → o ≤ 9 → yh_u E o = some (p, g) → K (some (ysl u o)) S) : zq_Ex X 33 0 [.ref u, zq_vi x, zz_no] [] S (zq_rr 7 K) := by
  refine zw_33 (yk_t8 f2) hx (yl_if (fun z => k0 (fun o h o1 o9 => by omega)) fun hx1 => yl_if (fun hx9 => ⟨⟨by omega, by omega⟩, ?_⟩) (fun z => k0 (fun o h o1 o9 => by omega)))
  obtain ⟨o, ho⟩ : ∃ o : Nat, x = o := ⟨x.toNat, by omega⟩
  subst ho
  have e : u + 1 + 8 + 10 * ((o : Int) - 1).toNat = ysl u o := by unfold ysl; omega
  rw [e, (hL o (by omega) (by omega)).1]
  cases hu : yh_u E o with
  | none =>
    rw [if_pos rfl, if_pos rfl]
    refine k0 (fun o' h o1 o9 => ?_)
    have : o' = o := by omega
    rw [this]
    exact hu
  | some pg =>
    rw [if_neg (show ¬ (if (some pg : Option (Int × Int)) = none then (0 : Int) else 1) = 0 by rw [if_neg (by simp)]; decide)]
    exact ⟨⟨by omega, by omega⟩, k1 o pg.1 pg.2 rfl (by omega) (by omega) hu⟩
set_option maxRecDepth 100000 in
theorem ys_121 {S : zq_S} {F u o : Nat} {T : Int → Int} {p g : Int} (hk : ylk S F u T) (o1 : 1 ≤ o) (o9 : o ≤ 9) (hp : zq_i S 18 o = p) (hg : zq_i S (ysl u o) 3 = g) (p0 : 0 ≤ p ∧ p ≤ 999) (g0 : 0 ≤ g ∧ g ≤ 9) {K : Int → zq_S → Prop} (k : K (yb (yh_hd T o p g)) S) : zq_Ex X 121 0 [.ref 7, zq_vi (o : Int), .ref (ysl u o), zz_no] [] S (zq_rp zq_bo K) := by
  obtain ⟨f1, f2, hok, hT, r6, r7⟩ := hk
  have oF : zq_o 1 F := by rcases f1 with z | z <;> (subst z; decide +kernel)
  have s32 : zq_str 32 = yX_ob := by decide +kernel
  have hhd : yh_hd T o p g = true ↔ (T p = 48 + o ∧ T (p + 1) = 32 ∧ T (p + 2) = 48 + g ∧ yp_has T yX_ob (p + 3) = true) := by
    unfold yh_hd
    exact decide_eq_true_iff
  have no : ¬ (yh_hd T o p g = true) → K 0 S := fun h => by
    cases e : yh_hd T o p g with
    | true => exact absurd e h
    | false => rw [e] at k; exact k
  refine zw_121 ⟨by omega, by omega⟩ (yk_sl f2 o1 o9).1 ⟨⟨by omega, by omega⟩, F, r6, ?_⟩
  rw [hp]
  refine ys_29 oF hok ⟨by omega, by omega⟩ ⟨⟨by omega, by omega⟩, ?_⟩
  rw [hT]
  refine yl_if (fun h0 => ⟨F, r6, ys_29 oF hok ⟨by omega, by omega⟩ ?_⟩) (fun h0 => no (fun z => h0 ((yp_cd_iff (by omega) (by omega)).mpr (hhd.mp z).1)))
  have h0 := (yp_cd_iff (by omega) (by omega)).mp h0
  rw [hT]
  refine yl_if (fun h1 => ⟨F, r6, ys_29 oF hok ⟨by omega, by omega⟩ ?_⟩) (fun h1 => no (fun z => h1 ((yp_cd_iff (by decide) (by decide)).mpr (hhd.mp z).2.1)))
  have h1 := (yp_cd_iff (by decide) (by decide)).mp h1
  rw [hT, hg]
  refine ⟨⟨by omega, by omega⟩, yl_if (fun h2 => ⟨F, r6, ys_49 oF hok ⟨by omega, by omega⟩ (by decide) (by rw [s32]; decide) (by rw [s32]; decide) ?_⟩) (fun h2 => no (fun z => h2 ((yp_cd_iff (by omega) (by omega)).mpr (hhd.mp z).2.2.1)))⟩
  have h2 := (yp_cd_iff (by omega) (by omega)).mp h2
  rw [hT, s32]
  cases h3 : yp_has T yX_ob (p + 3) with
  | false =>
    rw [if_pos (show yb false = 0 from rfl)]
    exact no (fun z => by rw [h3] at hhd; cases (hhd.mp z).2.2.2)
  | true =>
    rw [if_neg (show ¬ yb true = 0 by decide)]
    rw [hhd.mpr ⟨h0, h1, h2, h3⟩] at k
    exact k
set_option maxRecDepth 100000 in
theorem yh_hd_lt {T : Int → Int} (hb : yTb T) {o : Nat} {p g : Int} (h : yh_hd T o p g = true) : p + 7 < 999 := by
  unfold yh_hd at h
  have h := (of_decide_eq_true h).2.2.2
  rw [yp_has_cons, yp_has_cons, yp_has_cons, yp_has_cons, yp_has_cons] at h
  have h7 := h.2.2.2.2.1
  rw [show p + 3 + 1 + 1 + 1 + 1 = p + 7 by omega] at h7
  exact (hb.2 (p + 7) (by omega)).2
set_option maxRecDepth 100000 in
theorem ys_120_2 {S0 : zq_S} {F u : Nat} {T : Int → Int} {E : yLt} (hk : ylk S0 F u T) (hb : yTb T) (hC : yp_C T) (hL : yCv S0 u E) (hE : yLb E) (hD : yD S0 u) {K : zq_S → Prop} (k : ∀ S', yhV u S0 S' → (∀ o : Nat, 1 ≤ o → o ≤ 9 → yVo S' u T E o) → K S') : ∀ (m o : Nat) (S : zq_S) (v2 : Value), v2.category = 1 → o + m = 10 → 1 ≤ o → yhV u S0 S → (∀ o' : Nat, 1 ≤ o' → o' < o → yVo S u T E o') → zq_Ex X 120 2 [.ref 7, zq_vi (o : Int), v2] [] S (zq_rv K)
  | 0, o, S, v2, h2, ho, o1, fr, hV => by
    refine zw_120_2 ⟨by omega, by omega⟩ h2 ?_
    rw [if_neg (by omega)]
    exact k S fr (fun o' p1 p9 => hV o' p1 (by omega))
  | m + 1, o, S, v2, h2, ho, o1, fr, hV => by
    have o9 : o ≤ 9 := by omega
    have hkS := hk.V hD fr
    obtain ⟨f1, f2, hok, hT, r6, r7⟩ := id hkS
    have oF : zq_o 1 F := by rcases f1 with z | z <;> (subst z; decide +kernel)
    have o8 : zq_o 3 8 := by decide +kernel
    have hTT : yp_T T := fun j hj => Classical.byContradiction fun z => by
      have := hb.2 j z
      omega
    have hLS : yCv S u E := hL.cong (fun o' p1 p9 j _ => by rw [(fr.keep hD (by have := yk_sl f2 p1 p9; simp; omega) (Or.inr (Or.inl (yk_sl f2 p1 p9).1))).1]) (fr.keep hD (by decide) (Or.inl (by decide))).1
    have rS : ∀ o' : Nat, 1 ≤ o' → o' ≤ 9 → zq_r S (ysl u o') = zq_r S0 (ysl u o') := fun o' p1 p9 => fr.2.1 _ (by have := yk_sl f2 p1 p9; omega)
    refine zw_120_2 ⟨by omega, by omega⟩ h2 ?_
    rw [if_pos (by omega), show (o : Int) + 1 = ((o + 1 : Nat) : Int) by omega]
    refine ⟨u, r7, ys_33L f2 hLS ⟨by omega, by omega⟩ (fun hno => ⟨fun _ => ?_, fun b z => (by cases z)⟩) (fun o' p g ho' _ _ hu => ⟨fun z => (by cases z), fun b hbb => ?_⟩)⟩
    · refine ys_120_2 hk hb hC hL hE hD k m (o + 1) S _ rfl (by omega) (by omega) fr (fun o' p1 p9 => ?_)
      by_cases e : o' = o
      · rw [e]
        exact fun z => absurd (hno o rfl o1 o9) z
      · exact hV o' p1 (by omega)
    · have hbb : ysl u o' = b := Option.some.inj hbb
      have hoo : o' = o := by omega
      subst hoo
      subst hbb
      obtain ⟨tr, t1, t2, t3⟩ := hD o' o1 o9
      have t1S : zq_r S (ysl u o') 4 = some tr := by rw [rS o' o1 o9]; exact t1
      obtain ⟨b1, b2, b3, b4⟩ := yh_u_b hE hu
      have btr := yk_tree t2.1 t2.2
      have hsl := yk_sl f2 o1 o9
      have hVV : yh_V T E o' = yh_v T o' p g := by unfold yh_V; rw [hu]
      have next : ∀ (S1 : zq_S) (w : Int), (∀ b, b ∉ yc_A 8 tr → zq_i S1 b = zq_i S b ∧ zq_l S1 b = zq_l S b) → (∀ b, b ≠ 8 → zq_r S1 b = zq_r S b) → zq_n S1 = zq_n S → ((yh_V T E o' = none ∧ zq_i S1 tr 0 = 0) ∨ ∃ q es, yh_V T E o' = some (q, es) ∧ yt_tr S1 tr 0 0 es ∧ yv es ∧ w = q ∧ (0 ≤ q ∧ q ≤ 1000)) → zq_Ex X 120 2 [.ref 7, zq_vi ((o' + 1 : Nat) : Int), .ref (ysl u o')] [] (zq_si S1 19 (o' : Int) w) (zq_rv K) := fun S1 w c1 c2 c3 hv => by
        have i19 : ∀ b, b ≠ 19 → zq_i (zq_si S1 19 (o' : Int) w) b = zq_i S1 b := fun b hb' => by
          funext j
          rw [zq_i_si, if_neg (fun z => hb' z.1)]
        refine ys_120_2 hk hb hC hL hE hD k m (o' + 1) _ _ rfl (by omega) (by omega) ⟨fun b n1 n2 => ?_, fun b n1 => (c2 b n1).trans (fr.2.1 b n1), c3.trans fr.2.2⟩ (fun o2 p1 p9 => ?_)
        · have hA : b ∉ yc_A 8 tr := fun z => by
            have := n2 o' tr o1 o9 t1
            simp at z n1 this
            omega
          have a := c1 b hA
          have a' := fr.1 b n1 n2
          refine ⟨?_, a.2.trans a'.2⟩
          rw [i19 b (fun z => n1 (by rw [z]; simp)), a.1, a'.1]
        · by_cases e : o2 = o'
          · subst e
            refine fun _ => ⟨tr, ?_, ?_⟩
            · show zq_r S1 (ysl u o2) 4 = some tr
              rw [c2 _ (by omega)]
              exact t1S
            · rcases hv with ⟨v1, v2⟩ | ⟨q, es, v1, v2, v3, v4, v5⟩
              · rw [v1]
                show zq_i (zq_si S1 19 (o2 : Int) w) tr 0 = 0
                rw [i19 tr (by omega)]
                exact v2
              · rw [v1]
                refine ⟨v2.cong (fun q' hq' => i19 q' (by have := yk_t7 hq'; omega)) rfl, v3, ?_, v5⟩
                rw [zq_i_si, if_pos ⟨rfl, rfl⟩]
                exact v4
          · have q1 : 1 ≤ o2 := p1
            have q9 : o2 ≤ 9 := by omega
            refine (hV o2 p1 (by omega)).cong ?_ (fun tr2 z => ?_) ?_
            · show zq_r S1 (ysl u o2) 4 = zq_r S (ysl u o2) 4
              rw [c2 _ (by have := yk_sl f2 q1 q9; omega)]
            · obtain ⟨tr3, y1, y2, y3⟩ := hD o2 q1 q9
              rw [rS o2 q1 q9] at z
              have htt : tr3 = tr2 := Option.some.inj (y1.symm.trans z)
              subst htt
              have hne : tr3 ≠ tr := fun z => t3 o2 q1 q9 e (by rw [← z]; exact y1)
              have hd := yk_trees y2.1 t2.1 hne
              have b3' := yk_tree y2.1 y2.2
              have nA : ∀ q' ∈ yc_t7 tr3, q' ∉ yc_A 8 tr := fun q' hq' z => by
                have h1 := hd q' hq'
                have h2 := yk_t7 hq'
                simp at z h1
                omega
              refine ⟨fun q' hq' => ?_, ?_⟩
              · rw [i19 q' (by have := yk_t7 hq'; omega)]
                exact (c1 q' (nA q' hq')).1
              · exact (c1 (tr3 + 5) (nA _ (by simp))).2
            · rw [zq_i_si, if_neg (fun z => e (by have := z.2; omega)), (c1 19 (by simp; omega)).1]
      have clr : ∀ S1 : zq_S, (∀ b, b ∉ yc_A 8 tr → zq_i S1 b = zq_i S b ∧ zq_l S1 b = zq_l S b) → (∀ b, b ≠ 8 → zq_r S1 b = zq_r S b) → zq_n S1 = zq_n S → yh_V T E o' = none → ∃ b_14 : Nat, zq_r S1 (ysl u o') 4 = some b_14 ∧ (zq_Ex X 45 0 [(.ref (b_14))] [] S1 (zq_rv fun s_16 => (((0 : Int) ≤ (o' : Int) ∧ (o' : Int) < (10 : Int)) ∧ zq_Ex X 120 2 [(.ref (7)), (zq_vi ((o' + 1 : Nat) : Int)), (.ref (ysl u o'))] [] (zq_si s_16 (19) (o' : Int) (zq_i s_16 (8) (5))) (zq_rv K)))) := fun S1 c1 c2 c3 hv => by
        refine ⟨tr, by rw [c2 _ (by omega)]; exact t1S, zw_45 t2.1 ⟨⟨by omega, by omega⟩, ?_⟩⟩
        refine next _ _ (fun b hb' => ⟨?_, (c1 b hb').2⟩) c2 c3 (Or.inl ⟨hv, zq_i_at _ _ _ _⟩)
        rw [← (c1 b hb').1]
        funext j
        rw [zq_i_si, if_neg (fun z => hb' (by rw [z.1]; simp))]
      have hg : zq_i S (ysl u o') 3 = g := by rw [(hLS o' o1 o9).2.1]; exact b3
      have hp : zq_i S 18 o' = p := (hLS o' o1 o9).2.2 p g hu
      refine ys_121 hkS o1 o9 hp hg b1 b2 ?_
      cases hh : yh_hd T o' p g with
      | false =>
        rw [if_pos (show yb false = 0 from rfl)]
        exact clr S (fun _ _ => ⟨rfl, rfl⟩) (fun _ _ => rfl) rfl (by rw [hVV]; unfold yh_v; rw [if_neg (by rw [hh]; decide)])
      | true =>
        rw [if_neg (show ¬ yb true = 0 by decide), hp]
        have hlt := yh_hd_lt hb hh
        obtain ⟨r, hr⟩ := yr_read_some hTT hC (p := p + 8) (by omega) (by omega)
        have hv0 : yh_V T E o' = (match yr_read T (p + 8) with
          | some (.inl S') => some (S'.1, S'.2.1)
          | _ => none) := by
          rw [hVV]
          unfold yh_v
          rw [if_pos hh]
        refine ⟨F, r6, ⟨by omega, by omega⟩, tr, t1S, ys_44 o8 oF t2.1 hok (by rw [hT]; exact hC) (by omega) (by omega) (r := r) (by rw [hT]; exact hr) (fun S2 w e1 e2 g2 => ?_) (fun S2 R1 os e1 hcr hok2 hst g2 => ?_)⟩
        · rw [if_pos rfl]
          refine clr S2 g2.1 g2.2.1 g2.2.2.1 ?_
          rw [hv0, hr, e1]
        · rw [if_neg (by decide)]
          rw [hr, e1] at hv0
          have hv0 : yh_V T E o' = some (R1.1, R1.2.1) := hv0
          rw [e1] at hr
          have hyv := yv_read hTT hC (p := p + 8) (by omega) (by omega) hr hok2
          obtain ⟨_, _, _, _, e5', _, _, e5, e6, _⟩ := hcr
          have htr : yt_tr S2 tr 0 0 R1.2.1 := by
            have hm := hyv.2.2.1
            exact ⟨by rw [ye_nl_len]; omega, e6, by decide, by omega⟩
          refine ⟨⟨by omega, by omega⟩, next S2 _ g2.1 g2.2.1 g2.2.2.1 (Or.inr ⟨R1.1, R1.2.1, hv0, htr, hyv, e5', hok2.1⟩)⟩
set_option maxRecDepth 100000 in
theorem ys_120 {S0 : zq_S} {F u : Nat} {T : Int → Int} {E : yLt} (hk : ylk S0 F u T) (hb : yTb T) (hC : yp_C T) (hL : yCv S0 u E) (hE : yLb E) (hD : yD S0 u) {K : zq_S → Prop} (k : ∀ S', yhV u S0 S' → (∀ o : Nat, 1 ≤ o → o ≤ 9 → yVo S' u T E o) → K S') : zq_Ex X 120 0 [.ref 7, zz_no, zz_no] [] S0 (zq_rv K) := zw_120 (ys_120_2 hk hb hC hL hE hD k 9 1 S0 _ rfl rfl (by decide) (yhV.refl _ _) (fun o' p1 p9 => by omega))
end YLH2
