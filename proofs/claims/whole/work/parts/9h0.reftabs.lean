/-! load: the reference's chain of tables -/
abbrev yJl : List Int := [5, 23, 25, 26, 27, 28, 29, 32, 33, 39, 41, 42, 43, 44]
abbrev yAl : List Nat := [235, 245, 246, 247, 248, 249, 250, 251, 252, 253, 254]
set_option maxRecDepth 100000 in
theorem ym_nm.fr {J : List Int} {A : List Nat} {s s' : zq_S} {a : Nat} {nm : List Int} (h : ym_nm s a nm) (f : ymf J A s s') (hA : a ∉ A) (h2 : a ≠ 232) : ym_nm s' a nm := by
  unfold ym_nm
  rw [f.i hA h2]
  exact h
set_option maxRecDepth 100000 in
theorem ysm.snoc {S : zq_S} {M : List Int} (h : ysm S M) {p : Int} : ysm (zq_si (zq_si S 253 (M.length : Int) p) 232 39 ((M.length : Int) + 1)) (p :: M) := by
  refine ⟨?_, fun i hi => ?_⟩
  · rw [zq_i_si, if_pos ⟨rfl, rfl⟩]
    simp
  · rw [zq_i_si, if_neg (by simp), zq_i_si, List.reverse_cons]
    simp only [List.length_cons] at hi
    by_cases e : i = M.length
    · rw [if_pos ⟨rfl, by omega⟩, e]
      simp [List.getD_eq_getElem?_getD]
    · rw [if_neg (fun z => e (by have := z.2; omega)), h.2 i (by omega)]
      simp [List.getD_eq_getElem?_getD, List.getElem?_append_left (show i < M.reverse.length by rw [List.length_reverse]; omega)]
section YLH0
variable {X : Nat × (Nat → Int32)}
set_option maxRecDepth 100000 in
theorem ys_206 {S : zq_S} {c p : Int} (hc : zq_iv c) (hp : zq_iv p) (h44 : zq_i S 232 44 = 0) {K : Int → zq_S → Prop} (k : ∀ S', ymf [43, 44] [] S S' → zq_i S' 232 44 = c → zq_i S' 232 43 = p → K 0 S') : zq_Ex X 206 0 [(.ref (232)), (zq_vi c), (zq_vi p)] [] S (zq_rp zq_bo K) := by
  refine zw_206 hc hp ?_
  rw [if_pos h44]
  refine k _ ((ymf.sf (by simp)).trans (ymf.sf (by simp))) ?_ ?_
  · rw [zq_i_si, if_neg (by simp), zq_i_si, if_pos ⟨rfl, rfl⟩]
  · rw [zq_i_si, if_pos ⟨rfl, rfl⟩]
set_option maxRecDepth 100000 in
theorem ys_204_7 {S0 : zq_S} {T : Int → Int} {n : Int} (hb : yTb T) (hC : yp_C T) (hT : ym_c S0 1 = T) (hn : zq_i S0 232 3 = n) (hn9 : n ≤ 999) (n7 : ym_nm S0 257 yNR) (n8 : ym_nm S0 258 yNP) {x1 : Int} (i1 : zq_iv x1) {K : Int → zq_S → Prop} : ∀ (f : Nat) (p : Int) (M : List Int) (E : yLt) (ro : Option (Int × Int)) (S : zq_S) (v3 : Value), v3.category = 1 → f + M.length = 999 → ysq T M → -1000000 < p → p < 1000000 → ymf yJl yAl S0 S → ym_I S → yLr S E → ysm S M → zq_i S 232 44 = 0 → (ro = none ↔ M = []) → (∀ r g, ro = some (r, g) → zq_i S 232 41 = r ∧ zq_i S 232 42 = g) →
    (∀ q S', yl_ch T n f p M E ro = .inl q → ymf yJl yAl S0 S' → ym_I S' → zq_i S' 232 44 = 2 → zq_i S' 232 43 = q → K 0 S') →
    (∀ E' r g S', yl_ch T n f p M E ro = .inr (E', r, g) → ymf yJl yAl S0 S' → ym_I S' → yLr S' E' → zq_i S' 232 44 = 0 → zq_i S' 232 41 = r → zq_i S' 232 42 = g → K 1 S') →
    zq_Ex X 204 7 [.ref 232, zq_vi x1, zq_vi p, v3] [] S (zq_rp zq_bo K)
  | 0, p, M, E, ro, S, v3, _, hf, hM, _, _, _, _, _, _, _, _, _, _, _ => by
    have := hM.len hb
    omega
  | f + 1, p, M, E, ro, S, v3, h3, hf, hM, p0, p1, fr, hm, hL, hsm, h44, hro, hrg, k0, k1 => by
    have hl := hM.len hb
    have e3 : zq_i S 232 3 = n := by rw [fr.f (by simp)]; exact hn
    have hTS : ym_c S 1 = T := by rw [fr.c1 (by simp) (by simp)]; exact hT
    have bad : ∀ S' : zq_S, yl_ch T n (f + 1) p M E ro = .inl p → ymf yJl yAl S0 S' → ym_I S' → zq_i S' 232 44 = 0 → zq_Ex X 206 0 [(.ref (232)), (zq_vi (2)), (zq_vi p)] [] S' (zq_rp zq_bo fun x s => K x s) := fun S' e g hm' h4 => by
      refine ys_206 ⟨by decide, by decide⟩ ⟨by omega, by omega⟩ h4 (fun S2 g2 c1 c2 => ?_)
      exact k0 p S2 e (g.trans (g2.mono (by simp) (by simp))) (hm'.cong (fun j hj => g2.f (by simp at hj ⊢; omega)) (g2.i (by simp) (by decide))) c1 c2
    have e0 : yl_ch T n (f + 1) p M E ro = if p < 0 ∨ n ≤ p ∨ p ∈ M then .inl p else (match yl_tbl T p E with
      | none => .inl p
      | some (E', r, g, pv) => (match pv with
        | none => .inr (E', ro.getD (r, g))
        | some v => yl_ch T n f v (p :: M) E' (some (ro.getD (r, g))))) := rfl
    refine zw_204_7 i1 ⟨by omega, by omega⟩ h3 ?_
    rw [if_neg (by omega)]
    refine yl_if (fun h => bad S (by rw [e0, if_pos (Or.inl h)]) fr hm h44) (fun h => ?_)
    rw [e3]
    refine yl_if (fun h1 => ?_) (fun h1 => bad S (by rw [e0, if_pos (Or.inr (Or.inl (by omega)))]) fr hm h44)
    refine ys_205 hsm (by omega) ⟨by omega, by omega⟩ ?_
    by_cases hmem : p ∈ M
    · rw [decide_eq_true hmem, if_neg (show ¬ yb true = 0 by decide)]
      exact bad S (by rw [e0, if_pos (Or.inr (Or.inr hmem))]) fr hm h44
    · rw [decide_eq_false hmem, if_pos (show yb false = 0 from rfl)]
      rw [if_neg (show ¬ (p < 0 ∨ n ≤ p ∨ p ∈ M) from fun z => z.elim h (fun y => y.elim (fun y => by omega) hmem))] at e0
      have core : ∀ x2 : Int, zq_bo x2 → (x2 = 0 ↔ M ≠ []) → zq_Ex X 207 0 [(.ref (232)), (zq_vi p), (zq_vi x2), zz_no, zz_no, zz_no, zz_no] [] S (zq_rp zq_iv fun x_29 s_28 => (if x_29 = (-2000000) then (zq_Ex X 206 0 [(.ref (232)), (zq_vi (2)), (zq_vi p)] [] s_28 (zq_rp zq_bo fun x_37 s_36 => K (x_37) s_36)) else (((0 : Int) ≤ zq_i s_28 (232) (39) ∧ zq_i s_28 (232) (39) < (200 : Int)) ∧ (zq_iv ((zq_i s_28 (232) (39)) + 1) ∧ zq_Ex X 204 7 [(.ref (232)), (zq_vi (x1)), (zq_vi (x_29)), (zq_vi (x_29))] [] (zq_si (zq_si s_28 (253) (zq_i s_28 (232) (39)) p) (232) (39) ((zq_i s_28 (232) (39)) + 1)) (zq_rp zq_bo K))))) := fun x2 b2 hx2 => by
        refine ys_207 hb hC hm hTS (n7.fr fr (by decide) (by decide)) (n8.fr fr (by decide) (by decide)) hL ⟨by omega, by omega⟩ b2 (fun hn' S' g hm' => ?_) (fun E' ro' S' ht hbo g hm' hL' h0 h1' => ?_)
        · rw [if_pos rfl]
          exact bad S' (by rw [e0, hn']) (fr.trans (g.mono (by simp) (by simp))) hm' (by rw [g.f (by simp)]; exact h44)
        · obtain ⟨r, gg, pv⟩ := ro'
          rw [ht] at e0
          have hpv : yl_pv pv ≠ -2000000 := by
            cases pv with
            | none => decide
            | some v =>
              have := hbo.2.2 v rfl
              show v ≠ -2000000
              omega
          rw [if_neg hpv]
          have h39 : zq_i S' 232 39 = M.length := by rw [g.f (by simp)]; exact hsm.1
          rw [h39]
          refine ⟨⟨by omega, by omega⟩, ⟨by omega, by omega⟩, ?_⟩
          have f2 : ymf [39] [253] S' (zq_si (zq_si S' 253 (M.length : Int) p) 232 39 ((M.length : Int) + 1)) := (ymf.si (by simp) (by decide)).trans (ymf.sf (by simp))
          have hsm' : ysm S' M := by
            refine ⟨h39, fun i hi => ?_⟩
            rw [g.i (by simp) (by decide)]
            exact hsm.2 i hi
          have hsm2 := hsm'.snoc (p := p)
          have frF : ymf yJl yAl S0 (zq_si (zq_si S' 253 (M.length : Int) p) 232 39 ((M.length : Int) + 1)) := fr.trans ((g.mono (by simp) (by simp)).trans (f2.mono (by simp) (by simp)))
          have hm2 : ym_I (zq_si (zq_si S' 253 (M.length : Int) p) 232 39 ((M.length : Int) + 1)) := hm'.cong (fun j hj => f2.f (by simp at hj ⊢; omega)) (f2.i (by simp) (by decide))
          have hL2 : yLr (zq_si (zq_si S' 253 (M.length : Int) p) 232 39 ((M.length : Int) + 1)) E' := hL'.cong (f2.i (by simp) (by decide)) (f2.i (by simp) (by decide)) (f2.i (by simp) (by decide))
          have h44' : zq_i (zq_si (zq_si S' 253 (M.length : Int) p) 232 39 ((M.length : Int) + 1)) 232 44 = 0 := by rw [f2.f (by simp), g.f (by simp)]; exact h44
          have hrg2 : zq_i (zq_si (zq_si S' 253 (M.length : Int) p) 232 39 ((M.length : Int) + 1)) 232 41 = (ro.getD (r, gg)).1 ∧ zq_i (zq_si (zq_si S' 253 (M.length : Int) p) 232 39 ((M.length : Int) + 1)) 232 42 = (ro.getD (r, gg)).2 := by
            rw [f2.f (by simp), f2.f (by simp)]
            cases ro with
            | none =>
              have hM0 := hro.mp rfl
              exact h1' (fun z => hx2.mp z hM0)
            | some q =>
              have hM0 : M ≠ [] := fun z => by cases hro.mpr z
              obtain ⟨z1, z2⟩ := h0 (hx2.mpr hM0)
              rw [z1, z2]
              exact hrg q.1 q.2 rfl
          cases pv with
          | none =>
            have e0 : yl_ch T n (f + 1) p M E ro = .inr (E', ro.getD (r, gg)) := e0
            show zq_Ex X 204 7 [(.ref (232)), (zq_vi (x1)), (zq_vi (-1000001)), (zq_vi (-1000001))] [] _ (zq_rp zq_bo K)
            refine zw_204_7 i1 ⟨by decide, by decide⟩ rfl ?_
            rw [if_pos rfl]
            exact k1 E' (ro.getD (r, gg)).1 (ro.getD (r, gg)).2 _ e0 frF hm2 hL2 h44' hrg2.1 hrg2.2
          | some v =>
            have hv := hbo.2.2 v rfl
            have e0 : yl_ch T n (f + 1) p M E ro = yl_ch T n f v (p :: M) E' (some (ro.getD (r, gg))) := e0
            rw [e0] at k0 k1
            show zq_Ex X 204 7 [(.ref (232)), (zq_vi (x1)), (zq_vi v), (zq_vi v)] [] _ (zq_rp zq_bo K)
            refine ys_204_7 hb hC hT hn hn9 n7 n8 i1 f v (p :: M) E' (some (ro.getD (r, gg))) _ _ rfl (by simp only [List.length_cons]; omega) ⟨List.nodup_cons.mpr ⟨hmem, hM.1⟩, fun q hq => ?_⟩ hv.1 hv.2 frF hm2 hL2 hsm2 h44' ⟨fun z => (by cases z), fun z => (by cases z)⟩ (fun r' g' e => ?_) k0 k1
            · rcases List.mem_cons.mp hq with z | z
              · rw [z]; exact ⟨by omega, yl_tbl_xr ht⟩
              · exact hM.2 q z
            · have e : ro.getD (r, gg) = (r', g') := Option.some.inj e
              rw [e] at hrg2
              exact hrg2
      refine yl_if (fun h39 => ?_) (fun h39 => ?_)
      · refine core 1 (Or.inr rfl) ⟨fun z => (by cases z), fun z => ?_⟩
        exfalso
        have := hsm.1
        cases M with
        | nil => exact z rfl
        | cons a l => simp at this; omega
      · refine core 0 (Or.inl rfl) ⟨fun _ z => ?_, fun _ => rfl⟩
        rw [hsm.1, z] at h39
        exact h39 rfl
set_option maxRecDepth 100000 in
theorem ys_204 {S0 : zq_S} {T : Int → Int} {n : Int} (hb : yTb T) (hC : yp_C T) (hT : ym_c S0 1 = T) (hn : zq_i S0 232 3 = n) (hn9 : n ≤ 999) (n7 : ym_nm S0 257 yNR) (n8 : ym_nm S0 258 yNP) {p : Int} (p0 : -1000000 < p) (p1 : p < 1000000) (hm : ym_I S0) (hL : yLr S0 fun _ => none) (h44 : zq_i S0 232 44 = 0) {K : Int → zq_S → Prop}
    (k0 : ∀ q S', yl_ch T n 999 p [] (fun _ => none) none = .inl q → ymf yJl yAl S0 S' → ym_I S' → zq_i S' 232 44 = 2 → zq_i S' 232 43 = q → K 0 S')
    (k1 : ∀ E' r g S', yl_ch T n 999 p [] (fun _ => none) none = .inr (E', r, g) → ymf yJl yAl S0 S' → ym_I S' → yLr S' E' → zq_i S' 232 44 = 0 → zq_i S' 232 41 = r → zq_i S' 232 42 = g → K 1 S') : zq_Ex X 204 0 [.ref 232, zq_vi p, zz_no, zz_no] [] S0 (zq_rp zq_bo K) := by
  have f2 : ymf [39] [] S0 (zq_si S0 232 39 0) := ymf.sf (by simp)
  refine zw_204 ⟨by omega, by omega⟩ (ys_204_7 hb hC hT hn hn9 n7 n8 ⟨by omega, by omega⟩ 999 p [] (fun _ => none) none _ _ rfl rfl ⟨List.nodup_nil, fun q hq => (by cases hq)⟩ p0 p1 (f2.mono (by simp) (by simp)) (hm.cong (fun j hj => f2.f (by simp at hj ⊢; omega)) (f2.i (by simp) (by decide))) (hL.cong (f2.i (by simp) (by decide)) (f2.i (by simp) (by decide)) (f2.i (by simp) (by decide))) ⟨by rw [zq_i_si, if_pos ⟨rfl, rfl⟩]; rfl, fun i hi => (by cases hi)⟩ (by rw [f2.f (by simp)]; exact h44) ⟨fun _ => rfl, fun _ => rfl⟩ (fun r g e => (by cases e)) k0 k1)
end YLH0
