/-! load: the class's load -/
set_option maxRecDepth 100000 in
theorem yhGa_tree {s : zq_S} {u a : Nat} (f2 : u = 27 ∨ u = 126) (hD : yD s u) (ha : zq_o 4 a) (h29 : 29 ≤ a) (hne : ∀ o : Nat, 1 ≤ o → o ≤ 9 → zq_r s (ysl u o) 4 ≠ some a) : ∀ q ∈ yc_t7 a, ¬ yhGa s u q := fun q hq hg => by
  have hb := yk_t7 hq
  obtain ⟨k1, k2, k3, k4⟩ := yk_tcells ha hq
  rcases hg with z | z | ⟨o, o1, o9, z⟩
  · omega
  · exact k1 (by rw [z]; exact yk_t8 f2)
  · obtain ⟨c1, c2, c3, c4, c5, c6, c7, c8, c9⟩ := yk_sl f2 o1 o9
    have n8 := yk_tt c3 ha
    rcases z with z | z | z | ⟨tr, z1, z2⟩
    · exact k2 (by rw [z]; exact c1)
    · exact n8.1 (by rw [← z]; exact hq)
    · exact n8.2 (by rw [show ysl u o + 8 + 1 = ysl u o + 9 by omega, ← z]; exact hq)
    · obtain ⟨tr', a1, a2, _⟩ := hD o o1 o9
      have htt : tr' = tr := Option.some.inj (a1.symm.trans z1)
      subst htt
      exact yk_trees ha a2.1 (fun z => hne o o1 o9 (by rw [z]; exact z1)) q hq z2
set_option maxRecDepth 100000 in
/-- the tree of nothing -/
theorem yk_noth {s : zq_S} {u : Nat} (f2 : u = 27 ∨ u = 126) (hD : yD s u) : zq_o 4 (u + 2) ∧ 29 ≤ u + 2 ∧ ∀ o : Nat, 1 ≤ o → o ≤ 9 → zq_r s (ysl u o) 4 ≠ some (u + 2) := by
  refine ⟨by rcases f2 with z | z <;> (subst z; decide +kernel), by omega, fun o o1 o9 z => ?_⟩
  obtain ⟨tr', a1, a2, _⟩ := hD o o1 o9
  have htt : tr' = u + 2 := Option.some.inj (a1.symm.trans z)
  omega
set_option maxRecDepth 100000 in
theorem yhG.D {u : Nat} {s S : zq_S} (f2 : u = 27 ∨ u = 126) (g : yhG u s S) (h : yD s u) : yD S u := fun o o1 o9 => by
  have e : ∀ o : Nat, 1 ≤ o → o ≤ 9 → zq_r S (ysl u o) = zq_r s (ysl u o) := fun o o1 o9 => g.2.1 _ (by have := yk_sl f2 o1 o9; omega)
  obtain ⟨tr, a1, a2, a3⟩ := h o o1 o9
  refine ⟨tr, by rw [e o o1 o9]; exact a1, a2, fun o' p1 p9 hne => ?_⟩
  rw [e o' p1 p9]
  exact a3 o' p1 p9 hne
/-- what the class has loaded -/
def yhK (S : zq_S) (u : Nat) (T : Int → Int) (E : yLt) (r g : Int) : Prop := zq_i S u 2 = r ∧ zq_i S u 3 = g ∧ ((1 ≤ r ∧ r ≤ 9) ∧ (0 ≤ g ∧ g ≤ 9)) ∧ yCv S u E ∧ (∀ o : Nat, 1 ≤ o → o ≤ 9 → yVo S u T E o) ∧ (∀ o : Nat, 1 ≤ o → o ≤ 9 → yhR S u T E o) ∧ (∀ o : Nat, 1 ≤ o → o ≤ 9 → zq_i S (ysl u o) 1 = 0) ∧ (∀ o : Nat, 1 ≤ o → o ≤ 9 → yh_u E o = none → zq_i S (ysl u o) 2 = 0)
section YLI0
variable {X : Nat × (Nat → Int32)}
set_option maxRecDepth 100000 in
theorem ys_89L {S : zq_S} {u : Nat} {E : yLt} (f2 : u = 27 ∨ u = 126) (hL : yCv S u E) {K : Int → zq_S → Prop} (k : K (ypm E 9 : Nat) S) : zq_Ex X 89 0 [.ref u, zz_no, zz_no] [] S (zq_rp zq_iv K) := by
  have loop : ∀ (m i : Nat), i + m = 9 → zq_Ex X 89 4 [.ref u, zq_vi (ypm E i : Nat), zq_vi (i : Int)] [] S (zq_rp zq_iv K) := by
    intro m
    induction m with
    | zero =>
      intro i hi
      have hlt := ypm_lt E i (by omega)
      refine zw_89_4 (yk_t8 f2) ⟨by omega, by omega⟩ ⟨by omega, by omega⟩ ?_
      rw [if_neg (by omega), show i = 9 by omega]
      exact k
    | succ m ih =>
      intro i hi
      have hlt := ypm_lt E i (by omega)
      have esl : u + 1 + 8 + 10 * ((i : Int)).toNat = ysl u (i + 1) := by unfold ysl; omega
      refine zw_89_4 (yk_t8 f2) ⟨by omega, by omega⟩ ⟨by omega, by omega⟩ ?_
      rw [if_pos (by omega), esl, (hL (i + 1) (by omega) (by omega)).1, show (i : Int) + 1 = ((i + 1 : Nat) : Int) by omega]
      refine ⟨⟨by omega, by omega⟩, ?_⟩
      have ep : ypm E (i + 1) = ypm E i ||| (if yh_u E (i + 1) = none then 0 else 2 ^ (i + 1)) := rfl
      have hrec := ih (i + 1) (by omega)
      rw [ep] at hrec
      by_cases hu : yh_u E (i + 1) = none
      · rw [if_pos (by rw [if_pos hu]), ybit_or0 _ hlt]
        rw [if_pos hu, Nat.or_zero] at hrec
        exact hrec
      · rw [if_neg (by rw [if_neg hu]; decide), ybit_shl2 i (by omega), (ybit_or2 hlt (ybit_shl (i + 1) (by omega)).2).1]
        rw [if_neg hu] at hrec
        exact hrec
  exact zw_89 (yk_t8 f2) (loop 9 0 rfl)
set_option maxRecDepth 100000 in
theorem ys_106 {s : zq_S} {F t u : Nat} {T : Int → Int} {n : Int} (f1 : F = 23 ∨ F = 25) (ft : t = 27 ∨ t = 126) (hut : u = 153 - t) (r6 : zq_r s 0 6 = some F) (r8 : zq_r s 0 8 = some t) (r9 : zq_r s 0 9 = some u) (htre : yI_tre s) (hok : yc_ok s F) (hT : yc_t s F = T) (hn1 : zq_i s F 1 = n) (hb : yTb T) (hC : yp_C T) (hns : zq_n s < 1000) {K : Int → zq_S → Prop} {Tx : Nat → zq_S → Prop}
    (kf : ∀ c q S', yh_load T n = .inl (c, q) → yhG u s S' → Tx 10 (zq_sx (zq_si (zq_si S' 0 12 c) 0 11 q) 10))
    (kk : ∀ E r g S', yh_load T n = .inr (E, r, g) → yhG u s S' → yhK S' u T E r g → K (ybc (ypm E 9) : Nat) (zq_sr (zq_si (zq_sr (zq_sr S' 0 8 (some u)) 0 9 (some t)) 0 11 (-1)) 3 0 none)) : zq_Ex X 106 0 [.ref 0, zz_no, zz_no] [] s (zq_rx (zq_rp zq_iv K) Tx) := by
  have f2 : u = 27 ∨ u = 126 := by omega
  have hD := htre.D f2
  obtain ⟨ho2, h29, hno⟩ := yk_noth f2 hD
  have hN : yt_tr s (u + 2) 0 0 [.inl ye_null] := by
    rcases f2 with z | z
    · subst z; exact htre.2.1
    · subst z; exact htre.2.2
  have elo : ∀ v, yh_tabs T n = v → yh_load T n = (match v with
    | .inl x => .inl x
    | .inr (E, rg) => (match yh_all T E 9 1 with
      | some x => .inl x
      | none => .inr (E, rg))) := fun v hv => by unfold yh_load; rw [hv]; rfl
  have ovr : ∀ S' : zq_S, yhG u s S' → zq_n S' < 1000 := fun S' g => by rw [g.2.2]; exact hns
  refine zw_106 ⟨F, r6, u, r9, ys_107 f1 f2 hok hT hn1 hb hC (fun c q S1 e g1 c1 c2 => ?_) (fun E r g S1 e g1 hk1 hL1 hr hg hrb h12 => ?_)⟩
  · rw [if_pos rfl, if_pos rfl, c1, c2]
    exact ⟨ovr S1 g1, kf c q S1 (elo _ e) g1⟩
  · rw [if_neg (by decide)]
    have hE := yh_tabs_b e
    have el := elo _ e
    have el : yh_load T n = (match yh_all T E 9 1 with
      | some x => .inl x
      | none => .inr (E, r, g)) := el
    have hD1 := g1.D f2 hD
    refine ys_120 hk1 hb hC hL1.cv hE hD1 (fun S2 g2 hV => ?_)
    have g12 := yhG.trans f2 g1 g2.hG
    have hD2 := g12.D f2 hD
    have sl2 : ∀ o : Nat, 1 ≤ o → o ≤ 9 → zq_i S2 (ysl u o) = zq_i S1 (ysl u o) := fun o o1 o9 => (g2.keep hD1 (by have := yk_sl f2 o1 o9; simp; omega) (Or.inr (Or.inl (yk_sl f2 o1 o9).1))).1
    have hL2 : yCv S2 u E := hL1.cv.cong (fun o o1 o9 j _ => by rw [sl2 o o1 o9]) (g2.keep hD1 (by decide) (Or.inl (by decide))).1
    have hN2 : yt_tr S2 (u + 2) 0 0 [.inl ye_null] := by
      have ng := yhGa_tree f2 hD ho2 h29 hno
      exact hN.cong (fun q hq => (g12.1 q (ng q hq)).1) (g12.1 _ (ng _ (by simp))).2
    refine ys_122 (hk1.V hD1 g2) hb hC hL2 hE hD2 hV hN2 (fun o o1 o9 => by rw [sl2 o o1 o9]; exact (h12 o o1 o9).2) (fun c q S3 ea g3 c1 c2 => ?_) (fun S3 ea g3 hR hn2 => ?_)
    · rw [if_pos rfl, c1, c2]
      rw [ea] at el
      have g13 := yhG.trans f2 g12 g3.hG
      exact ⟨ovr S3 g13, kf c q S3 el g13⟩
    · rw [if_neg (by decide)]
      rw [ea] at el
      have g13 := yhG.trans f2 g12 g3.hG
      have i3 : ∀ j : Int, zq_i S3 u j = zq_i S1 u j := fun j => by
        rw [g3.1 u j (by omega) (fun z => by omega) (fun o o1 o9 => ⟨by have := yk_sl f2 o1 o9; unfold ysl; omega, by have := yk_sl f2 o1 o9; unfold ysl; omega, fun z => by have := yk_sl f2 o1 o9; omega⟩), (g2.keep hD1 (b := u) (by simp; omega) (Or.inr (Or.inr (Or.inr (Or.inl (yk_t8 f2)))))).1]
      have hL3 : yCv S3 u E := g3.cv f2 hL2
      have hK : yhK S3 u T E r g := ⟨by rw [i3]; exact hr, by rw [i3]; exact hg, hrb, hL3, fun o o1 o9 => g3.V f2 hD2 o1 o9 (hV o o1 o9), hR, fun o o1 o9 => by
        have hs := yk_sl f2 o1 o9
        rw [g3.1 (ysl u o) 1 (by omega) (fun z => by omega) (fun o' p1 p9 => ⟨by unfold ysl; omega, by unfold ysl; omega, fun _ => by decide⟩), sl2 o o1 o9]
        exact (h12 o o1 o9).1, hn2⟩
      have r3 : zq_r S3 0 = zq_r s 0 := g13.2.1 0 (by omega)
      have o3 : zq_o 2 3 := by decide +kernel
      refine ⟨t, by rw [r3]; exact r8, u, by rw [r3]; exact r9, zw_71 o3 ⟨u, ?_, ys_89L f2 ?_ (ys_37 (ypm_lt E 9 (by decide)) (kk E r g S3 el g13 hK))⟩⟩
      · rw [zq_r_sr, if_neg (by simp), zq_r_si, zq_r_sr, if_neg (by simp), zq_r_sr, if_pos ⟨rfl, rfl⟩]
      · have e0 : ∀ b, b ≠ 0 → zq_i (zq_sr (zq_si (zq_sr (zq_sr S3 0 8 (some u)) 0 9 (some t)) 0 11 (-1)) 3 0 none) b = zq_i S3 b := fun b hb' => by
          funext j
          rw [zq_i_sr, zq_i_si, if_neg (fun z => hb' z.1), zq_i_sr, zq_i_sr]
        exact hL3.cong (fun o o1 o9 j _ => by rw [e0 _ (by have := yk_sl f2 o1 o9; omega)]) (e0 18 (by decide))
end YLI0
