/-! save: the reference's first loop -/
set_option maxRecDepth 100000 in
theorem yz_us {s : zq_S} {ev : Nat → List ye_E} : ∀ (f m : Nat) (cur : Option Nat) (d : ye_N) (r : Option Nat), (∀ n, cur = some n → n ≤ 9 ∧ (n ≠ 0 → zq_i s 237 n ≠ 0)) → yz s ev f m cur d = some r → ∀ n, r = some n → n ≤ 9 ∧ (n ≠ 0 → zq_i s 237 n ≠ 0)
  | 0, m, cur, d, r, hc, h => by cases h
  | f + 1, m, cur, d, r, hc, h => by
    unfold yz at h
    by_cases h8 : d.1 = 8
    · rw [if_pos h8] at h
      by_cases h0 : yz_to s d = 0
      · rw [if_pos h0] at h
        intro n hn
        rw [hn] at h
        have : 0 = n := Option.some.inj (Option.some.inj h)
        exact ⟨by omega, fun z => absurd this.symm z⟩
      · rw [if_neg h0] at h
        by_cases hb : m.testBit (yz_to s d) = true
        · rw [if_pos hb] at h; cases h
        · rw [if_neg hb] at h
          refine yz_us f _ _ _ r (fun n hn => ?_) h
          have hn : yz_to s d = n := Option.some.inj hn
          have hme : ym_me s d.2.1 d.2.2.1 = true := by
            cases z : ym_me s d.2.1 d.2.2.1 with
            | true => rfl
            | false =>
              unfold yz_to at h0
              rw [z] at h0
              exact absurd rfl h0
          have hto : n = d.2.1.toNat := by
            rw [← hn]
            unfold yz_to
            rw [if_pos hme]
          obtain ⟨⟨a1, a2, a3⟩, a4⟩ := ym_me_iff.mp hme
          refine ⟨by omega, fun _ => ?_⟩
          rw [hto, show ((d.2.1.toNat : Nat) : Int) = d.2.1 by omega]
          exact a3
    · rw [if_neg h8] at h
      have h : cur = r := Option.some.inj h
      rw [← h]
      exact hc
set_option maxRecDepth 100000 in
theorem ym_c5 {S : zq_S} (hmI : ym_I S) {o : Nat} (ho : o ≤ 9) {j : Int} (hj : 500 ≤ j) : ym_c S (10 + o) j = 0 := by
  have h500 := hmI.2.2.2.2 o (by omega) (by omega)
  unfold ym_c
  rw [if_neg (by omega), if_neg (by omega), if_neg (by omega), if_neg (by omega), if_neg (by omega), if_neg (by rw [show (10 : Int) + (o : Int) - 10 = o by omega]; omega)]
section YLE2
variable {X : Nat × (Nat → Int32)}
set_option maxRecDepth 100000 in
theorem ys_192 {S : zq_S} {ev : Nat → List ye_E} {K : Int → zq_S → Prop} {o : Nat} (hmI : ym_I S) (hR : yz_R S ev) (o1 : 1 ≤ o) (o9 : o ≤ 9) (hu : zq_i S 237 o ≠ 0) (hv : yv (ev o)) (h7 : zq_i S 242 o ≠ 0 → (∃ d es, ev o = .inl d :: es ∧ d.1 = 7) ∧ 0 ≤ zq_i S 243 o) (hnm : ym_nm S 256 yNL) (k0 : ylok S ev o → ∀ S', ymf [47, 48] [254] S S' → K 0 S') (k1 : ¬ ylok S ev o → ∀ S', ymf [47, 48] [254] S S' → K 1 S') : zq_Ex X 192 0 [.ref 232, zq_vi (o : Int), zz_no, zz_no] [] S (zq_rp zq_bo K) := by
  have hq : ym_q (10 + (o : Int)) := ⟨by omega, by omega, Or.inr (by omega)⟩
  have hT6 : yp_T6 (ym_c S (10 + o)) := fun j hj => ym_c5 hmI o9 (by omega)
  refine zw_192 ⟨by omega, by omega⟩ ⟨⟨by omega, by omega⟩, yl_if (fun hz => k0 (Or.inl hz) S (ymf.refl _ _ _)) (fun hz => ?_)⟩
  obtain ⟨⟨d, es, he, hd7⟩, h243⟩ := h7 hz
  obtain ⟨d0, es0, he0, b1, b2, hat⟩ := hR.2 o o9 (fun _ => hu)
  rw [he] at he0
  obtain ⟨a1, a2⟩ := List.cons.inj he0
  have a1 : d = d0 := Sum.inl.inj a1
  subst a1
  subst a2
  rw [he] at hv
  obtain ⟨_, hwf, hmany, hdm, hkd⟩ := id hv
  obtain ⟨w1, w2, w3⟩ := id hwf
  have hl40 : es.length ≤ 40 := by
    have := ye_wf_len hwf
    simp only [List.length_nil, List.length_cons] at this
    have e : yr_many (.inl d :: es) = yr_many es + 1 := rfl
    omega
  have hn : ye_nest d = true := decide_eq_true (Or.inr hd7)
  have w4 : ye_wf (d.1 :: []) es := by rw [if_pos hn] at w3; exact w3
  have lk : ylok S ev o ↔ yz_len S ev es = zq_i S 243 o := by
    unfold ylok
    rw [he]
    exact ⟨fun z => z.elim (fun y => absurd y hz) id, Or.inr⟩
  refine ys_175 (nm := yNL) (st := []) hmI hq hT6 (by decide) hnm (by decide) w1 hd7 hat w4 hl40 (fun hf => ?_) (fun d' es' p hf hnd hp hwf' hlen' => ?_)
  · rw [if_pos (by decide)]
    refine k1 (fun z => ?_) S (ymf.refl _ _ _)
    have z := lk.mp z
    unfold yz_len at z
    rw [hf] at z
    have z : (-1 : Int) = zq_i S 243 o := z
    omega
  · rw [if_neg (by omega)]
    obtain ⟨v1, v2, v3⟩ := hwf'
    have hat' : ye_at (ym_c S (10 + o)) p (ye_op d' ++ (ye_pr (ye_nest d') es' ++ [0])) := by
      have := (ye_at_app.mp hnd).2
      rw [show p - ((ye_ky d').length : Int) + ((ye_ky d').length : Int) = p by omega] at this
      exact this
    have hp5 : p < 500 := by
      obtain ⟨c, l, o1, _, _, _, _, _, o7, _⟩ := ye_op_hd v1
      rw [o1] at hat'
      have t0 := ye_at_hd hat'
      have : ¬ 500 ≤ p := fun z => o7 (by rw [← t0]; exact ym_c5 hmI o9 z)
      omega
    have hyl : ∀ r, yz S ev 10 0 none d' = r → yz_len S ev es = match r with
        | none => -1
        | some r => if (yz_end ev d' r).1 = 3 then (yz_end ev d' r).2.1 else -1 := fun r hr => by
      unfold yz_len
      rw [hf]
      show (match yz S ev 10 0 none d' with
        | none => -1
        | some r => if (yz_end ev d' r).1 = 3 then (yz_end ev d' r).2.1 else -1) = _
      rw [hr]
    refine ys_193g hmI hR o9 (by omega) (by omega) (by omega) v1 v3.oks hat' (fun hy S' f h47 => ?_) (fun r S' o' hy f h47 hrp => ?_)
    · rw [h47, if_pos (by decide)]
      refine k1 (fun z => ?_) S' f
      have z := lk.mp z
      rw [hyl _ hy] at z
      have z : (-1 : Int) = zq_i S 243 o := z
      omega
    · have hmS : ym_I S' := hmI.cong (fun j hj => f.f (by simp at hj ⊢; omega)) (f.i (by simp) (by decide))
      have hTS : ∀ n : Nat, ym_c S' (10 + n) = ym_c S (10 + n) := fun n => ym_c_o (f.i (by simp) (by decide)) (f.i (by simp) (by decide))
      have hyl := hyl _ hy
      -- the node where it ended
      have node : ∃ es2, o' ≤ 9 ∧ (0 ≤ zq_i S' 232 48 ∧ zq_i S' 232 48 < 500) ∧ ye_ok (yz_end ev d' r) ∧ ye_oks es2 ∧ ye_at (ym_c S (10 + o')) (zq_i S' 232 48) (ye_op (yz_end ev d' r) ++ (ye_pr (ye_nest (yz_end ev d' r)) es2 ++ [0])) := by
        cases r with
        | none =>
          obtain ⟨q1, q2⟩ := hrp
          subst q1
          rw [q2]
          exact ⟨es', o9, ⟨by omega, hp5⟩, v1, v3.oks, hat'⟩
        | some n =>
          obtain ⟨q1, q2, q3⟩ := hrp
          subst q1
          rw [q3]
          obtain ⟨u1, u2⟩ := yz_us 10 0 none d' (some o') (fun _ z => by cases z) hy o' rfl
          obtain ⟨d2, es2, x1, x2, x3, x4⟩ := hR.2 o' u1 u2
          refine ⟨es2, u1, ⟨by decide, by decide⟩, ?_⟩
          have : yz_end ev d' (some o') = d2 := by
            show yz_hd (ev o') = d2
            rw [x1]
            rfl
          rw [this]
          exact ⟨x2, x3, x4⟩
      obtain ⟨es2, n1, ⟨n2, n3⟩, n4, n5, n6⟩ := node
      have hq' : ym_q (10 + (o' : Int)) := ⟨by omega, by omega, Or.inr (by omega)⟩
      rw [h47, if_neg (by omega)]
      refine ys_159 hmS hq' (by omega) (by omega) ?_
      rw [hTS, ye_kind n2 n4 n5 n6]
      refine yl_if (fun h3 => ?_) (fun h3 => ?_)
      · rw [h47]
        refine ys_161 hmS hq' (by omega) (by omega) ?_
        have hk := ye_kind n2 n4 n5 n6
        have he := yr_end_at n4 n5 n6
        unfold yr_end at he
        rw [h3, if_neg (by decide), if_neg (by decide), if_neg (by decide), if_neg (by decide), if_neg (by decide)] at he
        have eo : ye_op (yz_end ev d' r) = ye_num (yz_end ev d' r).2.1 := by unfold ye_op; rw [if_neg (by omega), if_neg (by omega), if_neg (by omega), if_pos h3]
        rw [eo] at n6 he
        have hl7 := ye_num_len (yz_end ev d' r).2.1
        have hI3 : yp_isI (ym_c S (10 + o')) (zq_i S' 232 48) (yp_wd (ym_c S (10 + o')) (zq_i S' 232 48)) = true := by
          rcases yr_kind hk (by omega) with ⟨z, _⟩ | ⟨z, _⟩ | ⟨z, _⟩ | ⟨z, _⟩ | ⟨z, _⟩ | ⟨z, _⟩ | ⟨z, _⟩ | ⟨z, _⟩ | ⟨_, z⟩
          · omega
          · omega
          · omega
          · omega
          · omega
          · omega
          · omega
          · omega
          · exact z
        rw [hTS, h47]
        refine ys_167 hmS hq' (by omega) (by omega) (by omega) (by rw [hTS]; exact hI3) ?_
        rw [hTS, he, ye_num_val (n4.k3 h3) n6, f.i (b := 243) (by simp) (by decide)]
        have hyl : yz_len S ev es = (yz_end ev d' r).2.1 := by
          rw [hyl]
          show (if (yz_end ev d' r).1 = 3 then (yz_end ev d' r).2.1 else -1) = _
          rw [if_pos h3]
        refine ⟨⟨by omega, by omega⟩, yl_if (fun e => k0 (lk.mpr (by rw [hyl]; exact e)) S' f) (fun e => k1 (fun z => e (by rw [← hyl]; exact lk.mp z)) S' f)⟩
      · refine k1 (fun z => ?_) S' f
        have z := lk.mp z
        rw [hyl] at z
        have z : (if (yz_end ev d' r).1 = 3 then (yz_end ev d' r).2.1 else -1) = zq_i S 243 o := z
        rw [if_neg h3] at z
        omega
end YLE2
