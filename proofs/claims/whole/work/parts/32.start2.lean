/-! the law's entry, out of the Statement's start -/
abbrev zt_fl : List Cond := flatC (Jvm.Cond.and given_1 narrow_1)
def zt_ip : List (Nat × Nat) := [(1028, 13), (1036, 3), (1060, 3), (1082, 6), (1120, 7), (1110, 11), (1197, 1), (1216, 6), (1207, 4), (5189, 52), (3028, 6), (3122, 6), (3107, 6), (4030, 6), (4214, 6)]
theorem zt_inst1 : (List.range 15).all (fun ci => match zt_cl[ci]?, zt_ip[ci]? with
  | some q, some w => zz_wd zt_big w.1 (.instantiable q.1 w.2)
  | _, _ => false) = true := by decide +kernel
theorem zt_inst : ∀ (ci : Nat) (q : vw_C), zt_cl[ci]? = some q → ∃ n, Cond.instantiable q.1 n ∈ zt_Ts := fun ci q h => by
  have hl : ci < 15 := by
    have := (List.getElem?_eq_some_iff.mp h).1
    have e : zt_cl.length = 15 := rfl
    omega
  have h1 := List.all_eq_true.mp zt_inst1 ci (List.mem_range.mpr hl)
  rw [h] at h1
  split at h1
  · next q' w e1 e2 =>
    cases e1
    exact ⟨_, zz_wd_mem h1⟩
  · cases h1
theorem zt_aty : ∀ ty ∈ ([.int, .char, .boolean, .long] : List FieldType), Cond.arrayClass ty ∈ zt_Ts := by
  have h : zq_in zt_big [.arrayClass .int, .arrayClass .char, .arrayClass .boolean, .arrayClass .long] [1108, 1058, 6115, 1159] = true := by decide +kernel
  have h2 := zq_in_ok h
  intro ty hty
  simp only [List.mem_cons, List.not_mem_nil, or_false] at hty
  rcases hty with rfl | rfl | rfl | rfl <;> exact h2 _ (by simp)
theorem zt_tb {w : Cond} (h : w ∈ zt_big.flatten) : w ∈ lw_tbl := by
  unfold zt_big at h
  unfold lw_tbl tables_1
  simp only [List.flatten_cons, List.flatten_nil, List.append_nil] at h
  exact h
def zt_q0 : String × Nat × String × Nat := zt_SR.headD ("", 0, "", 0)
def zt_tm (j : Nat) : Term := .string (zt_SR.getD j zt_q0).1 (zt_SR.getD j zt_q0).2.1
def zq_pos (fl : List Cond) : List Cond → List Nat → Bool
  | [], _ => true
  | w :: ws, q :: qs => decide (fl[q]? = some w) && zq_pos fl ws qs
  | _ :: _, [] => false
theorem zq_pos_ok {fl : List Cond} : ∀ {ws : List Cond} {qs : List Nat}, zq_pos fl ws qs = true → ∀ w ∈ ws, w ∈ fl
  | [], _, _, _, hw => by cases hw
  | _ :: _, [], h, _, _ => by cases h
  | w0 :: ws, q :: qs, h, w, hw => by
    simp only [zq_pos, Bool.and_eq_true] at h
    rcases List.mem_cons.mp hw with rfl | hw
    · exact List.mem_of_getElem? (of_decide_eq_true h.1)
    · exact zq_pos_ok h.2 w hw
def zt_swP (j : Nat) (qs : List Nat) : Bool := zq_pos zt_fl (zw_str (zt_tm j) (zz_str zt_Z j)) qs && decide ((zz_str zt_Z j).length < 2147483648) && (zz_str zt_Z j).all (fun ch => decide (((ch &&& 255).toUInt32 % 65536).toInt32 = ch ∧ narrow .char (.int ch) = .int ch))
def zt_Sw (j : Nat) : Prop := (∀ w ∈ zw_str (zt_tm j) (zz_str zt_Z j), w ∈ zt_fl) ∧ (zz_str zt_Z j).length < 2 ^ 31 ∧ ∀ ch ∈ zz_str zt_Z j, ((ch &&& 255).toUInt32 % 65536).toInt32 = ch ∧ narrow .char (.int ch) = .int ch
theorem zt_swP_ok {j : Nat} {qs : List Nat} (h : zt_swP j qs = true) : zt_Sw j := by
  unfold zt_swP at h
  simp only [Bool.and_eq_true] at h
  exact ⟨zq_pos_ok h.1.1, of_decide_eq_true h.1.2, fun ch hc => of_decide_eq_true (List.all_eq_true.mp h.2 ch hc)⟩
theorem zt_sw0 : zt_Sw 0 := zt_swP_ok (qs := [81, 82, 83, 84, 85, 86, 87, 88]) (by decide +kernel)
theorem zt_sw1 : zt_Sw 1 := zt_swP_ok (qs := [89, 90, 91, 92, 93, 94, 95, 96]) (by decide +kernel)
theorem zt_sw2 : zt_Sw 2 := zt_swP_ok (qs := [97, 98, 99, 100, 101, 102, 103, 104, 105]) (by decide +kernel)
theorem zt_sw3 : zt_Sw 3 := zt_swP_ok (qs := [106, 107, 108, 109, 110, 111]) (by decide +kernel)
theorem zt_sw4 : zt_Sw 4 := zt_swP_ok (qs := [112, 113, 114, 115, 116, 117]) (by decide +kernel)
theorem zt_sw5 : zt_Sw 5 := zt_swP_ok (qs := [118, 119, 120, 121, 122]) (by decide +kernel)
theorem zt_sw6 : zt_Sw 6 := zt_swP_ok (qs := [123, 124, 125, 126, 127, 128]) (by decide +kernel)
theorem zt_sw7 : zt_Sw 7 := zt_swP_ok (qs := [130, 131, 132, 133, 134, 135, 136, 137]) (by decide +kernel)
theorem zt_sw8 : zt_Sw 8 := zt_swP_ok (qs := [139, 140, 141, 142, 143, 144, 145, 146]) (by decide +kernel)
theorem zt_sw9 : zt_Sw 9 := zt_swP_ok (qs := [148, 149, 150, 151, 152, 153, 154, 155, 156]) (by decide +kernel)
theorem zt_sw10 : zt_Sw 10 := zt_swP_ok (qs := [158, 159, 160, 161, 162, 163, 164, 165, 166, 167]) (by decide +kernel)
theorem zt_sw11 : zt_Sw 11 := zt_swP_ok (qs := [168, 169, 170, 171, 172, 173, 174, 175, 176, 177, 178]) (by decide +kernel)
theorem zt_sw12 : zt_Sw 12 := zt_swP_ok (qs := [179, 180, 181, 182, 183, 184, 185, 186, 187, 188, 189, 190, 191, 192]) (by decide +kernel)
theorem zt_sw13 : zt_Sw 13 := zt_swP_ok (qs := [193, 194, 195, 196, 197, 198, 199, 200, 201, 202, 203]) (by decide +kernel)
theorem zt_sw14 : zt_Sw 14 := zt_swP_ok (qs := [204, 205, 206, 207, 208, 209, 210, 211, 212]) (by decide +kernel)
theorem zt_sw15 : zt_Sw 15 := zt_swP_ok (qs := [213, 214, 215, 216, 217, 218, 219, 220, 221, 222, 223]) (by decide +kernel)
theorem zt_sw16 : zt_Sw 16 := zt_swP_ok (qs := [224, 225, 226, 227, 228, 229, 230, 231, 232, 233, 234, 235, 236, 237, 238]) (by decide +kernel)
theorem zt_sw17 : zt_Sw 17 := zt_swP_ok (qs := [239, 240, 241, 242, 243, 244, 245, 246, 247, 248, 249]) (by decide +kernel)
theorem zt_sw18 : zt_Sw 18 := zt_swP_ok (qs := [250, 251, 252, 253, 254, 255, 256, 257, 258]) (by decide +kernel)
theorem zt_sw19 : zt_Sw 19 := zt_swP_ok (qs := [259, 260, 261, 262, 263, 264, 265]) (by decide +kernel)
theorem zt_sw20 : zt_Sw 20 := zt_swP_ok (qs := [266, 267, 268, 269, 270, 271, 272]) (by decide +kernel)
theorem zt_sw21 : zt_Sw 21 := zt_swP_ok (qs := [273, 274, 275, 276, 277, 278, 279, 280, 281, 282, 283, 284, 285, 286, 287, 288, 289, 290, 291, 292]) (by decide +kernel)
theorem zt_sw22 : zt_Sw 22 := zt_swP_ok (qs := [293, 294, 295, 296, 297, 298, 299, 300, 301, 302, 303]) (by decide +kernel)
theorem zt_sw23 : zt_Sw 23 := zt_swP_ok (qs := [304, 305, 306, 307, 308, 309, 310]) (by decide +kernel)
theorem zt_sw24 : zt_Sw 24 := zt_swP_ok (qs := [311, 312, 313, 314, 315, 316, 317, 318, 319, 320, 321, 322, 323, 324]) (by decide +kernel)
theorem zt_sw25 : zt_Sw 25 := zt_swP_ok (qs := [326, 327, 328, 329, 330, 331, 332, 333, 334, 335, 336]) (by decide +kernel)
theorem zt_sw26 : zt_Sw 26 := zt_swP_ok (qs := [338, 339, 340, 341, 342, 343, 344, 345, 346]) (by decide +kernel)
theorem zt_sw27 : zt_Sw 27 := zt_swP_ok (qs := [348, 349, 350, 351, 352, 353, 354]) (by decide +kernel)
theorem zt_sw28 : zt_Sw 28 := zt_swP_ok (qs := [356, 357, 358, 359, 360, 361, 362]) (by decide +kernel)
theorem zt_sw29 : zt_Sw 29 := zt_swP_ok (qs := [364, 365, 366, 367, 368, 369, 370, 371, 372, 373, 374, 375]) (by decide +kernel)
theorem zt_sw30 : zt_Sw 30 := zt_swP_ok (qs := [376, 377, 378, 379, 380, 381, 382, 383]) (by decide +kernel)
theorem zt_sw31 : zt_Sw 31 := zt_swP_ok (qs := [384, 385, 386, 387, 388, 389, 390, 391]) (by decide +kernel)
theorem zt_sw32 : zt_Sw 32 := zt_swP_ok (qs := [392, 393, 394, 395, 396, 397, 398, 399, 400]) (by decide +kernel)
theorem zt_sw33 : zt_Sw 33 := zt_swP_ok (qs := [402, 403, 404, 405, 406, 407, 408, 409, 410, 411, 412, 413]) (by decide +kernel)
theorem zt_sw34 : zt_Sw 34 := zt_swP_ok (qs := [414, 415, 416, 417, 418, 419, 420, 421, 422, 423, 424, 425]) (by decide +kernel)
theorem zt_sw35 : zt_Sw 35 := zt_swP_ok (qs := [426, 427, 428, 429, 430, 431, 432, 433, 434, 435, 436, 437, 438, 439, 440, 441, 442, 443, 444, 445, 446, 447]) (by decide +kernel)
theorem zt_sw36 : zt_Sw 36 := zt_swP_ok (qs := [81, 82, 83, 84, 85, 86, 87, 88]) (by decide +kernel)
theorem zt_swA : ∀ j, j < 37 → zt_Sw j := fun j hj => by
  match j, hj with
  | 0, _ => exact zt_sw0
  | 1, _ => exact zt_sw1
  | 2, _ => exact zt_sw2
  | 3, _ => exact zt_sw3
  | 4, _ => exact zt_sw4
  | 5, _ => exact zt_sw5
  | 6, _ => exact zt_sw6
  | 7, _ => exact zt_sw7
  | 8, _ => exact zt_sw8
  | 9, _ => exact zt_sw9
  | 10, _ => exact zt_sw10
  | 11, _ => exact zt_sw11
  | 12, _ => exact zt_sw12
  | 13, _ => exact zt_sw13
  | 14, _ => exact zt_sw14
  | 15, _ => exact zt_sw15
  | 16, _ => exact zt_sw16
  | 17, _ => exact zt_sw17
  | 18, _ => exact zt_sw18
  | 19, _ => exact zt_sw19
  | 20, _ => exact zt_sw20
  | 21, _ => exact zt_sw21
  | 22, _ => exact zt_sw22
  | 23, _ => exact zt_sw23
  | 24, _ => exact zt_sw24
  | 25, _ => exact zt_sw25
  | 26, _ => exact zt_sw26
  | 27, _ => exact zt_sw27
  | 28, _ => exact zt_sw28
  | 29, _ => exact zt_sw29
  | 30, _ => exact zt_sw30
  | 31, _ => exact zt_sw31
  | 32, _ => exact zt_sw32
  | 33, _ => exact zt_sw33
  | 34, _ => exact zt_sw34
  | 35, _ => exact zt_sw35
  | 36, _ => exact zt_sw36
  | n + 37, h => omega
theorem zt_swj (j : Nat) : zt_Sw j := by
  have key := zt_swA
  by_cases hj : j < 36
  · exact key j (by omega)
  · have e1 : zt_tm j = zt_tm 36 := by
      have a1 : zt_SR.getD j zt_q0 = zt_q0 := by
        rw [List.getD_eq_getElem?_getD, List.getElem?_eq_none (by have : zt_SR.length = 36 := rfl
                                                                  omega)]
        rfl
      unfold zt_tm
      rw [a1]
      rfl
    have e2 : zz_str zt_Z j = zz_str zt_Z 36 := by
      show zt_sl.getD j zt_s0 = zt_s0
      rw [List.getD_eq_getElem?_getD, List.getElem?_eq_none (by have : zt_sl.length = 36 := rfl
                                                                omega)]
      rfl
    unfold zt_Sw
    rw [e1, e2]
    exact key 36 (by omega)
theorem zt_SRi : ∀ q ∈ zt_SR, (zt_SR.getD q.2.2.2 zt_q0 = q ∧ q.2.2.2 < 1000000) ∧ Cond.stringRef q.1 q.2.1 q.2.2.1 ∈ lw_tbl := by decide +kernel
theorem zt_ncast : ∀ ci ∈ zt_EX, ∀ cj ∈ zt_EX, ci ≠ cj → Cond.not (Cond.castable (zt_cl.getD ci ("", zt_T0, 0)).1 (zt_cl.getD cj ("", zt_T0, 0)).1) ∈ zt_fl := by decide +kernel
theorem zt_st1 : Cond.arrayOver (.object "PaperObjects$Slot") ∈ lw_tbl ∧ Cond.laysStatic "java/lang/String" "COMPACT_STRINGS" "Z" ∈ lw_tbl ∧ Cond.initialized "java/lang/String" ∈ lw_tbl ∧ Cond.laysStatic "jdk/internal/util/Preconditions" "SIOOBE_FORMATTER" "Ljava/util/function/BiFunction;" ∈ lw_tbl ∧ Cond.initialized "jdk/internal/util/Preconditions" ∈ lw_tbl ∧ Cond.laysStatic Jvm.Bundle.tN "UNASSIGNED_STACK" Jvm.Bundle.steD ∈ lw_tbl ∧ Cond.laysStatic Jvm.Bundle.tN "SUPPRESSED_SENTINEL" Jvm.Bundle.listD ∈ lw_tbl := by decide +kernel
theorem zt_st2 : Cond.eq (.static "java/lang/String" "COMPACT_STRINGS" "Z") (.int 1) ∈ zt_fl ∧ Cond.isRef (.static "jdk/internal/util/Preconditions" "SIOOBE_FORMATTER" "Ljava/util/function/BiFunction;") ∈ zt_fl ∧ Cond.isRef (.static Jvm.Bundle.tN "UNASSIGNED_STACK" Jvm.Bundle.steD) ∈ zt_fl ∧ Cond.isRef (.static Jvm.Bundle.tN "SUPPRESSED_SENTINEL" Jvm.Bundle.listD) ∈ zt_fl := by decide +kernel
theorem zt_ncast_ok {s : State} {args : Array Value} {A B : String} {a b : ClassId} (h : (Cond.not (Cond.castable A B)).before args s = true) (ha : s.vm.findClass A = some a) (hb : s.vm.findClass B = some b) : s.vm.assignable a b = false := by
  simpa [Cond.before, Cond.holds, Cond.value, ha, hb] using h
/-- what holds at the law's entry -/
theorem zt_entry {s : State} {b L : Nat} {xs : Nat → Int32} (hts : ∀ w ∈ lw_tbl, w.before #[Value.ref b] s = true) (hX : va_X b L xs s s.heap) (hgv : (Jvm.Cond.and given_1 narrow_1).before #[Value.ref b] s = true) :
    ∃ (D : va_G) (tys : List (ClassId × FieldType)) (tc : Nat → ClassId) (sa sv : Nat → Nat), (∀ (g : Nat) (ty : FieldType), zt_ty[g]? = some ty → tys[g]? = some (tc g, ty)) ∧ zz_amb zt_Ts D zt_cl tys (zw_Sx zt_AO zt_SR zt_EX (zz_str zt_Z) s.heap.size b sa sv D (L, xs)) s := by
  have hfl := flat_of_before _ hgv
  have hT : ∀ w ∈ zt_Ts, w.before #[Value.ref b] s = true := fun w hw => hts w (zt_tb (List.mem_filter.mp hw).1)
  obtain ⟨a1, a2, a3, a4, a5, a6, a7⟩ := zt_st1
  obtain ⟨c1, c2, c3, c4⟩ := zt_st2
  have hA : ∀ a : Nat, a < s.heap.size → ¬ s.heap.size ≤ a := fun a ha => by omega
  have hAO : va_AO "PaperObjects$Slot" s := va_AO.of (hts _ a1)
  obtain ⟨D, tys, tc, hK, htys⟩ := zw_K (s := s) (cl := zt_cl) (tyl := zt_ty) (fun c q hq => by
      obtain ⟨n, hn⟩ := zt_inst c q hq
      exact u_known hT (zt_cls c q.1 q.2.1 q.2.2 hq).2.1 (hT _ hn)) (fun g ty hg => by
      have hm := List.mem_of_getElem? hg
      simp only [zt_ty, List.mem_cons, List.not_mem_nil, or_false] at hm
      rcases hm with rfl | rfl | rfl | rfl | rfl
      · exact zw_ty (hT _ (zt_aty _ (by simp))) (fun C h => by cases h)
      · exact zw_ty (hT _ (zt_aty _ (by simp))) (fun C h => by cases h)
      · exact zw_ty (hT _ (zt_aty _ (by simp))) (fun C h => by cases h)
      · exact zw_ty (hT _ (zt_aty _ (by simp))) (fun C h => by cases h)
      · exact zw_tyO hAO)
  have hs0 : ∀ j : Nat, ∃ q : Nat × Nat, (zt_tm j).eval #[Value.ref b] s none [] s = some (.ref q.1) ∧ zs_at s.heap.size q.1 q.2 (zz_str zt_Z j).length (fun i => (zz_str zt_Z j).getD i 0) s := fun j => by
    obtain ⟨g1, g2, -⟩ := zt_swj j
    exact zw_str_ok g2 (fun w hw => hfl w (g1 w hw))
  obtain ⟨ad, had⟩ := Classical.axiomOfChoice hs0
  refine ⟨D, tys, tc, fun j => (ad j).1, fun j => (ad j).2, htys, fun w hw a => zz_gw_at (State.WarmedH.refl s) (zz_Ts_good zt_big w hw) (hT w hw), hK, fun C hC => ?_, fun q hq => ?_, fun ci hi cj hj hne => ?_, hX, ⟨?_, ?_⟩, fun j => (had j).2, ?_, ?_⟩
  · simp only [zt_AO, List.mem_cons, List.not_mem_nil, or_false] at hC
    subst hC
    exact hAO
  · obtain ⟨⟨g1, -⟩, g2⟩ := zt_SRi q hq
    have h1 := (had q.2.2.2).1
    unfold zt_tm at h1
    rw [g1] at h1
    exact vk_R.of (hts _ g2) h1
  · have h1 : ∀ k ∈ zt_EX, s.vm.findClass (zt_cl.getD k ("", zt_T0, 0)).1 = some (D.1 k) := fun k hk => by
      have hk' : k < 15 := by
        have : ∀ k ∈ zt_EX, k < 15 := by decide
        exact this k hk
      have e1 : zt_cl[k]? = some (zt_cl.getD k ("", zt_T0, 0)) := by
        rw [List.getD_eq_getElem?_getD]
        have : k < zt_cl.length := hk'
        rw [List.getElem?_eq_getElem this]
        rfl
      exact (hK.1 k _ e1).2.1
    exact zt_ncast_ok (hfl _ (zt_ncast ci hi cj hj hne)) (h1 ci hi) (h1 cj hj)
  · exact va_Zof (hts _ a2) (hts _ a3) (va_eqt (hfl _ c1)) hA
  · exact va_Zqof (hts _ a4) (hts _ a5) (hfl _ c2) hA
  · exact zx_S.of (hts _ a6) (hfl _ c3)
  · exact zx_S.of (hts _ a7) (hfl _ c4)
