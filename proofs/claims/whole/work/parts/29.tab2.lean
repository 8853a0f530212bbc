/-! the tables, all together -/
def zt_hp : List (List Nat) := [[], [], [], [], [], [], [], [], [], [], [], [], [], [], [], [], [], [], [], [], [], [], [], [], [], [], [], [], [], [], [], [], [], [], [], [], [], [], [], [], [], [], [], [], [], [], [], [], [], [], [], [], [], [], [], [], [], [], [], [], [], [], [], [], [], [], [], [], [], [], [], [], [], [], [], [], [], [], [], [], [], [], [], [], [], [], [], [], [], [], [], [], [], [], [], [], [], [], [], [], [], [], [], [], [], [], [], [], [], [], [], [], [], [], [], [], [], [], [], [], [], [], [], [], [], [], [], [], [], [], [], [], [], [], [], [], [], [], [], [], [], [], [], [], [], [], [], [], [], [], [], [], [], [], [], [], [], [], [], [], [], [], [], [], [], [], [], [], [], [], [], [], [], [], [], [], [], [], [], [], [], [], [], [], [], [], [], [], [], [], [], [], [], [], [], [], [], [], [], [], [], [], [], [], [], [], [], [], [], [], [], [], [], [], [], [], [], [], [], [], [], [], [], [], [], [], [], [], [], [], [], [], [3015], [3096, 3097, 3015], [4023, 3097, 3015], [4023], [4023], [3097, 4113], [3015], [3096, 3015], [3096], [3096], [3096], [4023], [3097, 3096], [3097, 4113], [3097, 3015]]
def zt_lp : List (List Nat) := [[2062, 2064, 2066, 2068, 2070, 2072, 2074, 2076, 2078, 2080, 2082, 2084, 2086], [1051, 1053, 1055], [1074, 1076, 1078], [1095, 1097, 1099, 1101, 1103, 1105], [1144, 1146, 1148, 1150, 1152, 1154, 1156], [1173, 1175, 1177, 1179, 1181, 1183, 1185, 1187, 1189, 1191, 1193], [1203], [2011, 2013, 2015, 2017, 2019, 2021], [2038, 2040, 2042, 2044], [6010, 6012, 6014, 6016, 6018, 6020, 6022, 6024, 6026, 6028, 6030, 6032, 6034, 6036, 6038, 6040, 6042, 6044, 6046, 6048, 6050, 6052, 6054, 6056, 6058, 6060, 6062, 6064, 6066, 6068, 6070, 6072, 6074, 6076, 6078, 6080, 6082, 6084, 6086, 6088, 6090, 6092, 6094, 6096, 6098, 6100, 6102, 6104, 6106, 6108, 6110, 6112], [], [], [], [], []]
def zt_XS : List (String × Nat × String) := [("PaperObjects", 93, "java/lang/IllegalArgumentException"), ("PaperObjects", 107, "java/lang/IndexOutOfBoundsException"), ("PaperObjects", 119, "java/lang/IllegalStateException"), ("PaperObjects", 140, "java/util/NoSuchElementException"), ("PaperObjects", 198, "java/lang/UnsupportedOperationException")]
abbrev zt_Ts : List Cond := zz_Ts zt_big
theorem zt_ws : ∀ w ∈ zs_ws, w ∈ zt_Ts := zq_in_ok (qs := [2145, 2149, 2155, 2159, 2162, 2165, 2170, 2143, 2147, 2153, 2157, 2144, 2148, 2154, 2158, 2161, 2164, 2169, 1018, 1017, 1019, 2146, 2156, 2160, 2163, 2168, 2150, 8002, 8003, 2166]) (by decide +kernel)
theorem zt_hok1 : (List.range 247).all (fun M => zq_hok zt_big zt_cl zt_EX (zt_Y.1 M).cls (zt_Y.2.2 M) (zz_hnd zt_Z M) (zt_hp.getD M [])) = true := by decide +kernel
theorem zt_hok : ∀ M, zz_hok zt_Ts zt_cl zt_EX (zt_Y.1 M).cls (zt_Y.2.2 M) (zz_hnd zt_Z M) := fun M => by
  by_cases h : M < 247
  · exact zq_hok_ok (List.all_eq_true.mp zt_hok1 M (List.mem_range.mpr h))
  · have e1 : zt_Y.2.2 M = [] := by
      show zt_hw.getD M [] = []
      rw [List.getD_eq_getElem?_getD, List.getElem?_eq_none (by have : zt_hw.length = 247 := by decide +kernel
                                                                omega)]
      rfl
    have e2 : zz_hnd zt_Z M = [] := by
      show zt_hm.getD M [] = []
      rw [List.getD_eq_getElem?_getD, List.getElem?_eq_none (by have : zt_hm.length = 247 := by decide +kernel
                                                                omega)]
      rfl
    rw [e1, e2]
    exact trivial
theorem zt_cls1 : (List.range 15).all (fun ci => match zt_cl[ci]? with
  | some q => zq_cls zt_big (zz_fty zt_Z ci) q (zt_lp.getD ci [])
  | none => true) = true := by decide +kernel
theorem zt_cls : ∀ ci C T N, zt_cl[ci]? = some (C, T, N) → zz_cls zt_cl zt_Ts (zz_fty zt_Z ci) ci C T N := fun ci C T N h => by
  have hl : ci < 15 := by
    have := (List.getElem?_eq_some_iff.mp h).1
    have e : zt_cl.length = 15 := rfl
    omega
  have h1 := List.all_eq_true.mp zt_cls1 ci (List.mem_range.mpr hl)
  rw [h] at h1
  exact zq_cls_ok h h1
theorem zt_x0 : zq_at zt_big [tables_1_1, tables_1_2, tables_1_3, tables_1_4] ("PaperObjects", 93, "java/lang/IllegalArgumentException") = true := by decide +kernel
theorem zt_x1 : zq_at zt_big [tables_1_1, tables_1_2, tables_1_3, tables_1_4] ("PaperObjects", 107, "java/lang/IndexOutOfBoundsException") = true := by decide +kernel
theorem zt_x2 : zq_at zt_big [tables_1_1, tables_1_2, tables_1_3, tables_1_4] ("PaperObjects", 119, "java/lang/IllegalStateException") = true := by decide +kernel
theorem zt_x3 : zq_at zt_big [tables_1_1, tables_1_2, tables_1_3, tables_1_4] ("PaperObjects", 140, "java/util/NoSuchElementException") = true := by decide +kernel
theorem zt_x4 : zq_at zt_big [tables_1_1, tables_1_2, tables_1_3, tables_1_4] ("PaperObjects", 198, "java/lang/UnsupportedOperationException") = true := by decide +kernel
theorem zt_XS_ok : ∀ q ∈ zt_XS, Jvm.Bundle.fit q.2.2 = true ∧ ∀ a ∈ zx_at q.1 q.2.1 q.2.2, a ∈ zt_Ts ∨ zx_st a = true := fun q hq => by
  have hbs : ∀ ws ∈ [tables_1_1, tables_1_2, tables_1_3, tables_1_4], ws ∈ zt_big := fun ws h => by
    simp only [List.mem_cons, List.not_mem_nil, or_false] at h
    unfold zt_big
    rcases h with rfl | rfl | rfl | rfl <;> simp
  simp only [zt_XS, List.mem_cons, List.not_mem_nil, or_false] at hq
  rcases hq with rfl | rfl | rfl | rfl | rfl
  · exact zq_at_ok hbs zt_x0
  · exact zq_at_ok hbs zt_x1
  · exact zq_at_ok hbs zt_x2
  · exact zq_at_ok hbs zt_x3
  · exact zq_at_ok hbs zt_x4
theorem zt_q1 : zq_all (zq_row zt_big zt_Z zt_Y zt_cl zt_XS) 0 zt_cs = true := by decide +kernel
theorem zt_PW : ∀ M pc i n r, zz_cod zt_Z M pc = some (i, n, r) → zp_w zt_Ts (zt_Y.1 M).cls i r := fun M pc i n r h => by
  obtain ⟨ws, hm⟩ := zz_look_mem (l := zt_cs.getD M []) h
  have h1 := List.all_eq_true.mp (zq_all_at zt_q1 M) _ hm
  rw [Nat.zero_add] at h1
  exact zq_row_w h1
theorem zt_TX : ∀ M pc n idx ci sl, zz_cod zt_Z M pc = some (.new idx, n, [3, ci, sl]) → zx_site zt_Z zt_Y zt_Ts zt_cl M pc idx ci sl := fun M pc n idx ci sl h => by
  obtain ⟨ws, hm⟩ := zz_look_mem (l := zt_cs.getD M []) h
  have h1 := List.all_eq_true.mp (zq_all_at zt_q1 M) _ hm
  rw [Nat.zero_add] at h1
  exact zq_row_x zt_XS_ok h1
