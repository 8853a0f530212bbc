/-! the tables are right: methods 200 to 224 -/
theorem zt_k200 : zt_c200.all (zt_ck 200) = true := by decide +kernel
theorem zt_k201 : zt_c201.all (zt_ck 201) = true := by decide +kernel
theorem zt_k202 : zt_c202.all (zt_ck 202) = true := by decide +kernel
theorem zt_k203_0 : zt_c203_0.all (zt_ck 203) = true := by decide +kernel
theorem zt_k203_1 : zt_c203_1.all (zt_ck 203) = true := by decide +kernel
theorem zt_k203_2 : zt_c203_2.all (zt_ck 203) = true := by decide +kernel
theorem zt_k203 : zt_c203.all (zt_ck 203) = true := zz_all_app zt_k203_0 (zz_all_app zt_k203_1 (zt_k203_2))
theorem zt_k204 : zt_c204.all (zt_ck 204) = true := by decide +kernel
theorem zt_k205 : zt_c205.all (zt_ck 205) = true := by decide +kernel
theorem zt_k206 : zt_c206.all (zt_ck 206) = true := by decide +kernel
theorem zt_k207_0 : zt_c207_0.all (zt_ck 207) = true := by decide +kernel
theorem zt_k207_1 : zt_c207_1.all (zt_ck 207) = true := by decide +kernel
theorem zt_k207_2 : zt_c207_2.all (zt_ck 207) = true := by decide +kernel
theorem zt_k207 : zt_c207.all (zt_ck 207) = true := zz_all_app zt_k207_0 (zz_all_app zt_k207_1 (zt_k207_2))
theorem zt_k208_0 : zt_c208_0.all (zt_ck 208) = true := by decide +kernel
theorem zt_k208_1 : zt_c208_1.all (zt_ck 208) = true := by decide +kernel
theorem zt_k208 : zt_c208.all (zt_ck 208) = true := zz_all_app zt_k208_0 (zt_k208_1)
theorem zt_k209_0 : zt_c209_0.all (zt_ck 209) = true := by decide +kernel
theorem zt_k209_1 : zt_c209_1.all (zt_ck 209) = true := by decide +kernel
theorem zt_k209_2 : zt_c209_2.all (zt_ck 209) = true := by decide +kernel
theorem zt_k209 : zt_c209.all (zt_ck 209) = true := zz_all_app zt_k209_0 (zz_all_app zt_k209_1 (zt_k209_2))
theorem zt_k210 : zt_c210.all (zt_ck 210) = true := by decide +kernel
theorem zt_k211_0 : zt_c211_0.all (zt_ck 211) = true := by decide +kernel
theorem zt_k211_1 : zt_c211_1.all (zt_ck 211) = true := by decide +kernel
theorem zt_k211_2 : zt_c211_2.all (zt_ck 211) = true := by decide +kernel
theorem zt_k211 : zt_c211.all (zt_ck 211) = true := zz_all_app zt_k211_0 (zz_all_app zt_k211_1 (zt_k211_2))
theorem zt_k212_0 : zt_c212_0.all (zt_ck 212) = true := by decide +kernel
theorem zt_k212_1 : zt_c212_1.all (zt_ck 212) = true := by decide +kernel
theorem zt_k212 : zt_c212.all (zt_ck 212) = true := zz_all_app zt_k212_0 (zt_k212_1)
theorem zt_k213 : zt_c213.all (zt_ck 213) = true := by decide +kernel
theorem zt_k214_0 : zt_c214_0.all (zt_ck 214) = true := by decide +kernel
theorem zt_k214_1 : zt_c214_1.all (zt_ck 214) = true := by decide +kernel
theorem zt_k214_2 : zt_c214_2.all (zt_ck 214) = true := by decide +kernel
theorem zt_k214 : zt_c214.all (zt_ck 214) = true := zz_all_app zt_k214_0 (zz_all_app zt_k214_1 (zt_k214_2))
theorem zt_k215 : zt_c215.all (zt_ck 215) = true := by decide +kernel
theorem zt_k216_0 : zt_c216_0.all (zt_ck 216) = true := by decide +kernel
theorem zt_k216_1 : zt_c216_1.all (zt_ck 216) = true := by decide +kernel
theorem zt_k216 : zt_c216.all (zt_ck 216) = true := zz_all_app zt_k216_0 (zt_k216_1)
theorem zt_k217 : zt_c217.all (zt_ck 217) = true := by decide +kernel
theorem zt_k218 : zt_c218.all (zt_ck 218) = true := by decide +kernel
theorem zt_k219 : zt_c219.all (zt_ck 219) = true := by decide +kernel
theorem zt_k220 : zt_c220.all (zt_ck 220) = true := by decide +kernel
theorem zt_k221 : zt_c221.all (zt_ck 221) = true := by decide +kernel
theorem zt_k222 : zt_c222.all (zt_ck 222) = true := by decide +kernel
theorem zt_k223 : zt_c223.all (zt_ck 223) = true := by decide +kernel
theorem zt_k224 : zt_c224.all (zt_ck 224) = true := by decide +kernel
