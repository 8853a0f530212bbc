/-! the tables are right: methods 175 to 199 -/
theorem zt_k175 : zt_c175.all (zt_ck 175) = true := by decide +kernel
theorem zt_k176 : zt_c176.all (zt_ck 176) = true := by decide +kernel
theorem zt_k177_0 : zt_c177_0.all (zt_ck 177) = true := by decide +kernel
theorem zt_k177_1 : zt_c177_1.all (zt_ck 177) = true := by decide +kernel
theorem zt_k177 : zt_c177.all (zt_ck 177) = true := zz_all_app zt_k177_0 (zt_k177_1)
theorem zt_k178_0 : zt_c178_0.all (zt_ck 178) = true := by decide +kernel
theorem zt_k178_1 : zt_c178_1.all (zt_ck 178) = true := by decide +kernel
theorem zt_k178 : zt_c178.all (zt_ck 178) = true := zz_all_app zt_k178_0 (zt_k178_1)
theorem zt_k179 : zt_c179.all (zt_ck 179) = true := by decide +kernel
theorem zt_k180_0 : zt_c180_0.all (zt_ck 180) = true := by decide +kernel
theorem zt_k180_1 : zt_c180_1.all (zt_ck 180) = true := by decide +kernel
theorem zt_k180 : zt_c180.all (zt_ck 180) = true := zz_all_app zt_k180_0 (zt_k180_1)
theorem zt_k181 : zt_c181.all (zt_ck 181) = true := by decide +kernel
theorem zt_k182 : zt_c182.all (zt_ck 182) = true := by decide +kernel
theorem zt_k183 : zt_c183.all (zt_ck 183) = true := by decide +kernel
theorem zt_k184 : zt_c184.all (zt_ck 184) = true := by decide +kernel
theorem zt_k185_0 : zt_c185_0.all (zt_ck 185) = true := by decide +kernel
theorem zt_k185_1 : zt_c185_1.all (zt_ck 185) = true := by decide +kernel
theorem zt_k185_2 : zt_c185_2.all (zt_ck 185) = true := by decide +kernel
theorem zt_k185_3 : zt_c185_3.all (zt_ck 185) = true := by decide +kernel
theorem zt_k185 : zt_c185.all (zt_ck 185) = true := zz_all_app zt_k185_0 (zz_all_app zt_k185_1 (zz_all_app zt_k185_2 (zt_k185_3)))
theorem zt_k186_0 : zt_c186_0.all (zt_ck 186) = true := by decide +kernel
theorem zt_k186_1 : zt_c186_1.all (zt_ck 186) = true := by decide +kernel
theorem zt_k186 : zt_c186.all (zt_ck 186) = true := zz_all_app zt_k186_0 (zt_k186_1)
theorem zt_k187 : zt_c187.all (zt_ck 187) = true := by decide +kernel
theorem zt_k188_0 : zt_c188_0.all (zt_ck 188) = true := by decide +kernel
theorem zt_k188_1 : zt_c188_1.all (zt_ck 188) = true := by decide +kernel
theorem zt_k188 : zt_c188.all (zt_ck 188) = true := zz_all_app zt_k188_0 (zt_k188_1)
theorem zt_k189 : zt_c189.all (zt_ck 189) = true := by decide +kernel
theorem zt_k190 : zt_c190.all (zt_ck 190) = true := by decide +kernel
theorem zt_k191_0 : zt_c191_0.all (zt_ck 191) = true := by decide +kernel
theorem zt_k191_1 : zt_c191_1.all (zt_ck 191) = true := by decide +kernel
theorem zt_k191_2 : zt_c191_2.all (zt_ck 191) = true := by decide +kernel
theorem zt_k191 : zt_c191.all (zt_ck 191) = true := zz_all_app zt_k191_0 (zz_all_app zt_k191_1 (zt_k191_2))
theorem zt_k192_0 : zt_c192_0.all (zt_ck 192) = true := by decide +kernel
theorem zt_k192_1 : zt_c192_1.all (zt_ck 192) = true := by decide +kernel
theorem zt_k192 : zt_c192.all (zt_ck 192) = true := zz_all_app zt_k192_0 (zt_k192_1)
theorem zt_k193_0 : zt_c193_0.all (zt_ck 193) = true := by decide +kernel
theorem zt_k193_1 : zt_c193_1.all (zt_ck 193) = true := by decide +kernel
theorem zt_k193 : zt_c193.all (zt_ck 193) = true := zz_all_app zt_k193_0 (zt_k193_1)
theorem zt_k194 : zt_c194.all (zt_ck 194) = true := by decide +kernel
theorem zt_k195 : zt_c195.all (zt_ck 195) = true := by decide +kernel
theorem zt_k196_0 : zt_c196_0.all (zt_ck 196) = true := by decide +kernel
theorem zt_k196_1 : zt_c196_1.all (zt_ck 196) = true := by decide +kernel
theorem zt_k196_2 : zt_c196_2.all (zt_ck 196) = true := by decide +kernel
theorem zt_k196 : zt_c196.all (zt_ck 196) = true := zz_all_app zt_k196_0 (zz_all_app zt_k196_1 (zt_k196_2))
theorem zt_k197_0 : zt_c197_0.all (zt_ck 197) = true := by decide +kernel
theorem zt_k197_1 : zt_c197_1.all (zt_ck 197) = true := by decide +kernel
theorem zt_k197_2 : zt_c197_2.all (zt_ck 197) = true := by decide +kernel
theorem zt_k197 : zt_c197.all (zt_ck 197) = true := zz_all_app zt_k197_0 (zz_all_app zt_k197_1 (zt_k197_2))
theorem zt_k198_0 : zt_c198_0.all (zt_ck 198) = true := by decide +kernel
theorem zt_k198_1 : zt_c198_1.all (zt_ck 198) = true := by decide +kernel
theorem zt_k198 : zt_c198.all (zt_ck 198) = true := zz_all_app zt_k198_0 (zt_k198_1)
theorem zt_k199 : zt_c199.all (zt_ck 199) = true := by decide +kernel
