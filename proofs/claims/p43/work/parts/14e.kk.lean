/-! CALLEES, HELD TO THEIR WORDS. -/
theorem am_kx11_0 : am_kok 166 14 (56, 1099, 1096, 1098) = true := by decide +kernel
theorem am_kx11_1 : am_kok 167 13 (56, 1107, 1101, 1536) = true := by decide +kernel
theorem am_kx11_2 : am_kok 168 3 (58, 1090, 1089, 0) = true := by decide +kernel
theorem am_kx11_3 : am_kok 169 3 (58, 1093, 1092, 0) = true := by decide +kernel
theorem am_kx11_4 : am_kok 170 2 (58, 1044, 1042, 1043) = true := by decide +kernel
theorem am_kx11_5 : am_kok 171 0 (62, 961, 960, 0) = true := by decide +kernel
theorem am_kx11_6 : am_kok 172 0 (62, 1111, 1110, 0) = true := by decide +kernel
theorem am_kx11_7 : am_kok 173 0 (62, 1114, 1113, 0) = true := by decide +kernel
theorem am_kx11_8 : am_kok 174 0 (62, 1117, 1116, 0) = true := by decide +kernel
theorem am_kx11_9 : am_kok 175 0 (60, 952, 951, 0) = true := by decide +kernel
theorem am_kx11_10 : am_kok 176 0 (66, 1056, 1055, 0) = true := by decide +kernel
theorem am_kx11_11 : am_kok 177 0 (66, 1059, 1058, 0) = true := by decide +kernel
theorem am_kx11_12 : am_kok 265 2 (58, 1007, 1005, 1006) = true := by decide +kernel
theorem am_kx11_13 : am_kok 266 2 (58, 1173, 1171, 1172) = true := by decide +kernel
theorem am_kx11_14 : am_kok 269 2 (58, 1011, 1009, 1010) = true := by decide +kernel
theorem am_kck11 : kT11.all (fun q => am_kok q.1 q.2.1 q.2.2) = true := by
  unfold kT11
  simp only [List.all_cons, List.all_nil, am_kx11_0, am_kx11_1, am_kx11_2, am_kx11_3, am_kx11_4, am_kx11_5, am_kx11_6, am_kx11_7, am_kx11_8, am_kx11_9, am_kx11_10, am_kx11_11, am_kx11_12, am_kx11_13, am_kx11_14, Bool.and_self]
