/-! CALLEES, HELD TO THEIR WORDS. -/
theorem am_kx10_0 : am_kok 151 0 (45, 1443, 1442, 0) = true := by decide +kernel
theorem am_kx10_1 : am_kok 152 0 (45, 1446, 1445, 0) = true := by decide +kernel
theorem am_kx10_2 : am_kok 153 3 (57, 903, 902, 0) = true := by decide +kernel
theorem am_kx10_3 : am_kok 154 2 (57, 934, 932, 933) = true := by decide +kernel
theorem am_kx10_4 : am_kok 155 2 (57, 1050, 1048, 1049) = true := by decide +kernel
theorem am_kx10_5 : am_kok 156 2 (57, 1085, 1083, 1084) = true := by decide +kernel
theorem am_kx10_6 : am_kok 157 15 (57, 1105, 1104, 1103) = true := by decide +kernel
theorem am_kx10_7 : am_kok 158 3 (56, 906, 905, 0) = true := by decide +kernel
theorem am_kx10_8 : am_kok 159 13 (56, 937, 936, 1534) = true := by decide +kernel
theorem am_kx10_9 : am_kok 160 13 (56, 1053, 1052, 1535) = true := by decide +kernel
theorem am_kx10_10 : am_kok 161 6 (56, 945, 944, 1530) = true := by decide +kernel
theorem am_kx10_11 : am_kok 162 6 (56, 949, 948, 1531) = true := by decide +kernel
theorem am_kx10_12 : am_kok 163 14 (56, 977, 974, 976) = true := by decide +kernel
theorem am_kx10_13 : am_kok 164 6 (56, 1020, 1019, 1532) = true := by decide +kernel
theorem am_kx10_14 : am_kok 165 6 (56, 1016, 1015, 1533) = true := by decide +kernel
theorem am_kck10 : kT10.all (fun q => am_kok q.1 q.2.1 q.2.2) = true := by
  unfold kT10
  simp only [List.all_cons, List.all_nil, am_kx10_0, am_kx10_1, am_kx10_2, am_kx10_3, am_kx10_4, am_kx10_5, am_kx10_6, am_kx10_7, am_kx10_8, am_kx10_9, am_kx10_10, am_kx10_11, am_kx10_12, am_kx10_13, am_kx10_14, Bool.and_self]
