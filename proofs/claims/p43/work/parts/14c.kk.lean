/-! CALLEES, HELD TO THEIR WORDS. -/
theorem am_kx9_0 : am_kok 136 2 (55, 723, 721, 722) = true := by decide +kernel
theorem am_kx9_1 : am_kok 137 2 (55, 719, 717, 14) = true := by decide +kernel
theorem am_kx9_2 : am_kok 138 2 (55, 714, 712, 713) = true := by decide +kernel
theorem am_kx9_3 : am_kok 139 2 (55, 727, 726, 15) = true := by decide +kernel
theorem am_kx9_4 : am_kok 140 2 (55, 710, 708, 709) = true := by decide +kernel
theorem am_kx9_5 : am_kok 141 2 (55, 752, 750, 751) = true := by decide +kernel
theorem am_kx9_6 : am_kok 142 2 (55, 756, 755, 17) = true := by decide +kernel
theorem am_kx9_7 : am_kok 143 2 (55, 743, 742, 16) = true := by decide +kernel
theorem am_kx9_8 : am_kok 144 2 (55, 735, 733, 734) = true := by decide +kernel
theorem am_kx9_9 : am_kok 145 2 (55, 765, 763, 764) = true := by decide +kernel
theorem am_kx9_10 : am_kok 146 0 (45, 794, 793, 0) = true := by decide +kernel
theorem am_kx9_11 : am_kok 147 0 (45, 798, 797, 0) = true := by decide +kernel
theorem am_kx9_12 : am_kok 148 0 (45, 1163, 1162, 0) = true := by decide +kernel
theorem am_kx9_13 : am_kok 149 7 (45, 802, 801, 0) = true := by decide +kernel
theorem am_kx9_14 : am_kok 150 0 (45, 845, 844, 0) = true := by decide +kernel
theorem am_kck9 : kT9.all (fun q => am_kok q.1 q.2.1 q.2.2) = true := by
  unfold kT9
  simp only [List.all_cons, List.all_nil, am_kx9_0, am_kx9_1, am_kx9_2, am_kx9_3, am_kx9_4, am_kx9_5, am_kx9_6, am_kx9_7, am_kx9_8, am_kx9_9, am_kx9_10, am_kx9_11, am_kx9_12, am_kx9_13, am_kx9_14, Bool.and_self]
