/-! CALLEES, HELD TO THEIR WORDS. -/
theorem am_kx12_0 : am_kok 270 2 (58, 1177, 1175, 1176) = true := by decide +kernel
theorem am_kx12_1 : am_kok 271 0 (58, 1183, 1182, 0) = true := by decide +kernel
theorem am_kx12_2 : am_kok 272 0 (65, 1180, 1179, 0) = true := by decide +kernel
theorem am_kx12_3 : am_kok 276 0 (64, 1186, 1185, 0) = true := by decide +kernel
theorem am_kx12_4 : am_kok 277 5 (49, 585, 584, 583) = true := by decide +kernel
theorem am_kck12 : kT12.all (fun q => am_kok q.1 q.2.1 q.2.2) = true := by
  unfold kT12
  simp only [List.all_cons, List.all_nil, am_kx12_0, am_kx12_1, am_kx12_2, am_kx12_3, am_kx12_4, Bool.and_self]
