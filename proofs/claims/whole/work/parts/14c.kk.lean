/-! CALLEES, HELD TO THEIR WORDS. -/
theorem am_kck12 : kT12.all (fun q => am_kok q.1 q.2.1 q.2.2) = true := by decide +kernel
theorem am_kck13 : kT13.all (fun q => am_kok q.1 q.2.1 q.2.2) = true := by decide +kernel
theorem am_kck14 : kT14.all (fun q => am_kok q.1 q.2.1 q.2.2) = true := by decide +kernel
theorem am_kck15 : kT15.all (fun q => am_kok q.1 q.2.1 q.2.2) = true := by decide +kernel
theorem am_kck16 : kT16.all (fun q => am_kok q.1 q.2.1 q.2.2) = true := by decide +kernel
theorem am_kck17 : kT17.all (fun q => am_kok q.1 q.2.1 q.2.2) = true := by decide +kernel
