/-! CALLEES, HELD TO THEIR WORDS. -/
theorem am_kck24 : kT24.all (fun q => am_kok q.1 q.2.1 q.2.2) = true := by decide +kernel
theorem am_kck25 : kT25.all (fun q => am_kok q.1 q.2.1 q.2.2) = true := by decide +kernel
theorem am_kck26 : kT26.all (fun q => am_kok q.1 q.2.1 q.2.2) = true := by decide +kernel
theorem am_kck27 : kT27.all (fun q => am_kok q.1 q.2.1 q.2.2) = true := by decide +kernel
