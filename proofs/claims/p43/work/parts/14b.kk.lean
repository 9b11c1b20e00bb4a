/-! CALLEES, HELD TO THEIR WORDS. -/
theorem am_kck5 : kT5.all (fun q => am_kok q.1 q.2.1 q.2.2) = true := by decide +kernel
theorem am_kck6 : kT6.all (fun q => am_kok q.1 q.2.1 q.2.2) = true := by decide +kernel
theorem am_kck7 : kT7.all (fun q => am_kok q.1 q.2.1 q.2.2) = true := by decide +kernel
theorem am_kck8 : kT8.all (fun q => am_kok q.1 q.2.1 q.2.2) = true := by decide +kernel
