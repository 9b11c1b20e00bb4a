/-! CALLEES, HELD TO THEIR WORDS. -/
theorem am_kck10 : kT10.all (fun q => am_kok q.1 q.2.1 q.2.2) = true := by decide +kernel
theorem am_kck11 : kT11.all (fun q => am_kok q.1 q.2.1 q.2.2) = true := by decide +kernel
theorem am_kck12 : kT12.all (fun q => am_kok q.1 q.2.1 q.2.2) = true := by decide +kernel
