/-! CALLEES, HELD TO THEIR WORDS. -/
theorem am_kck18 : kT18.all (fun q => am_kok q.1 q.2.1 q.2.2) = true := by decide +kernel
theorem am_kck19 : kT19.all (fun q => am_kok q.1 q.2.1 q.2.2) = true := by decide +kernel
theorem am_kck20 : kT20.all (fun q => am_kok q.1 q.2.1 q.2.2) = true := by decide +kernel
theorem am_kck21 : kT21.all (fun q => am_kok q.1 q.2.1 q.2.2) = true := by decide +kernel
theorem am_kck22 : kT22.all (fun q => am_kok q.1 q.2.1 q.2.2) = true := by decide +kernel
theorem am_kck23 : kT23.all (fun q => am_kok q.1 q.2.1 q.2.2) = true := by decide +kernel
