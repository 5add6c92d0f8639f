theorem pm_e8 : pm_q146_8.all (pm_dok code) = true := by decide +kernel
theorem pm_e9 : pm_q146_9.all (pm_dok code) = true := by decide +kernel
theorem pm_e10 : pm_q146_10.all (pm_dok code) = true := by decide +kernel
theorem pm_e11 : pm_q146_11.all (pm_dok code) = true := by decide +kernel
