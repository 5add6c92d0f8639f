theorem pm_e12 : pm_q146_12.all (pm_dok code) = true := by decide +kernel
theorem pm_e13 : pm_q146_13.all (pm_dok code) = true := by decide +kernel
theorem pm_e14 : pm_q146_14.all (pm_dok code) = true := by decide +kernel
theorem pm_e15 : pm_q146_15.all (pm_dok code) = true := by decide +kernel
