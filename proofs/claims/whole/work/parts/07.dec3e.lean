theorem pm_e16 : pm_q146_16.all (pm_dok code) = true := by decide +kernel
theorem pm_e17 : pm_q146_17.all (pm_dok code) = true := by decide +kernel
theorem pm_e18 : pm_q146_18.all (pm_dok code) = true := by decide +kernel
theorem pm_e19 : pm_q146_19.all (pm_dok code) = true := by decide +kernel
