theorem pm_e20 : pm_q146_20.all (pm_dok code) = true := by decide +kernel
theorem pm_e21 : pm_q146_21.all (pm_dok code) = true := by decide +kernel
