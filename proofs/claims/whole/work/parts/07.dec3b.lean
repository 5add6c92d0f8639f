theorem pm_e4 : pm_q146_4.all (pm_dok code) = true := by decide +kernel
theorem pm_e5 : pm_q146_5.all (pm_dok code) = true := by decide +kernel
theorem pm_e6 : pm_q146_6.all (pm_dok code) = true := by decide +kernel
theorem pm_e7 : pm_q146_7.all (pm_dok code) = true := by decide +kernel
