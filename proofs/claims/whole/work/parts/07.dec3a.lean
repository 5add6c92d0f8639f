theorem pm_e0 : pm_q146_0.all (pm_dok code) = true := by decide +kernel
theorem pm_e1 : pm_q146_1.all (pm_dok code) = true := by decide +kernel
theorem pm_e2 : pm_q146_2.all (pm_dok code) = true := by decide +kernel
theorem pm_e3 : pm_q146_3.all (pm_dok code) = true := by decide +kernel
