theorem pm_d1 : (((pm_ll.zip pm_codes).drop 45).take 37).all (fun p => p.1.all (pm_dok p.2)) = true := by decide +kernel
