theorem pm_d2 : (((pm_ll.zip pm_codes).drop 82).take 64).all (fun p => p.1.all (pm_dok p.2)) = true := by decide +kernel
