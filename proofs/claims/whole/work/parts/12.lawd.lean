/-! by program: the law's table holds, a piece -/
theorem okLaw9 : ((tbL_law.drop 432).take 48).all (fun q => enOk mL_law q.1 q.2) = true := by decide +kernel
theorem okLaw10 : ((tbL_law.drop 480).take 48).all (fun q => enOk mL_law q.1 q.2) = true := by decide +kernel
theorem okLaw11 : ((tbL_law.drop 528).take 48).all (fun q => enOk mL_law q.1 q.2) = true := by decide +kernel
