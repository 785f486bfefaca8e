/-! by program: the law's table holds, a piece -/
theorem okLaw0 : ((tbL_law.drop 0).take 48).all (fun q => enOk mL_law q.1 q.2) = true := by decide +kernel
theorem okLaw1 : ((tbL_law.drop 48).take 48).all (fun q => enOk mL_law q.1 q.2) = true := by decide +kernel
theorem okLaw2 : ((tbL_law.drop 96).take 48).all (fun q => enOk mL_law q.1 q.2) = true := by decide +kernel
