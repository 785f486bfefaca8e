/-! by program: the law's table holds, a piece -/
theorem okLaw3 : ((tbL_law.drop 144).take 48).all (fun q => enOk mL_law q.1 q.2) = true := by decide +kernel
theorem okLaw4 : ((tbL_law.drop 192).take 48).all (fun q => enOk mL_law q.1 q.2) = true := by decide +kernel
theorem okLaw5 : ((tbL_law.drop 240).take 48).all (fun q => enOk mL_law q.1 q.2) = true := by decide +kernel
