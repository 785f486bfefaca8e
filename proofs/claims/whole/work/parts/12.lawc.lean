/-! by program: the law's table holds, a piece -/
theorem okLaw6 : ((tbL_law.drop 288).take 48).all (fun q => enOk mL_law q.1 q.2) = true := by decide +kernel
theorem okLaw7 : ((tbL_law.drop 336).take 48).all (fun q => enOk mL_law q.1 q.2) = true := by decide +kernel
theorem okLaw8 : ((tbL_law.drop 384).take 48).all (fun q => enOk mL_law q.1 q.2) = true := by decide +kernel
