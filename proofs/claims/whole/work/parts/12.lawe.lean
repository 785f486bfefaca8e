/-! by program: the law's table holds, a piece -/
theorem okLaw12 : ((tbL_law.drop 576).take 48).all (fun q => enOk mL_law q.1 q.2) = true := by decide +kernel
theorem okLaw13 : ((tbL_law.drop 624).take 48).all (fun q => enOk mL_law q.1 q.2) = true := by decide +kernel
