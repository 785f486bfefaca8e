/-! by program: the tables hold -/
theorem okX11_does : mOk mX11_does = true := by decide +kernel
theorem okX11_depth : mOk mX11_depth = true := by decide +kernel
theorem okX11_behind : mOk mX11_behind = true := by decide +kernel
theorem okX11_readsAll : mOk mX11_readsAll = true := by decide +kernel
theorem okX11_reads : mOk mX11_reads = true := by decide +kernel
theorem okX11_goes : mOk mX11_goes = true := by decide +kernel
theorem okX11_comes : mOk mX11_comes = true := by decide +kernel
theorem okX11_statesOf : mOk mX11_statesOf = true := by decide +kernel
theorem okX11_about : mOk mX11_about = true := by decide +kernel
theorem okX11_accepts : mOk mX11_accepts = true := by decide +kernel
theorem okX11_numberOf : mOk mX11_numberOf = true := by decide +kernel
theorem okX11_turns : mOk mX11_turns = true := by decide +kernel
theorem okX11_steps : mOk mX11_steps = true := by decide +kernel
theorem okX11_ways : mOk mX11_ways = true := by decide +kernel
theorem okX11_words : mOk mX11_words = true := by decide +kernel
theorem okX11_beyond : mOk mX11_beyond = true := by decide +kernel
theorem okX11_spreads : mOk mX11_spreads = true := by decide +kernel
