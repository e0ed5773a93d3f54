/-! the contracts are checked: laid by wip/gen/emit61.py -/
set_option maxRecDepth 100000
theorem ak33 : (List.range' 330 16).all (chkCon2 kMt aCT aLT 138) = true := by decide +kernel
theorem ak34 : (List.range' 346 16).all (chkCon2 kMt aCT aLT 138) = true := by decide +kernel
theorem ak35 : (List.range' 362 16).all (chkCon2 kMt aCT aLT 138) = true := by decide +kernel
theorem ak36 : (List.range' 378 16).all (chkCon2 kMt aCT aLT 138) = true := by decide +kernel
theorem ak37 : (List.range' 394 16).all (chkCon2 kMt aCT aLT 138) = true := by decide +kernel
theorem ak38 : (List.range' 410 10).all (chkCon2 kMt aCT aLT 138) = true := by decide +kernel
