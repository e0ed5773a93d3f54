/-! the contracts are checked: laid by wip/gen/emit61.py -/
set_option maxRecDepth 100000
theorem ak25 : (List.range' 256 16).all (chkCon2 kMt aCT aLT 138) = true := by decide +kernel
theorem ak26 : (List.range' 272 16).all (chkCon2 kMt aCT aLT 138) = true := by decide +kernel
theorem ak27 : (List.range' 288 7).all (chkCon2 kMt aCT aLT 138) = true := by decide +kernel
