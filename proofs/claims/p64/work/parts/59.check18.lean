/-! the contracts are checked: laid by wip/gen/emit61.py -/
set_option maxRecDepth 100000
theorem ak29 : (List.range' 296 16).all (chkCon2 kMt aCT aLT 138) = true := by decide +kernel
theorem ak30 : (List.range' 312 16).all (chkCon2 kMt aCT aLT 138) = true := by decide +kernel
theorem ak31 : (List.range' 328 1).all (chkCon2 kMt aCT aLT 138) = true := by decide +kernel
