/-! the contracts are checked: laid by wip/gen/emit61.py -/
set_option maxRecDepth 100000
theorem ak0 : (List.range' 35 16).all (chkCon2 kMt aCT aLT 138) = true := by decide +kernel
theorem ak1 : (List.range' 51 16).all (chkCon2 kMt aCT aLT 138) = true := by decide +kernel
theorem ak2 : (List.range' 67 16).all (chkCon2 kMt aCT aLT 138) = true := by decide +kernel
theorem ak3 : (List.range' 83 4).all (chkCon2 kMt aCT aLT 138) = true := by decide +kernel
