/-! the contracts are checked: laid by wip/gen/emit61.py -/
set_option maxRecDepth 100000
theorem ak46 : (List.range' 493 16).all (chkCon2 kMt aCT aLT 138) = true := by decide +kernel
theorem ak47 : (List.range' 509 16).all (chkCon2 kMt aCT aLT 138) = true := by decide +kernel
theorem ak48 : (List.range' 525 16).all (chkCon2 kMt aCT aLT 138) = true := by decide +kernel
theorem ak49 : (List.range' 541 1).all (chkCon2 kMt aCT aLT 138) = true := by decide +kernel
