/-! the contracts are checked: laid by wip/gen/emit61.py -/
set_option maxRecDepth 100000
theorem ak42 : (List.range' 429 16).all (chkCon2 kMt aCT aLT 138) = true := by decide +kernel
theorem ak43 : (List.range' 445 16).all (chkCon2 kMt aCT aLT 138) = true := by decide +kernel
theorem ak44 : (List.range' 461 16).all (chkCon2 kMt aCT aLT 138) = true := by decide +kernel
theorem ak45 : (List.range' 477 16).all (chkCon2 kMt aCT aLT 138) = true := by decide +kernel
theorem ak46 : (List.range' 493 16).all (chkCon2 kMt aCT aLT 138) = true := by decide +kernel
theorem ak47 : (List.range' 509 16).all (chkCon2 kMt aCT aLT 138) = true := by decide +kernel
theorem ak48 : (List.range' 525 16).all (chkCon2 kMt aCT aLT 138) = true := by decide +kernel
theorem ak49 : (List.range' 541 1).all (chkCon2 kMt aCT aLT 138) = true := by decide +kernel
