/-! the contracts are checked: laid by wip/gen/emit61.py -/
set_option maxRecDepth 100000
theorem ak21 : (List.range' 192 16).all (chkCon2 kMt aCT aLT 138) = true := by decide +kernel
theorem ak22 : (List.range' 208 16).all (chkCon2 kMt aCT aLT 138) = true := by decide +kernel
theorem ak23 : (List.range' 224 16).all (chkCon2 kMt aCT aLT 138) = true := by decide +kernel
theorem ak24 : (List.range' 240 16).all (chkCon2 kMt aCT aLT 138) = true := by decide +kernel
theorem ak25 : (List.range' 256 16).all (chkCon2 kMt aCT aLT 138) = true := by decide +kernel
theorem ak26 : (List.range' 272 16).all (chkCon2 kMt aCT aLT 138) = true := by decide +kernel
theorem ak27 : (List.range' 288 7).all (chkCon2 kMt aCT aLT 138) = true := by decide +kernel
