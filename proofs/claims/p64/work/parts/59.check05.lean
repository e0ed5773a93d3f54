/-! the contracts are checked: laid by wip/gen/emit61.py -/
set_option maxRecDepth 100000
theorem ak7 : (List.range' 98 16).all (chkCon2 kMt aCT aLT 138) = true := by decide +kernel
theorem ak8 : (List.range' 114 16).all (chkCon2 kMt aCT aLT 138) = true := by decide +kernel
theorem ak9 : (List.range' 130 3).all (chkCon2 kMt aCT aLT 138) = true := by decide +kernel
