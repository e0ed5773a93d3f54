/-! the contracts are checked: laid by wip/gen/emit61.py -/
set_option maxRecDepth 100000
theorem ak11 : (List.range' 134 16).all (chkCon2 kMt aCT aLT 138) = true := by decide +kernel
theorem ak12 : (List.range' 150 11).all (chkCon2 kMt aCT aLT 138) = true := by decide +kernel
