/-! the contracts are checked: laid by wip/gen/emit61.py -/
set_option maxRecDepth 100000
theorem ak53 : (List.range' 560 16).all (chkCon2 kMt aCT aLT 138) = true := by decide +kernel
theorem ak54 : (List.range' 576 1).all (chkCon2 kMt aCT aLT 138) = true := by decide +kernel
