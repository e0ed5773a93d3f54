/-! the contracts are checked: laid by wip/gen/emit61.py -/
set_option maxRecDepth 100000
theorem ak28 : (List.range' 295 1).all (chkCon2 kMt aCT aLT 138) = true := by decide +kernel
