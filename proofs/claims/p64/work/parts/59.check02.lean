/-! the contracts are checked: laid by wip/gen/emit61.py -/
set_option maxRecDepth 100000
theorem ak4 : (List.range' 87 1).all (chkCon2 kMt aCT aLT 138) = true := by decide +kernel
