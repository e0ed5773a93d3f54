/-! the contracts are checked: laid by wip/gen/emit61.py -/
set_option maxRecDepth 100000
theorem ak16 : (List.range' 165 9).all (chkCon2 kMt aCT aLT 138) = true := by decide +kernel
