/-! the contracts are checked: laid by wip/gen/emit61.py -/
set_option maxRecDepth 100000
theorem ak14 : (List.range' 162 2).all (chkCon2 kMt aCT aLT 138) = true := by decide +kernel
