/-! the contracts are checked: laid by wip/gen/emit61.py -/
set_option maxRecDepth 100000
theorem ak20 : (List.range' 191 1).all (chkCon2 kMt aCT aLT 138) = true := by decide +kernel
