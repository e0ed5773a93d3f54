/-! the contracts are checked: laid by wip/gen/emit61.py -/
set_option maxRecDepth 100000
theorem ak55 : (List.range' 577 1).all (chkCon2 kMt aCT aLT 138) = true := by decide +kernel
