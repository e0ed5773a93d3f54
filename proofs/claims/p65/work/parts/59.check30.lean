/-! the contracts are checked: laid by wip/gen/emit65.py -/
set_option maxRecDepth 100000
theorem ak56 : (List.range' 578 1).all (chkCon2 kMt aCT aLT 138) = true := by decide +kernel
theorem ak57 : (List.range' 580 16).all (chkCon2 kMt aCT aLT 138) = true := by decide +kernel
theorem ak58 : (List.range' 596 16).all (chkCon2 kMt aCT aLT 138) = true := by decide +kernel
theorem ak59 : (List.range' 612 16).all (chkCon2 kMt aCT aLT 138) = true := by decide +kernel
theorem ak60 : (List.range' 628 16).all (chkCon2 kMt aCT aLT 138) = true := by decide +kernel
theorem ak61 : (List.range' 644 16).all (chkCon2 kMt aCT aLT 138) = true := by decide +kernel
theorem ak62 : (List.range' 660 16).all (chkCon2 kMt aCT aLT 138) = true := by decide +kernel
theorem ak63 : (List.range' 676 16).all (chkCon2 kMt aCT aLT 138) = true := by decide +kernel
theorem ak64 : (List.range' 692 16).all (chkCon2 kMt aCT aLT 138) = true := by decide +kernel
