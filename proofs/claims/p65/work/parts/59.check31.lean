/-! the contracts are checked: laid by wip/gen/emit65.py -/
set_option maxRecDepth 100000
theorem ak65 : (List.range' 708 16).all (chkCon2 kMt aCT aLT 138) = true := by decide +kernel
theorem ak66 : (List.range' 724 16).all (chkCon2 kMt aCT aLT 138) = true := by decide +kernel
theorem ak67 : (List.range' 740 16).all (chkCon2 kMt aCT aLT 138) = true := by decide +kernel
theorem ak68 : (List.range' 756 16).all (chkCon2 kMt aCT aLT 138) = true := by decide +kernel
theorem ak69 : (List.range' 772 16).all (chkCon2 kMt aCT aLT 138) = true := by decide +kernel
theorem ak70 : (List.range' 788 16).all (chkCon2 kMt aCT aLT 138) = true := by decide +kernel
theorem ak71 : (List.range' 804 16).all (chkCon2 kMt aCT aLT 138) = true := by decide +kernel
theorem ak72 : (List.range' 820 16).all (chkCon2 kMt aCT aLT 138) = true := by decide +kernel
