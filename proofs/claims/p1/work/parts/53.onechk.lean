/-! the contracts are checked: laid by wip/gen/emit_one.py -/
set_option maxRecDepth 100000
theorem ok0 : (List.range' 4 16).all (chkCon kMt oCT oLT 9999) = true := by decide +kernel
theorem ok1 : (List.range' 20 16).all (chkCon kMt oCT oLT 9999) = true := by decide +kernel
theorem ok2 : (List.range' 36 16).all (chkCon kMt oCT oLT 9999) = true := by decide +kernel
theorem ok3 : (List.range' 52 16).all (chkCon kMt oCT oLT 9999) = true := by decide +kernel
theorem ok4 : (List.range' 68 16).all (chkCon kMt oCT oLT 9999) = true := by decide +kernel
theorem ok5 : (List.range' 84 16).all (chkCon kMt oCT oLT 9999) = true := by decide +kernel
theorem ok6 : (List.range' 100 16).all (chkCon kMt oCT oLT 9999) = true := by decide +kernel
theorem ok7 : (List.range' 116 16).all (chkCon kMt oCT oLT 9999) = true := by decide +kernel
theorem ok8 : (List.range' 132 16).all (chkCon kMt oCT oLT 9999) = true := by decide +kernel
theorem ok9 : (List.range' 148 16).all (chkCon kMt oCT oLT 9999) = true := by decide +kernel
theorem ok10 : (List.range' 164 16).all (chkCon kMt oCT oLT 9999) = true := by decide +kernel
theorem ok11 : (List.range' 180 16).all (chkCon kMt oCT oLT 9999) = true := by decide +kernel
theorem ok12 : (List.range' 196 16).all (chkCon kMt oCT oLT 9999) = true := by decide +kernel
theorem ok13 : (List.range' 212 16).all (chkCon kMt oCT oLT 9999) = true := by decide +kernel
theorem ok14 : (List.range' 228 16).all (chkCon kMt oCT oLT 9999) = true := by decide +kernel
theorem ok15 : (List.range' 244 16).all (chkCon kMt oCT oLT 9999) = true := by decide +kernel
theorem ok16 : (List.range' 260 15).all (chkCon kMt oCT oLT 9999) = true := by decide +kernel
def oTop : List (List (Nat × Nat)) := [[(9, 10)], [(11, 13)], [(57, 61)], [(62, 63), (64, 65), (66, 67), (68, 69)], [(71, 73)], [(75, 76)], [(78, 80)], [(82, 84)], [(87, 90)], [(92, 94)], [(95, 96)], [(97, 98)], [(99, 100)], [(102, 104)], [(105, 106)], [(108, 111)], [(112, 113)], [(114, 115)], [(116, 117)], [(118, 119)], [(120, 121)], [(122, 123)], [(124, 125)], [(126, 127)], [(128, 129)], [(130, 131)], [(132, 133)], [(134, 135)], [(136, 137)], [(138, 139)], [(140, 141)], [(142, 143)], [(144, 145)], [(146, 147)], [(148, 149)], [(150, 151)], [(152, 153)], [(154, 155)], [(156, 157)], [(158, 159)], [(160, 161)], [(162, 163)], [(164, 165)], [(166, 183)], [(185, 188)], [(189, 190)], [(191, 192)], [(212, 213)], [(214, 215)], [(216, 217)], [(218, 219)], [(220, 221)], [(222, 223)], [(224, 225)], [(226, 227)], [(228, 229)], [(230, 232)], [(233, 234)], [(236, 237)], [(261, 262)], [(263, 264)], [(269, 270)], [(271, 272)], [(273, 274)]]
