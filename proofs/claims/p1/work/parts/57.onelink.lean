/-! the table of contracts is kept: laid by wip/gen/emit_one.py -/
set_option maxRecDepth 100000
def oL0 : List tL := [(11, 103, 55, 0, 1), (12, 76, 167, 1, 3), (9, 25, 60, 0, 1), (9, 29, 61, 1, 1), (9, 36, 62, 1, 1), (9, 22, 57, 0, 0), (5, 22, 63, 0, 0), (5, 30, 56, 0, 0)]
theorem oL0_ok : oL0.all (chkL kMt ownN) = true := by decide +kernel
def oL1 : List tL := [(5, 36, 23, 0, 1), (11, 350, 165, 1, 4), (10, 51, 166, 3, 2), (10, 55, 163, 3, 2), (11, 203, 163, 1, 2), (8, 62, 164, 3, 3), (8, 51, 46, 0, 2), (8, 54, 163, 3, 2)]
theorem oL1_ok : oL1.all (chkL kMt ownN) = true := by decide +kernel
def oL2 : List tL := [(8, 86, 162, 3, 2), (8, 75, 50, 0, 2), (8, 83, 51, 0, 2), (8, 79, 49, 0, 3), (8, 27, 45, 0, 2), (8, 31, 47, 0, 1), (8, 35, 48, 0, 2), (11, 419, 44, 0, 2)]
theorem oL2_ok : oL2.all (chkL kMt ownN) = true := by decide +kernel
def oL3 : List tL := [(11, 107, 22, 0, 1), (11, 111, 64, 0, 1), (11, 115, 154, 0, 0), (12, 93, 183, 0, 1), (12, 115, 9001, 5, 0), (12, 141, 184, 0, 0), (12, 124, 185, 0, 0), (12, 200, 197, 0, 0)]
theorem oL3_ok : oL3.all (chkL kMt ownN) = true := by decide +kernel
def oL4 : List tL := [(11, 127, 145, 0, 1), (11, 135, 164, 1, 3), (12, 203, 177, 0, 1), (12, 209, 178, 0, 2), (11, 139, 146, 0, 1), (12, 212, 179, 0, 2), (11, 145, 147, 0, 1), (12, 215, 201, 0, 1)]
theorem oL4_ok : oL4.all (chkL kMt ownN) = true := by decide +kernel
def oL5 : List tL := [(12, 219, 180, 0, 2), (11, 151, 141, 0, 1), (11, 154, 143, 0, 1), (11, 157, 67, 0, 2), (12, 232, 175, 0, 1), (12, 235, 176, 0, 1), (12, 222, 203, 0, 2), (11, 411, 65, 0, 0)]
theorem oL5_ok : oL5.all (chkL kMt ownN) = true := by decide +kernel
def oL6 : List tL := [(11, 161, 142, 0, 1), (11, 164, 68, 0, 2), (12, 80, 173, 0, 0), (12, 238, 174, 0, 1), (12, 225, 204, 0, 2), (11, 167, 52, 0, 1), (12, 241, 207, 0, 1), (11, 171, 157, 0, 1)]
theorem oL6_ok : oL6.all (chkL kMt ownN) = true := by decide +kernel
def oL7 : List tL := [(12, 244, 211, 0, 0), (11, 177, 69, 0, 2), (12, 250, 214, 0, 2), (11, 180, 140, 0, 0), (11, 187, 306, 1, 1), (12, 253, 172, 0, 0), (12, 256, 168, 1, 1), (12, 265, 219, 0, 1)]
theorem oL7_ok : oL7.all (chkL kMt ownN) = true := by decide +kernel
def oL8 : List tL := [(11, 195, 148, 0, 2), (11, 207, 162, 1, 2), (12, 268, 222, 0, 2), (12, 272, 220, 0, 2), (11, 213, 155, 0, 0), (12, 312, 231, 0, 2), (11, 228, 21, 0, 3), (12, 315, 236, 0, 1)]
theorem oL8_ok : oL8.all (chkL kMt ownN) = true := by decide +kernel
def oL9 : List tL := [(11, 232, 34, 0, 1), (11, 235, 36, 0, 2), (11, 239, 9000, 5, 0), (11, 244, 156, 0, 1), (12, 318, 241, 0, 1), (11, 250, 35, 0, 1), (11, 253, 53, 0, 1), (12, 290, 225, 0, 0)]
theorem oL9_ok : oL9.all (chkL kMt ownN) = true := by decide +kernel
def oL10 : List tL := [(12, 321, 169, 1, 2), (12, 259, 218, 0, 1), (12, 299, 9000, 5, 0), (11, 256, 9, 0, 2), (12, 333, 249, 0, 1), (12, 327, 248, 0, 0), (12, 330, 247, 0, 2), (12, 337, 9002, 5, 0)]
theorem oL10_ok : oL10.all (chkL kMt ownN) = true := by decide +kernel
def oL11 : List tL := [(12, 337, 9003, 5, 0), (11, 278, 70, 0, 2), (11, 281, 159, 1, 4), (12, 342, 255, 0, 5), (11, 285, 71, 0, 1), (12, 346, 257, 0, 1), (11, 291, 50, 0, 2), (12, 228, 205, 0, 2)]
theorem oL11_ok : oL11.all (chkL kMt ownN) = true := by decide +kernel
def oL12 : List tL := [(11, 294, 14, 0, 4), (12, 372, 267, 0, 1), (11, 298, 160, 1, 3), (12, 351, 261, 0, 2), (11, 301, 153, 0, 1), (11, 304, 3, 0, 3), (12, 375, 301, 1, 1), (12, 378, 272, 0, 2)]
theorem oL12_ok : oL12.all (chkL kMt ownN) = true := by decide +kernel
def oL13 : List tL := [(12, 390, 273, 0, 2), (12, 394, 276, 0, 2), (11, 307, 144, 0, 1), (11, 310, 4, 0, 3), (12, 397, 278, 0, 1), (11, 313, 5, 0, 3), (12, 386, 275, 0, 3), (11, 316, 150, 0, 1)]
theorem oL13_ok : oL13.all (chkL kMt ownN) = true := by decide +kernel
def oL14 : List tL := [(11, 388, 39, 0, 0), (0, 18, 1, 0, 0), (0, 27, 43, 0, 1), (0, 31, 2, 0, 2), (11, 343, 152, 0, 1), (11, 347, 43, 0, 1), (11, 415, 0, 0, 1), (11, 320, 7, 0, 2)]
theorem oL14_ok : oL14.all (chkL kMt ownN) = true := by decide +kernel
def oL15 : List tL := [(12, 262, 206, 0, 2), (12, 382, 274, 0, 4), (11, 324, 74, 0, 0), (11, 328, 54, 0, 2), (11, 331, 75, 0, 1), (11, 334, 161, 1, 1), (11, 337, 73, 0, 1), (12, 400, 283, 0, 0)]
theorem oL15_ok : oL15.all (chkL kMt ownN) = true := by decide +kernel
def oL16 : List tL := [(12, 403, 286, 0, 2), (12, 406, 285, 0, 0), (12, 409, 284, 0, 0), (12, 308, 230, 0, 2), (11, 358, 149, 1, 1), (11, 361, 8, 0, 3), (12, 430, 296, 1, 1), (12, 433, 294, 0, 1)]
theorem oL16_ok : oL16.all (chkL kMt ownN) = true := by decide +kernel
def oL17 : List tL := [(12, 437, 295, 0, 0), (11, 377, 158, 0, 0), (11, 380, 151, 0, 1), (7, 22, 9001, 5, 0), (11, 384, 40, 0, 2), (11, 395, 41, 0, 1), (12, 446, 302, 1, 2), (11, 402, 42, 0, 2)]
theorem oL17_ok : oL17.all (chkL kMt ownN) = true := by decide +kernel
def oL18 : List tL := [(11, 405, 9999, 4, 5)]
theorem oL18_ok : oL18.all (chkL kMt ownN) = true := by decide +kernel
theorem all_app {α : Type} {f : α → Bool} {a b : List α} (ha : a.all f = true) (hb : b.all f = true) : (a ++ b).all f = true := by rw [List.all_append, ha, hb]; rfl
theorem oLT_eq : oLT = oL0 ++ (oL1 ++ (oL2 ++ (oL3 ++ (oL4 ++ (oL5 ++ (oL6 ++ (oL7 ++ (oL8 ++ (oL9 ++ (oL10 ++ (oL11 ++ (oL12 ++ (oL13 ++ (oL14 ++ (oL15 ++ (oL16 ++ (oL17 ++ (oL18)))))))))))))))))) := rfl
theorem oLT_ok : oLT.all (chkL kMt ownN) = true := by rw [oLT_eq]; exact all_app oL0_ok (all_app oL1_ok (all_app oL2_ok (all_app oL3_ok (all_app oL4_ok (all_app oL5_ok (all_app oL6_ok (all_app oL7_ok (all_app oL8_ok (all_app oL9_ok (all_app oL10_ok (all_app oL11_ok (all_app oL12_ok (all_app oL13_ok (all_app oL14_ok (all_app oL15_ok (all_app oL16_ok (all_app oL17_ok (oL18_ok))))))))))))))))))
