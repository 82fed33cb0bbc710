/-! THE START, I: the words that the start stands on have their places. -/
def st_p : List (Nat × Nat) := [(0, 1), (0, 2), (1, 0), (1, 2), (2, 0), (2, 1)]
def st_f1 : List Cond := qTX.map (fun q => Cond.exactly (.string q.1 q.2.1) "java/lang/String")
def st_f2 : List Cond := st_p.map (fun q => Cond.not (.castable (q_en q.1) (q_en q.2)))
def st_tm (a : Nat) : Term := .static (q_zc a) (q_zn a) (q_zd a)
def st_f3 : List Cond := [.isRef (.static Bundle.tN "UNASSIGNED_STACK" Bundle.steD), .isRef (.static Bundle.tN "SUPPRESSED_SENTINEL" Bundle.listD), .arrayOf (st_tm 1) (q_zt 1), .arrayOf (st_tm 2) (q_zt 2), .arrayOf (st_tm 3) (q_zt 3), .eq (.length (st_tm 1)) (.int 0), .eq (.length (st_tm 2)) (.int 24), .eq (.length (st_tm 3)) (.int 24)]
def st_f4 : List Cond := (List.range 24).map (fun j => Cond.eq (.elem (st_tm 2) (.int (Int32.ofNat j))) (.int (q_ta.getD j 0)))
def st_f5 : List Cond := (List.range 24).map (fun j => Cond.eq (.elem (st_tm 3) (.int (Int32.ofNat j))) (.int (q_tb.getD j 0)))
set_option maxRecDepth 20000 in
theorem st_n1 : ∀ w ∈ st_f1, w ∈ flatC (Jvm.Cond.and given_1 narrow_1) := q_inp [185, 201, 220, 246, 267, 321, 337, 374, 401, 427, 445, 472, 508, 523, 539, 566, 593, 614, 634, 668, 685, 709, 733, 751, 767, 787, 812, 831, 847, 901, 927, 955, 980, 1017, 1058, 1078, 1102] (by decide +kernel)
set_option maxRecDepth 20000 in
theorem st_n2 : ∀ w ∈ st_f2, w ∈ flatC (Jvm.Cond.and given_1 narrow_1) := q_inp [90, 106, 74, 107, 75, 91] (by decide +kernel)
set_option maxRecDepth 20000 in
theorem st_n3 : ∀ w ∈ st_f3, w ∈ flatC (Jvm.Cond.and given_1 narrow_1) := q_inp [8, 9, 5, 11, 38, 7, 12, 39] (by decide +kernel)
set_option maxRecDepth 20000 in
theorem st_n4 : ∀ w ∈ st_f4, w ∈ flatC (Jvm.Cond.and given_1 narrow_1) := q_inp [13, 14, 15, 16, 17, 18, 19, 20, 21, 22, 23, 24, 25, 26, 27, 28, 29, 30, 31, 32, 33, 34, 35, 36] (by decide +kernel)
set_option maxRecDepth 20000 in
theorem st_n5 : ∀ w ∈ st_f5, w ∈ flatC (Jvm.Cond.and given_1 narrow_1) := q_inp [40, 41, 42, 43, 44, 45, 46, 47, 48, 49, 50, 51, 52, 53, 54, 55, 56, 57, 58, 59, 60, 61, 62, 63] (by decide +kernel)
def st_w1 : List Cond := qTX.map (fun q => Cond.stringRef q.1 q.2.1 q.2.2)
set_option maxRecDepth 20000 in
theorem st_t1 : ∀ w ∈ st_w1, w ∈ lw_tbl := q_inp [617, 657, 664, 674, 697, 777, 778, 779, 787, 799, 804, 809, 940, 959, 964, 972, 1283, 1303, 1304, 1327, 1339, 1347, 1359, 1431, 1604, 1637, 1689, 1708, 1709, 1742, 1751, 1764, 1772, 1773, 1827, 1835, 1847] (by decide +kernel)
def st_w2 : List Cond := [.castable (q_en 0) (q_en 0), .castable (q_en 1) (q_en 1), .castable (q_en 2) (q_en 2), .declares (Bundle.initS "java/lang/RuntimeException"), .declares (Bundle.initS "java/lang/Exception"), .declares (Bundle.initS "java/lang/Throwable"), .arrayOver (q_ty 103), .arrayOver (q_ty 104), .arrayOver (q_ty 105), .arrayOver (q_ty 106), .arrayOver (q_ty 107), .arrayOver (q_ty 108)]
set_option maxRecDepth 20000 in
theorem st_t2 : ∀ w ∈ st_w2, w ∈ lw_tbl := q_inp [578, 650, 667, 580, 582, 584, 266, 202, 268, 200, 756, 236] (by decide +kernel)
def st_w3 : List Cond := q_NL.map (fun q => Cond.methodLinkNest q.1 q.2.1 q.2.2 "DurableLoom")
set_option maxRecDepth 20000 in
theorem st_t3 : ∀ w ∈ st_w3, w ∈ lw_tbl := q_inp [231, 255, 269, 271, 382, 452, 459, 474, 829] (by decide +kernel)
def st_w4 : List Cond := [.laysStatic (q_zc 1) (q_zn 1) (q_zd 1), .laysStatic (q_zc 2) (q_zn 2) (q_zd 2), .laysStatic (q_zc 3) (q_zn 3) (q_zd 3), .laysStatic Bundle.tN "UNASSIGNED_STACK" Bundle.steD, .laysStatic Bundle.tN "SUPPRESSED_SENTINEL" Bundle.listD, .initialized "java/util/ArrayList", .initialized "DurableLoom", .initialized Bundle.tN]
set_option maxRecDepth 20000 in
theorem st_t4 : ∀ w ∈ st_w4, w ∈ lw_tbl := q_inp [216, 645, 647, 603, 605, 166, 163, 175] (by decide +kernel)
def st_w5 : List Cond := vwCl.map (fun q => Cond.instantiable q.1 q.2.2)
set_option maxRecDepth 20000 in
theorem st_t5 : ∀ w ∈ st_w5, w ∈ lw_tbl := q_inp [204, 1467, 270, 380, 473, 254, 230, 822, 1774, 260, 1390, 451, 192, 1863] (by decide +kernel)
