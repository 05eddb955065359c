theorem dX4_checkSides_14 : decode cX4_checkSides 14 = .ok (.iload_n 2, 1) := by decide +kernel
theorem dX4_checkSides_15 : decode cX4_checkSides 15 = .ok (.invokestatic 157, 3) := by decide +kernel
theorem dX4_checkSides_18 : decode cX4_checkSides 18 = .ok (.ifCond .eq 20, 3) := by decide +kernel
theorem dX4_checkSides_21 : decode cX4_checkSides 21 = .ok (.iload_n 3, 1) := by decide +kernel
theorem dX4_checkSides_22 : decode cX4_checkSides 22 = .ok (.invokestatic 157, 3) := by decide +kernel
theorem dX4_checkSides_25 : decode cX4_checkSides 25 = .ok (.ifCond .eq 13, 3) := by decide +kernel
theorem dX4_checkSides_28 : decode cX4_checkSides 28 = .ok (.iload_n 0, 1) := by decide +kernel
theorem dX4_checkSides_29 : decode cX4_checkSides 29 = .ok (.iload_n 2, 1) := by decide +kernel
theorem dX4_checkSides_30 : decode cX4_checkSides 30 = .ok (.if_icmp .gt 8, 3) := by decide +kernel
theorem dX4_checkSides_33 : decode cX4_checkSides 33 = .ok (.iload_n 1, 1) := by decide +kernel
theorem dX4_checkSides_34 : decode cX4_checkSides 34 = .ok (.iload_n 3, 1) := by decide +kernel
theorem dX4_checkSides_35 : decode cX4_checkSides 35 = .ok (.if_icmp .le 13, 3) := by decide +kernel
theorem dX4_checkSides_38 : decode cX4_checkSides 38 = .ok (.new 160, 3) := by decide +kernel
theorem dX4_checkSides_41 : decode cX4_checkSides 41 = .ok (.dup, 1) := by decide +kernel
theorem dX4_checkSides_42 : decode cX4_checkSides 42 = .ok (.ldc 165, 2) := by decide +kernel
theorem dX4_checkSides_44 : decode cX4_checkSides 44 = .ok (.invokespecial 164, 3) := by decide +kernel
theorem dX4_checkSides_47 : decode cX4_checkSides 47 = .ok (.athrow, 1) := by decide +kernel
theorem dX4_checkSides_48 : decode cX4_checkSides 48 = .ok (.return_, 1) := by decide +kernel
theorem dX4_checkSide_0 : decode cX4_checkSide 0 = .ok (.iload_n 0, 1) := by decide +kernel
theorem dX4_checkSide_1 : decode cX4_checkSide 1 = .ok (.ifCond .lt 8, 3) := by decide +kernel
theorem dX4_checkSide_4 : decode cX4_checkSide 4 = .ok (.iload_n 0, 1) := by decide +kernel
theorem dX4_checkSide_5 : decode cX4_checkSide 5 = .ok (.iconst 3, 1) := by decide +kernel
theorem dX4_checkSide_6 : decode cX4_checkSide 6 = .ok (.if_icmp .le 13, 3) := by decide +kernel
theorem dX4_checkSide_9 : decode cX4_checkSide 9 = .ok (.new 160, 3) := by decide +kernel
theorem dX4_checkSide_12 : decode cX4_checkSide 12 = .ok (.dup, 1) := by decide +kernel
theorem dX4_checkSide_13 : decode cX4_checkSide 13 = .ok (.ldc 167, 2) := by decide +kernel
theorem dX4_checkSide_15 : decode cX4_checkSide 15 = .ok (.invokespecial 164, 3) := by decide +kernel
theorem dX4_checkSide_18 : decode cX4_checkSide 18 = .ok (.athrow, 1) := by decide +kernel
theorem dX4_checkSide_19 : decode cX4_checkSide 19 = .ok (.return_, 1) := by decide +kernel
set_option maxRecDepth 20000 in
theorem ggX4_checkBox_X2_has : GoodIn wsX4_checkBox wsX2_has := goodIn_r _ [8, 9, 13, 14, 15, 16, 17, 18] (by decide +kernel) (by decide +kernel)
set_option maxRecDepth 20000 in
theorem gX4_checkBox_X2_has : GoodIn wsX4_checkBox (wsV RX4 169 RX2 yX2_has wsX2_has) := goodIn_app (goodIn_of _ (by decide +kernel)) ggX4_checkBox_X2_has
theorem dX4_checkBox_0 : decode cX4_checkBox 0 = .ok (.aload_n 0, 1) := by decide +kernel
theorem dX4_checkBox_1 : decode cX4_checkBox 1 = .ok (.getfield 16, 3) := by decide +kernel
theorem dX4_checkBox_4 : decode cX4_checkBox 4 = .ok (.iload_n 1, 1) := by decide +kernel
theorem dX4_checkBox_5 : decode cX4_checkBox 5 = .ok (.invokevirtual 169, 3) := by decide +kernel
theorem dX4_checkBox_8 : decode cX4_checkBox 8 = .ok (.ifCond .ne 13, 3) := by decide +kernel
theorem dX4_checkBox_11 : decode cX4_checkBox 11 = .ok (.new 107, 3) := by decide +kernel
theorem dX4_checkBox_14 : decode cX4_checkBox 14 = .ok (.dup, 1) := by decide +kernel
theorem dX4_checkBox_15 : decode cX4_checkBox 15 = .ok (.ldc 172, 2) := by decide +kernel
theorem dX4_checkBox_17 : decode cX4_checkBox 17 = .ok (.invokespecial 111, 3) := by decide +kernel
theorem dX4_checkBox_20 : decode cX4_checkBox 20 = .ok (.athrow, 1) := by decide +kernel
theorem dX4_checkBox_21 : decode cX4_checkBox 21 = .ok (.return_, 1) := by decide +kernel
set_option maxRecDepth 20000 in
theorem ggX4_checkNode_X3_hasNode : GoodIn wsX4_checkNode wsX3_hasNode := goodIn_r _ [8, 9, 10, 14, 15, 16] (by decide +kernel) (by decide +kernel)
set_option maxRecDepth 20000 in
theorem gX4_checkNode_X3_hasNode : GoodIn wsX4_checkNode (wsV RX4 174 RX3 yX3_hasNode wsX3_hasNode) := goodIn_app (goodIn_of _ (by decide +kernel)) ggX4_checkNode_X3_hasNode
theorem dX4_checkNode_0 : decode cX4_checkNode 0 = .ok (.aload_n 0, 1) := by decide +kernel
theorem dX4_checkNode_1 : decode cX4_checkNode 1 = .ok (.getfield 23, 3) := by decide +kernel
theorem dX4_checkNode_4 : decode cX4_checkNode 4 = .ok (.iload_n 1, 1) := by decide +kernel
theorem dX4_checkNode_5 : decode cX4_checkNode 5 = .ok (.iload_n 2, 1) := by decide +kernel
theorem dX4_checkNode_6 : decode cX4_checkNode 6 = .ok (.invokevirtual 174, 3) := by decide +kernel
theorem dX4_checkNode_9 : decode cX4_checkNode 9 = .ok (.ifCond .ne 13, 3) := by decide +kernel
theorem dX4_checkNode_12 : decode cX4_checkNode 12 = .ok (.new 107, 3) := by decide +kernel
theorem dX4_checkNode_15 : decode cX4_checkNode 15 = .ok (.dup, 1) := by decide +kernel
theorem dX4_checkNode_16 : decode cX4_checkNode 16 = .ok (.ldc 177, 2) := by decide +kernel
theorem dX4_checkNode_18 : decode cX4_checkNode 18 = .ok (.invokespecial 111, 3) := by decide +kernel
theorem dX4_checkNode_21 : decode cX4_checkNode 21 = .ok (.athrow, 1) := by decide +kernel
theorem dX4_checkNode_22 : decode cX4_checkNode 22 = .ok (.return_, 1) := by decide +kernel
set_option maxRecDepth 20000 in
theorem ggX4_coverOf_X3_boxesBefore : GoodIn wsX4_coverOf wsX3_boxesBefore := goodIn_r _ [7, 8, 9, 10, 6, 11, 12, 13, 14, 15, 16, 17, 18, 19, 20, 21, 22, 23, 24, 25, 26, 63, 64, 65] (by decide +kernel) (by decide +kernel)
set_option maxRecDepth 20000 in
theorem gX4_coverOf_X3_boxesBefore : GoodIn wsX4_coverOf (wsV RX4 179 RX3 yX3_boxesBefore wsX3_boxesBefore) := goodIn_app (goodIn_of _ (by decide +kernel)) ggX4_coverOf_X3_boxesBefore
set_option maxRecDepth 20000 in
theorem ggX4_coverOf_X2_areaAt : GoodIn wsX4_coverOf wsX2_areaAt := goodIn_r _ [31, 32, 33, 34, 30, 35, 36, 37, 38, 39, 40, 41, 42, 66, 67, 68, 69, 70, 71] (by decide +kernel) (by decide +kernel)
set_option maxRecDepth 20000 in
theorem gX4_coverOf_X2_areaAt : GoodIn wsX4_coverOf (wsV RX4 134 RX2 yX2_areaAt wsX2_areaAt) := goodIn_app (goodIn_of _ (by decide +kernel)) ggX4_coverOf_X2_areaAt
set_option maxRecDepth 20000 in
theorem ggX4_coverOf_X0_around : GoodIn wsX4_coverOf wsX0_around := goodIn_r _ [46, 47, 48, 49, 50, 51, 52, 53, 54, 55, 45, 56, 57, 58, 59] (by decide +kernel) (by decide +kernel)
set_option maxRecDepth 20000 in
theorem gX4_coverOf_X0_around : GoodIn wsX4_coverOf (va_wsS RX4 182 yX0_around wsX0_around) := goodIn_app (goodIn_of _ (by decide +kernel)) ggX4_coverOf_X0_around
theorem dX4_coverOf_0 : decode cX4_coverOf 0 = .ok (.aload_n 0, 1) := by decide +kernel
theorem dX4_coverOf_1 : decode cX4_coverOf 1 = .ok (.getfield 23, 3) := by decide +kernel
theorem dX4_coverOf_4 : decode cX4_coverOf 4 = .ok (.iload_n 1, 1) := by decide +kernel
theorem dX4_coverOf_5 : decode cX4_coverOf 5 = .ok (.iload_n 2, 1) := by decide +kernel
theorem dX4_coverOf_6 : decode cX4_coverOf 6 = .ok (.invokevirtual 179, 3) := by decide +kernel
theorem dX4_coverOf_9 : decode cX4_coverOf 9 = .ok (.istore_n 3, 1) := by decide +kernel
theorem dX4_coverOf_10 : decode cX4_coverOf 10 = .ok (.aload_n 0, 1) := by decide +kernel
theorem dX4_coverOf_11 : decode cX4_coverOf 11 = .ok (.getfield 23, 3) := by decide +kernel
theorem dX4_coverOf_14 : decode cX4_coverOf 14 = .ok (.iload_n 1, 1) := by decide +kernel
theorem dX4_coverOf_15 : decode cX4_coverOf 15 = .ok (.iload_n 2, 1) := by decide +kernel
theorem dX4_coverOf_16 : decode cX4_coverOf 16 = .ok (.iconst 1, 1) := by decide +kernel
theorem dX4_coverOf_17 : decode cX4_coverOf 17 = .ok (.iadd, 1) := by decide +kernel
theorem dX4_coverOf_18 : decode cX4_coverOf 18 = .ok (.invokevirtual 179, 3) := by decide +kernel
theorem dX4_coverOf_21 : decode cX4_coverOf 21 = .ok (.istore 4, 2) := by decide +kernel
theorem dX4_coverOf_23 : decode cX4_coverOf 23 = .ok (.aload_n 0, 1) := by decide +kernel
theorem dX4_coverOf_24 : decode cX4_coverOf 24 = .ok (.getfield 16, 3) := by decide +kernel
theorem dX4_coverOf_27 : decode cX4_coverOf 27 = .ok (.iload_n 3, 1) := by decide +kernel
theorem dX4_coverOf_28 : decode cX4_coverOf 28 = .ok (.invokevirtual 134, 3) := by decide +kernel
theorem dX4_coverOf_31 : decode cX4_coverOf 31 = .ok (.istore 5, 2) := by decide +kernel
theorem dX4_coverOf_33 : decode cX4_coverOf 33 = .ok (.iload_n 3, 1) := by decide +kernel
theorem dX4_coverOf_34 : decode cX4_coverOf 34 = .ok (.iconst 1, 1) := by decide +kernel
theorem dX4_coverOf_35 : decode cX4_coverOf 35 = .ok (.iadd, 1) := by decide +kernel
theorem dX4_coverOf_36 : decode cX4_coverOf 36 = .ok (.istore 6, 2) := by decide +kernel
theorem dX4_coverOf_38 : decode cX4_coverOf 38 = .ok (.iload 6, 2) := by decide +kernel
theorem dX4_coverOf_40 : decode cX4_coverOf 40 = .ok (.iload 4, 2) := by decide +kernel
theorem dX4_coverOf_42 : decode cX4_coverOf 42 = .ok (.if_icmp .ge 25, 3) := by decide +kernel
theorem dX4_coverOf_45 : decode cX4_coverOf 45 = .ok (.iload 5, 2) := by decide +kernel
theorem dX4_coverOf_47 : decode cX4_coverOf 47 = .ok (.aload_n 0, 1) := by decide +kernel
theorem dX4_coverOf_48 : decode cX4_coverOf 48 = .ok (.getfield 16, 3) := by decide +kernel
theorem dX4_coverOf_51 : decode cX4_coverOf 51 = .ok (.iload 6, 2) := by decide +kernel
theorem dX4_coverOf_53 : decode cX4_coverOf 53 = .ok (.invokevirtual 134, 3) := by decide +kernel
theorem dX4_coverOf_56 : decode cX4_coverOf 56 = .ok (.invokestatic 182, 3) := by decide +kernel
theorem dX4_coverOf_59 : decode cX4_coverOf 59 = .ok (.istore 5, 2) := by decide +kernel
theorem dX4_coverOf_61 : decode cX4_coverOf 61 = .ok (.iinc 6 1, 3) := by decide +kernel
theorem dX4_coverOf_64 : decode cX4_coverOf 64 = .ok (.goto (-26), 3) := by decide +kernel
theorem dX4_coverOf_67 : decode cX4_coverOf 67 = .ok (.iload 5, 2) := by decide +kernel
theorem dX4_coverOf_69 : decode cX4_coverOf 69 = .ok (.ireturn, 1) := by decide +kernel
set_option maxRecDepth 20000 in
theorem ggX4_rankByDistance_X2_size : GoodIn wsX4_rankByDistance wsX2_size := goodIn_r _ [7, 8, 41, 42, 43, 44, 45, 46] (by decide +kernel) (by decide +kernel)
set_option maxRecDepth 20000 in
theorem gX4_rankByDistance_X2_size : GoodIn wsX4_rankByDistance (wsV RX4 68 RX2 yX2_size wsX2_size) := goodIn_app (goodIn_of _ (by decide +kernel)) ggX4_rankByDistance_X2_size
set_option maxRecDepth 20000 in
theorem ggX4_rankByDistance_X2_areaAt : GoodIn wsX4_rankByDistance wsX2_areaAt := goodIn_r _ [12, 13, 14, 15, 6, 16, 17, 8, 18, 19, 20, 21, 22, 41, 42, 43, 44, 45, 46] (by decide +kernel) (by decide +kernel)
set_option maxRecDepth 20000 in
theorem gX4_rankByDistance_X2_areaAt : GoodIn wsX4_rankByDistance (wsV RX4 134 RX2 yX2_areaAt wsX2_areaAt) := goodIn_app (goodIn_of _ (by decide +kernel)) ggX4_rankByDistance_X2_areaAt
set_option maxRecDepth 20000 in
theorem ggX4_rankByDistance_X0_distanceFrom : GoodIn wsX4_rankByDistance wsX0_distanceFrom := goodIn_r _ [26, 27, 28, 25, 29, 30, 31, 32, 33, 34, 35, 36] (by decide +kernel) (by decide +kernel)
set_option maxRecDepth 20000 in
theorem gX4_rankByDistance_X0_distanceFrom : GoodIn wsX4_rankByDistance (va_wsS RX4 147 yX0_distanceFrom wsX0_distanceFrom) := goodIn_app (goodIn_of _ (by decide +kernel)) ggX4_rankByDistance_X0_distanceFrom
set_option maxRecDepth 20000 in
theorem ggX4_rankByDistance_X2_numberAt : GoodIn wsX4_rankByDistance wsX2_numberAt := goodIn_r _ [16, 17, 8, 41, 42, 43, 44, 45, 46] (by decide +kernel) (by decide +kernel)
set_option maxRecDepth 20000 in
theorem gX4_rankByDistance_X2_numberAt : GoodIn wsX4_rankByDistance (wsV RX4 126 RX2 yX2_numberAt wsX2_numberAt) := goodIn_app (goodIn_of _ (by decide +kernel)) ggX4_rankByDistance_X2_numberAt
theorem dX4_rankByDistance_0 : decode cX4_rankByDistance 0 = .ok (.iconst 0, 1) := by decide +kernel
theorem dX4_rankByDistance_1 : decode cX4_rankByDistance 1 = .ok (.istore_n 3, 1) := by decide +kernel
theorem dX4_rankByDistance_2 : decode cX4_rankByDistance 2 = .ok (.iload_n 3, 1) := by decide +kernel
theorem dX4_rankByDistance_3 : decode cX4_rankByDistance 3 = .ok (.aload_n 0, 1) := by decide +kernel
theorem dX4_rankByDistance_4 : decode cX4_rankByDistance 4 = .ok (.getfield 9, 3) := by decide +kernel
theorem dX4_rankByDistance_7 : decode cX4_rankByDistance 7 = .ok (.arraylength, 1) := by decide +kernel
theorem dX4_rankByDistance_8 : decode cX4_rankByDistance 8 = .ok (.if_icmp .ge 55, 3) := by decide +kernel
theorem dX4_rankByDistance_11 : decode cX4_rankByDistance 11 = .ok (.iload_n 3, 1) := by decide +kernel
theorem dX4_rankByDistance_12 : decode cX4_rankByDistance 12 = .ok (.aload_n 0, 1) := by decide +kernel
theorem dX4_rankByDistance_13 : decode cX4_rankByDistance 13 = .ok (.getfield 16, 3) := by decide +kernel
theorem dX4_rankByDistance_16 : decode cX4_rankByDistance 16 = .ok (.invokevirtual 68, 3) := by decide +kernel
theorem dX4_rankByDistance_19 : decode cX4_rankByDistance 19 = .ok (.if_icmp .ge 44, 3) := by decide +kernel
theorem dX4_rankByDistance_22 : decode cX4_rankByDistance 22 = .ok (.aload_n 0, 1) := by decide +kernel
theorem dX4_rankByDistance_23 : decode cX4_rankByDistance 23 = .ok (.getfield 16, 3) := by decide +kernel
theorem dX4_rankByDistance_26 : decode cX4_rankByDistance 26 = .ok (.iload_n 3, 1) := by decide +kernel
theorem dX4_rankByDistance_27 : decode cX4_rankByDistance 27 = .ok (.invokevirtual 134, 3) := by decide +kernel
theorem dX4_rankByDistance_30 : decode cX4_rankByDistance 30 = .ok (.iload_n 1, 1) := by decide +kernel
theorem dX4_rankByDistance_31 : decode cX4_rankByDistance 31 = .ok (.iload_n 2, 1) := by decide +kernel
theorem dX4_rankByDistance_32 : decode cX4_rankByDistance 32 = .ok (.invokestatic 147, 3) := by decide +kernel
theorem dX4_rankByDistance_35 : decode cX4_rankByDistance 35 = .ok (.istore 4, 2) := by decide +kernel
theorem dX4_rankByDistance_37 : decode cX4_rankByDistance 37 = .ok (.aload_n 0, 1) := by decide +kernel
theorem dX4_rankByDistance_38 : decode cX4_rankByDistance 38 = .ok (.getfield 9, 3) := by decide +kernel
theorem dX4_rankByDistance_41 : decode cX4_rankByDistance 41 = .ok (.iload_n 3, 1) := by decide +kernel
theorem dX4_rankByDistance_42 : decode cX4_rankByDistance 42 = .ok (.iload 4, 2) := by decide +kernel
theorem dX4_rankByDistance_44 : decode cX4_rankByDistance 44 = .ok (.bipush 100, 2) := by decide +kernel
theorem dX4_rankByDistance_46 : decode cX4_rankByDistance 46 = .ok (.imul, 1) := by decide +kernel
theorem dX4_rankByDistance_47 : decode cX4_rankByDistance 47 = .ok (.aload_n 0, 1) := by decide +kernel
theorem dX4_rankByDistance_48 : decode cX4_rankByDistance 48 = .ok (.getfield 16, 3) := by decide +kernel
theorem dX4_rankByDistance_51 : decode cX4_rankByDistance 51 = .ok (.iload_n 3, 1) := by decide +kernel
theorem dX4_rankByDistance_52 : decode cX4_rankByDistance 52 = .ok (.invokevirtual 126, 3) := by decide +kernel
theorem dX4_rankByDistance_55 : decode cX4_rankByDistance 55 = .ok (.iadd, 1) := by decide +kernel
theorem dX4_rankByDistance_56 : decode cX4_rankByDistance 56 = .ok (.iastore, 1) := by decide +kernel
theorem dX4_rankByDistance_57 : decode cX4_rankByDistance 57 = .ok (.iinc 3 1, 3) := by decide +kernel
theorem dX4_rankByDistance_60 : decode cX4_rankByDistance 60 = .ok (.goto (-58), 3) := by decide +kernel
theorem dX4_rankByDistance_63 : decode cX4_rankByDistance 63 = .ok (.return_, 1) := by decide +kernel
set_option maxRecDepth 20000 in
theorem ggX4_ranksBefore_X2_size : GoodIn wsX4_ranksBefore wsX2_size := goodIn_r _ [7, 8, 12, 13, 14, 15, 16, 17] (by decide +kernel) (by decide +kernel)
set_option maxRecDepth 20000 in
theorem gX4_ranksBefore_X2_size : GoodIn wsX4_ranksBefore (wsV RX4 68 RX2 yX2_size wsX2_size) := goodIn_app (goodIn_of _ (by decide +kernel)) ggX4_ranksBefore_X2_size
theorem dX4_ranksBefore_0 : decode cX4_ranksBefore 0 = .ok (.iload_n 1, 1) := by decide +kernel
theorem dX4_ranksBefore_1 : decode cX4_ranksBefore 1 = .ok (.ifCond .lt 12, 3) := by decide +kernel
theorem dX4_ranksBefore_4 : decode cX4_ranksBefore 4 = .ok (.iload_n 1, 1) := by decide +kernel
theorem dX4_ranksBefore_5 : decode cX4_ranksBefore 5 = .ok (.aload_n 0, 1) := by decide +kernel
theorem dX4_ranksBefore_6 : decode cX4_ranksBefore 6 = .ok (.getfield 9, 3) := by decide +kernel
theorem dX4_ranksBefore_9 : decode cX4_ranksBefore 9 = .ok (.arraylength, 1) := by decide +kernel
theorem dX4_ranksBefore_10 : decode cX4_ranksBefore 10 = .ok (.if_icmp .lt 5, 3) := by decide +kernel
theorem dX4_ranksBefore_13 : decode cX4_ranksBefore 13 = .ok (.iconst (-1), 1) := by decide +kernel
theorem dX4_ranksBefore_14 : decode cX4_ranksBefore 14 = .ok (.ireturn, 1) := by decide +kernel
theorem dX4_ranksBefore_15 : decode cX4_ranksBefore 15 = .ok (.aload_n 0, 1) := by decide +kernel
theorem dX4_ranksBefore_16 : decode cX4_ranksBefore 16 = .ok (.getfield 9, 3) := by decide +kernel
theorem dX4_ranksBefore_19 : decode cX4_ranksBefore 19 = .ok (.iload_n 1, 1) := by decide +kernel
theorem dX4_ranksBefore_20 : decode cX4_ranksBefore 20 = .ok (.iaload, 1) := by decide +kernel
theorem dX4_ranksBefore_21 : decode cX4_ranksBefore 21 = .ok (.istore_n 2, 1) := by decide +kernel
theorem dX4_ranksBefore_22 : decode cX4_ranksBefore 22 = .ok (.iconst 0, 1) := by decide +kernel
theorem dX4_ranksBefore_23 : decode cX4_ranksBefore 23 = .ok (.istore_n 3, 1) := by decide +kernel
theorem dX4_ranksBefore_24 : decode cX4_ranksBefore 24 = .ok (.iconst 0, 1) := by decide +kernel
theorem dX4_ranksBefore_25 : decode cX4_ranksBefore 25 = .ok (.istore 4, 2) := by decide +kernel
theorem dX4_ranksBefore_27 : decode cX4_ranksBefore 27 = .ok (.iload 4, 2) := by decide +kernel
theorem dX4_ranksBefore_29 : decode cX4_ranksBefore 29 = .ok (.aload_n 0, 1) := by decide +kernel
theorem dX4_ranksBefore_30 : decode cX4_ranksBefore 30 = .ok (.getfield 9, 3) := by decide +kernel
theorem dX4_ranksBefore_33 : decode cX4_ranksBefore 33 = .ok (.arraylength, 1) := by decide +kernel
theorem dX4_ranksBefore_34 : decode cX4_ranksBefore 34 = .ok (.if_icmp .ge 35, 3) := by decide +kernel
theorem dX4_ranksBefore_37 : decode cX4_ranksBefore 37 = .ok (.iload 4, 2) := by decide +kernel
theorem dX4_ranksBefore_39 : decode cX4_ranksBefore 39 = .ok (.aload_n 0, 1) := by decide +kernel
theorem dX4_ranksBefore_40 : decode cX4_ranksBefore 40 = .ok (.getfield 16, 3) := by decide +kernel
theorem dX4_ranksBefore_43 : decode cX4_ranksBefore 43 = .ok (.invokevirtual 68, 3) := by decide +kernel
theorem dX4_ranksBefore_46 : decode cX4_ranksBefore 46 = .ok (.if_icmp .ge 23, 3) := by decide +kernel
theorem dX4_ranksBefore_49 : decode cX4_ranksBefore 49 = .ok (.aload_n 0, 1) := by decide +kernel
theorem dX4_ranksBefore_50 : decode cX4_ranksBefore 50 = .ok (.getfield 9, 3) := by decide +kernel
theorem dX4_ranksBefore_53 : decode cX4_ranksBefore 53 = .ok (.iload 4, 2) := by decide +kernel
theorem dX4_ranksBefore_55 : decode cX4_ranksBefore 55 = .ok (.iaload, 1) := by decide +kernel
theorem dX4_ranksBefore_56 : decode cX4_ranksBefore 56 = .ok (.iload_n 2, 1) := by decide +kernel
theorem dX4_ranksBefore_57 : decode cX4_ranksBefore 57 = .ok (.if_icmp .ge 6, 3) := by decide +kernel
theorem dX4_ranksBefore_60 : decode cX4_ranksBefore 60 = .ok (.iinc 3 1, 3) := by decide +kernel
theorem dX4_ranksBefore_63 : decode cX4_ranksBefore 63 = .ok (.iinc 4 1, 3) := by decide +kernel
theorem dX4_ranksBefore_66 : decode cX4_ranksBefore 66 = .ok (.goto (-39), 3) := by decide +kernel
theorem dX4_ranksBefore_69 : decode cX4_ranksBefore 69 = .ok (.iload_n 3, 1) := by decide +kernel
theorem dX4_ranksBefore_70 : decode cX4_ranksBefore 70 = .ok (.ireturn, 1) := by decide +kernel
theorem dX5_init_0 : decode cX5_init 0 = .ok (.aload_n 0, 1) := by decide +kernel
theorem dX5_init_1 : decode cX5_init 1 = .ok (.invokespecial 1, 3) := by decide +kernel
theorem dX5_init_4 : decode cX5_init 4 = .ok (.aload_n 0, 1) := by decide +kernel
theorem dX5_init_5 : decode cX5_init 5 = .ok (.sipush 400, 3) := by decide +kernel
theorem dX5_init_8 : decode cX5_init 8 = .ok (.newarray .int, 2) := by decide +kernel
theorem dX5_init_10 : decode cX5_init 10 = .ok (.putfield 7, 3) := by decide +kernel
theorem dX5_init_13 : decode cX5_init 13 = .ok (.aload_n 0, 1) := by decide +kernel
theorem dX5_init_14 : decode cX5_init 14 = .ok (.bipush 100, 2) := by decide +kernel
theorem dX5_init_16 : decode cX5_init 16 = .ok (.newarray .int, 2) := by decide +kernel
theorem dX5_init_18 : decode cX5_init 18 = .ok (.putfield 13, 3) := by decide +kernel
theorem dX5_init_21 : decode cX5_init 21 = .ok (.aload_n 0, 1) := by decide +kernel
theorem dX5_init_22 : decode cX5_init 22 = .ok (.bipush 100, 2) := by decide +kernel
theorem dX5_init_24 : decode cX5_init 24 = .ok (.newarray .boolean, 2) := by decide +kernel
theorem dX5_init_26 : decode cX5_init 26 = .ok (.putfield 16, 3) := by decide +kernel
theorem dX5_init_29 : decode cX5_init 29 = .ok (.aload_n 0, 1) := by decide +kernel
theorem dX5_init_30 : decode cX5_init 30 = .ok (.bipush 61, 2) := by decide +kernel
theorem dX5_init_32 : decode cX5_init 32 = .ok (.newarray .int, 2) := by decide +kernel
theorem dX5_init_34 : decode cX5_init 34 = .ok (.putfield 20, 3) := by decide +kernel
theorem dX5_init_37 : decode cX5_init 37 = .ok (.aload_n 0, 1) := by decide +kernel
theorem dX5_init_38 : decode cX5_init 38 = .ok (.bipush 16, 2) := by decide +kernel
theorem dX5_init_40 : decode cX5_init 40 = .ok (.newarray .int, 2) := by decide +kernel
theorem dX5_init_42 : decode cX5_init 42 = .ok (.putfield 23, 3) := by decide +kernel
theorem dX5_init_45 : decode cX5_init 45 = .ok (.aload_n 0, 1) := by decide +kernel
theorem dX5_init_46 : decode cX5_init 46 = .ok (.sipush 1024, 3) := by decide +kernel
theorem dX5_init_49 : decode cX5_init 49 = .ok (.newarray .int, 2) := by decide +kernel
theorem dX5_init_51 : decode cX5_init 51 = .ok (.putfield 26, 3) := by decide +kernel
theorem dX5_init_54 : decode cX5_init 54 = .ok (.return_, 1) := by decide +kernel
theorem dX5_thrown_0 : decode cX5_thrown 0 = .ok (.aload_n 0, 1) := by decide +kernel
theorem dX5_thrown_1 : decode cX5_thrown 1 = .ok (.getfield 29, 3) := by decide +kernel
theorem dX5_thrown_4 : decode cX5_thrown 4 = .ok (.ireturn, 1) := by decide +kernel
theorem dX5_fails_0 : decode cX5_fails 0 = .ok (.aload_n 0, 1) := by decide +kernel
theorem dX5_fails_1 : decode cX5_fails 1 = .ok (.iload_n 1, 1) := by decide +kernel
theorem dX5_fails_2 : decode cX5_fails 2 = .ok (.putfield 29, 3) := by decide +kernel
theorem dX5_fails_5 : decode cX5_fails 5 = .ok (.iload_n 1, 1) := by decide +kernel
theorem dX5_fails_6 : decode cX5_fails 6 = .ok (.ifCond .le 7, 3) := by decide +kernel
theorem dX5_fails_9 : decode cX5_fails 9 = .ok (.iconst 1, 1) := by decide +kernel
theorem dX5_fails_10 : decode cX5_fails 10 = .ok (.goto 4, 3) := by decide +kernel
theorem dX5_fails_13 : decode cX5_fails 13 = .ok (.iconst 0, 1) := by decide +kernel
theorem dX5_fails_14 : decode cX5_fails 14 = .ok (.ireturn, 1) := by decide +kernel
theorem dX5_tells_0 : decode cX5_tells 0 = .ok (.aload_n 0, 1) := by decide +kernel
theorem dX5_tells_1 : decode cX5_tells 1 = .ok (.iconst 0, 1) := by decide +kernel
theorem dX5_tells_2 : decode cX5_tells 2 = .ok (.putfield 29, 3) := by decide +kernel
theorem dX5_tells_5 : decode cX5_tells 5 = .ok (.iload_n 1, 1) := by decide +kernel
theorem dX5_tells_6 : decode cX5_tells 6 = .ok (.ireturn, 1) := by decide +kernel
theorem dX5_isPoint_0 : decode cX5_isPoint 0 = .ok (.iload_n 0, 1) := by decide +kernel
theorem dX5_isPoint_1 : decode cX5_isPoint 1 = .ok (.ifCond .lt 25, 3) := by decide +kernel
theorem dX5_isPoint_4 : decode cX5_isPoint 4 = .ok (.iload_n 0, 1) := by decide +kernel
theorem dX5_isPoint_5 : decode cX5_isPoint 5 = .ok (.sipush 256, 3) := by decide +kernel
theorem dX5_isPoint_8 : decode cX5_isPoint 8 = .ok (.if_icmp .ge 18, 3) := by decide +kernel
theorem dX5_isPoint_11 : decode cX5_isPoint 11 = .ok (.iload_n 1, 1) := by decide +kernel
theorem dX5_isPoint_12 : decode cX5_isPoint 12 = .ok (.ifCond .lt 14, 3) := by decide +kernel
theorem dX5_isPoint_15 : decode cX5_isPoint 15 = .ok (.iload_n 1, 1) := by decide +kernel
theorem dX5_isPoint_16 : decode cX5_isPoint 16 = .ok (.sipush 256, 3) := by decide +kernel
theorem dX5_isPoint_19 : decode cX5_isPoint 19 = .ok (.if_icmp .ge 7, 3) := by decide +kernel
theorem dX5_isPoint_22 : decode cX5_isPoint 22 = .ok (.iconst 1, 1) := by decide +kernel
theorem dX5_isPoint_23 : decode cX5_isPoint 23 = .ok (.goto 4, 3) := by decide +kernel
theorem dX5_isPoint_26 : decode cX5_isPoint 26 = .ok (.iconst 0, 1) := by decide +kernel
theorem dX5_isPoint_27 : decode cX5_isPoint 27 = .ok (.ireturn, 1) := by decide +kernel
theorem dX5_isArea_0 : decode cX5_isArea 0 = .ok (.iload_n 0, 1) := by decide +kernel
theorem dX5_isArea_1 : decode cX5_isArea 1 = .ok (.ifCond .lt 35, 3) := by decide +kernel
theorem dX5_isArea_4 : decode cX5_isArea 4 = .ok (.iload_n 0, 1) := by decide +kernel
theorem dX5_isArea_5 : decode cX5_isArea 5 = .ok (.iload_n 2, 1) := by decide +kernel
theorem dX5_isArea_6 : decode cX5_isArea 6 = .ok (.if_icmp .gt 30, 3) := by decide +kernel
theorem dX5_isArea_9 : decode cX5_isArea 9 = .ok (.iload_n 2, 1) := by decide +kernel
theorem dX5_isArea_10 : decode cX5_isArea 10 = .ok (.sipush 256, 3) := by decide +kernel
theorem dX5_isArea_13 : decode cX5_isArea 13 = .ok (.if_icmp .ge 23, 3) := by decide +kernel
theorem dX5_isArea_16 : decode cX5_isArea 16 = .ok (.iload_n 1, 1) := by decide +kernel
theorem dX5_isArea_17 : decode cX5_isArea 17 = .ok (.ifCond .lt 19, 3) := by decide +kernel
theorem dX5_isArea_20 : decode cX5_isArea 20 = .ok (.iload_n 1, 1) := by decide +kernel
theorem dX5_isArea_21 : decode cX5_isArea 21 = .ok (.iload_n 3, 1) := by decide +kernel
theorem dX5_isArea_22 : decode cX5_isArea 22 = .ok (.if_icmp .gt 14, 3) := by decide +kernel
theorem dX5_isArea_25 : decode cX5_isArea 25 = .ok (.iload_n 3, 1) := by decide +kernel
theorem dX5_isArea_26 : decode cX5_isArea 26 = .ok (.sipush 256, 3) := by decide +kernel
theorem dX5_isArea_29 : decode cX5_isArea 29 = .ok (.if_icmp .ge 7, 3) := by decide +kernel
theorem dX5_isArea_32 : decode cX5_isArea 32 = .ok (.iconst 1, 1) := by decide +kernel
theorem dX5_isArea_33 : decode cX5_isArea 33 = .ok (.goto 4, 3) := by decide +kernel
theorem dX5_isArea_36 : decode cX5_isArea 36 = .ok (.iconst 0, 1) := by decide +kernel
theorem dX5_isArea_37 : decode cX5_isArea 37 = .ok (.ireturn, 1) := by decide +kernel
theorem dX5_is_0 : decode cX5_is 0 = .ok (.iload_n 1, 1) := by decide +kernel
theorem dX5_is_1 : decode cX5_is 1 = .ok (.ifCond .lt 24, 3) := by decide +kernel
theorem dX5_is_4 : decode cX5_is 4 = .ok (.iload_n 1, 1) := by decide +kernel
theorem dX5_is_5 : decode cX5_is 5 = .ok (.aload_n 0, 1) := by decide +kernel
theorem dX5_is_6 : decode cX5_is 6 = .ok (.getfield 33, 3) := by decide +kernel
theorem dX5_is_9 : decode cX5_is 9 = .ok (.if_icmp .ge 16, 3) := by decide +kernel
theorem dX5_is_12 : decode cX5_is 12 = .ok (.aload_n 0, 1) := by decide +kernel
theorem dX5_is_13 : decode cX5_is 13 = .ok (.getfield 16, 3) := by decide +kernel
theorem dX5_is_16 : decode cX5_is 16 = .ok (.iload_n 1, 1) := by decide +kernel
theorem dX5_is_17 : decode cX5_is 17 = .ok (.baload, 1) := by decide +kernel
theorem dX5_is_18 : decode cX5_is 18 = .ok (.ifCond .eq 7, 3) := by decide +kernel
theorem dX5_is_21 : decode cX5_is 21 = .ok (.iconst 1, 1) := by decide +kernel
theorem dX5_is_22 : decode cX5_is 22 = .ok (.goto 4, 3) := by decide +kernel
theorem dX5_is_25 : decode cX5_is 25 = .ok (.iconst 0, 1) := by decide +kernel
theorem dX5_is_26 : decode cX5_is 26 = .ok (.ireturn, 1) := by decide +kernel
theorem dX5_keyAt_0 : decode cX5_keyAt 0 = .ok (.iload_n 0, 1) := by decide +kernel
theorem dX5_keyAt_1 : decode cX5_keyAt 1 = .ok (.istore_n 2, 1) := by decide +kernel
theorem dX5_keyAt_2 : decode cX5_keyAt 2 = .ok (.iload_n 1, 1) := by decide +kernel
theorem dX5_keyAt_3 : decode cX5_keyAt 3 = .ok (.istore_n 3, 1) := by decide +kernel
theorem dX5_keyAt_4 : decode cX5_keyAt 4 = .ok (.iconst 0, 1) := by decide +kernel
theorem dX5_keyAt_5 : decode cX5_keyAt 5 = .ok (.istore 4, 2) := by decide +kernel
theorem dX5_keyAt_7 : decode cX5_keyAt 7 = .ok (.sipush 128, 3) := by decide +kernel
theorem dX5_keyAt_10 : decode cX5_keyAt 10 = .ok (.istore 5, 2) := by decide +kernel
theorem dX5_keyAt_12 : decode cX5_keyAt 12 = .ok (.iload 5, 2) := by decide +kernel
theorem dX5_keyAt_14 : decode cX5_keyAt 14 = .ok (.ifCond .le 122, 3) := by decide +kernel
theorem dX5_keyAt_17 : decode cX5_keyAt 17 = .ok (.iload_n 2, 1) := by decide +kernel
theorem dX5_keyAt_18 : decode cX5_keyAt 18 = .ok (.iload 5, 2) := by decide +kernel
theorem dX5_keyAt_20 : decode cX5_keyAt 20 = .ok (.iand, 1) := by decide +kernel
theorem dX5_keyAt_21 : decode cX5_keyAt 21 = .ok (.ifCond .le 7, 3) := by decide +kernel
theorem dX5_keyAt_24 : decode cX5_keyAt 24 = .ok (.iconst 1, 1) := by decide +kernel
theorem dX5_keyAt_25 : decode cX5_keyAt 25 = .ok (.goto 4, 3) := by decide +kernel
theorem dX5_keyAt_28 : decode cX5_keyAt 28 = .ok (.iconst 0, 1) := by decide +kernel
theorem dX5_keyAt_29 : decode cX5_keyAt 29 = .ok (.istore 6, 2) := by decide +kernel
theorem dX5_keyAt_31 : decode cX5_keyAt 31 = .ok (.iload_n 3, 1) := by decide +kernel
theorem dX5_keyAt_32 : decode cX5_keyAt 32 = .ok (.iload 5, 2) := by decide +kernel
theorem dX5_keyAt_34 : decode cX5_keyAt 34 = .ok (.iand, 1) := by decide +kernel
theorem dX5_keyAt_35 : decode cX5_keyAt 35 = .ok (.ifCond .le 7, 3) := by decide +kernel
theorem dX5_keyAt_38 : decode cX5_keyAt 38 = .ok (.iconst 1, 1) := by decide +kernel
theorem dX5_keyAt_39 : decode cX5_keyAt 39 = .ok (.goto 4, 3) := by decide +kernel
theorem dX5_keyAt_42 : decode cX5_keyAt 42 = .ok (.iconst 0, 1) := by decide +kernel
theorem dX5_keyAt_43 : decode cX5_keyAt 43 = .ok (.istore 7, 2) := by decide +kernel
theorem dX5_keyAt_45 : decode cX5_keyAt 45 = .ok (.iload 4, 2) := by decide +kernel
theorem dX5_keyAt_47 : decode cX5_keyAt 47 = .ok (.iload 5, 2) := by decide +kernel
theorem dX5_keyAt_49 : decode cX5_keyAt 49 = .ok (.iload 5, 2) := by decide +kernel
theorem dX5_keyAt_51 : decode cX5_keyAt 51 = .ok (.imul, 1) := by decide +kernel
theorem dX5_keyAt_52 : decode cX5_keyAt 52 = .ok (.iload 6, 2) := by decide +kernel
theorem dX5_keyAt_54 : decode cX5_keyAt 54 = .ok (.ifCond .eq 16, 3) := by decide +kernel
theorem dX5_keyAt_57 : decode cX5_keyAt 57 = .ok (.iload 7, 2) := by decide +kernel
theorem dX5_keyAt_59 : decode cX5_keyAt 59 = .ok (.ifCond .eq 7, 3) := by decide +kernel
theorem dX5_keyAt_62 : decode cX5_keyAt 62 = .ok (.iconst 2, 1) := by decide +kernel
theorem dX5_keyAt_63 : decode cX5_keyAt 63 = .ok (.goto 17, 3) := by decide +kernel
theorem dX5_keyAt_66 : decode cX5_keyAt 66 = .ok (.iconst 3, 1) := by decide +kernel
theorem dX5_keyAt_67 : decode cX5_keyAt 67 = .ok (.goto 13, 3) := by decide +kernel
theorem dX5_keyAt_70 : decode cX5_keyAt 70 = .ok (.iload 7, 2) := by decide +kernel
theorem dX5_keyAt_72 : decode cX5_keyAt 72 = .ok (.ifCond .eq 7, 3) := by decide +kernel
theorem dX5_keyAt_75 : decode cX5_keyAt 75 = .ok (.iconst 1, 1) := by decide +kernel
theorem dX5_keyAt_76 : decode cX5_keyAt 76 = .ok (.goto 4, 3) := by decide +kernel
theorem dX5_keyAt_79 : decode cX5_keyAt 79 = .ok (.iconst 0, 1) := by decide +kernel
theorem dX5_keyAt_80 : decode cX5_keyAt 80 = .ok (.imul, 1) := by decide +kernel
theorem dX5_keyAt_81 : decode cX5_keyAt 81 = .ok (.iadd, 1) := by decide +kernel
theorem dX5_keyAt_82 : decode cX5_keyAt 82 = .ok (.istore 4, 2) := by decide +kernel
theorem dX5_keyAt_84 : decode cX5_keyAt 84 = .ok (.iload 7, 2) := by decide +kernel
theorem dX5_keyAt_86 : decode cX5_keyAt 86 = .ok (.ifCond .ne 41, 3) := by decide +kernel
theorem dX5_keyAt_89 : decode cX5_keyAt 89 = .ok (.iload 6, 2) := by decide +kernel
theorem dX5_keyAt_91 : decode cX5_keyAt 91 = .ok (.ifCond .eq 11, 3) := by decide +kernel
theorem dX5_keyAt_94 : decode cX5_keyAt 94 = .ok (.sipush 255, 3) := by decide +kernel
theorem dX5_keyAt_97 : decode cX5_keyAt 97 = .ok (.iload_n 2, 1) := by decide +kernel
theorem dX5_keyAt_98 : decode cX5_keyAt 98 = .ok (.isub, 1) := by decide +kernel
theorem dX5_keyAt_99 : decode cX5_keyAt 99 = .ok (.goto 4, 3) := by decide +kernel
theorem dX5_keyAt_102 : decode cX5_keyAt 102 = .ok (.iload_n 2, 1) := by decide +kernel
theorem dX5_keyAt_103 : decode cX5_keyAt 103 = .ok (.istore 8, 2) := by decide +kernel
theorem dX5_keyAt_105 : decode cX5_keyAt 105 = .ok (.iload 6, 2) := by decide +kernel
theorem dX5_keyAt_107 : decode cX5_keyAt 107 = .ok (.ifCond .eq 11, 3) := by decide +kernel
theorem dX5_keyAt_110 : decode cX5_keyAt 110 = .ok (.sipush 255, 3) := by decide +kernel
theorem dX5_keyAt_113 : decode cX5_keyAt 113 = .ok (.iload_n 3, 1) := by decide +kernel
theorem dX5_keyAt_114 : decode cX5_keyAt 114 = .ok (.isub, 1) := by decide +kernel
theorem dX5_keyAt_115 : decode cX5_keyAt 115 = .ok (.goto 4, 3) := by decide +kernel
theorem dX5_keyAt_118 : decode cX5_keyAt 118 = .ok (.iload_n 3, 1) := by decide +kernel
theorem dX5_keyAt_119 : decode cX5_keyAt 119 = .ok (.istore 9, 2) := by decide +kernel
theorem dX5_keyAt_121 : decode cX5_keyAt 121 = .ok (.iload 9, 2) := by decide +kernel
theorem dX5_keyAt_123 : decode cX5_keyAt 123 = .ok (.istore_n 2, 1) := by decide +kernel
theorem dX5_keyAt_124 : decode cX5_keyAt 124 = .ok (.iload 8, 2) := by decide +kernel
theorem dX5_keyAt_126 : decode cX5_keyAt 126 = .ok (.istore_n 3, 1) := by decide +kernel
theorem dX5_keyAt_127 : decode cX5_keyAt 127 = .ok (.iload 5, 2) := by decide +kernel
theorem dX5_keyAt_129 : decode cX5_keyAt 129 = .ok (.iconst 2, 1) := by decide +kernel
theorem dX5_keyAt_130 : decode cX5_keyAt 130 = .ok (.idiv, 1) := by decide +kernel
theorem dX5_keyAt_131 : decode cX5_keyAt 131 = .ok (.istore 5, 2) := by decide +kernel
theorem dX5_keyAt_133 : decode cX5_keyAt 133 = .ok (.goto (-121), 3) := by decide +kernel
theorem dX5_keyAt_136 : decode cX5_keyAt 136 = .ok (.iload 4, 2) := by decide +kernel
theorem dX5_keyAt_138 : decode cX5_keyAt 138 = .ok (.ireturn, 1) := by decide +kernel
theorem dX5_many_0 : decode cX5_many 0 = .ok (.aload_n 0, 1) := by decide +kernel
theorem dX5_many_1 : decode cX5_many 1 = .ok (.getfield 26, 3) := by decide +kernel
theorem dX5_many_4 : decode cX5_many 4 = .ok (.bipush 64, 2) := by decide +kernel
theorem dX5_many_6 : decode cX5_many 6 = .ok (.iload_n 1, 1) := by decide +kernel
theorem dX5_many_7 : decode cX5_many 7 = .ok (.imul, 1) := by decide +kernel
theorem dX5_many_8 : decode cX5_many 8 = .ok (.iload_n 2, 1) := by decide +kernel
theorem dX5_many_9 : decode cX5_many 9 = .ok (.iadd, 1) := by decide +kernel
theorem dX5_many_10 : decode cX5_many 10 = .ok (.iaload, 1) := by decide +kernel
theorem dX5_many_11 : decode cX5_many 11 = .ok (.ireturn, 1) := by decide +kernel
set_option maxRecDepth 20000 in
theorem ggX5_ahead_X5_many : GoodIn wsX5_ahead wsX5_many := goodIn_r _ [5, 6, 7, 8, 9, 10, 11, 12, 13, 14, 15, 16, 17, 18, 19, 20, 21, 22] (by decide +kernel) (by decide +kernel)
set_option maxRecDepth 20000 in
theorem gX5_ahead_X5_many : GoodIn wsX5_ahead (wsV RX5 36 RX5 yX5_many wsX5_many) := goodIn_app (goodIn_of _ (by decide +kernel)) ggX5_ahead_X5_many
theorem dX5_ahead_0 : decode cX5_ahead 0 = .ok (.iconst 0, 1) := by decide +kernel
theorem dX5_ahead_1 : decode cX5_ahead 1 = .ok (.istore_n 3, 1) := by decide +kernel
theorem dX5_ahead_2 : decode cX5_ahead 2 = .ok (.iconst 0, 1) := by decide +kernel
theorem dX5_ahead_3 : decode cX5_ahead 3 = .ok (.istore 4, 2) := by decide +kernel
theorem dX5_ahead_5 : decode cX5_ahead 5 = .ok (.iload 4, 2) := by decide +kernel
theorem dX5_ahead_7 : decode cX5_ahead 7 = .ok (.iload_n 2, 1) := by decide +kernel
theorem dX5_ahead_8 : decode cX5_ahead 8 = .ok (.if_icmp .ge 19, 3) := by decide +kernel
theorem dX5_ahead_11 : decode cX5_ahead 11 = .ok (.iload_n 3, 1) := by decide +kernel
theorem dX5_ahead_12 : decode cX5_ahead 12 = .ok (.aload_n 0, 1) := by decide +kernel
theorem dX5_ahead_13 : decode cX5_ahead 13 = .ok (.iload_n 1, 1) := by decide +kernel
theorem dX5_ahead_14 : decode cX5_ahead 14 = .ok (.iload 4, 2) := by decide +kernel
theorem dX5_ahead_16 : decode cX5_ahead 16 = .ok (.invokevirtual 36, 3) := by decide +kernel
theorem dX5_ahead_19 : decode cX5_ahead 19 = .ok (.iadd, 1) := by decide +kernel
theorem dX5_ahead_20 : decode cX5_ahead 20 = .ok (.istore_n 3, 1) := by decide +kernel
theorem dX5_ahead_21 : decode cX5_ahead 21 = .ok (.iinc 4 1, 3) := by decide +kernel
theorem dX5_ahead_24 : decode cX5_ahead 24 = .ok (.goto (-19), 3) := by decide +kernel
theorem dX5_ahead_27 : decode cX5_ahead 27 = .ok (.iload_n 3, 1) := by decide +kernel
theorem dX5_ahead_28 : decode cX5_ahead 28 = .ok (.ireturn, 1) := by decide +kernel
set_option maxRecDepth 20000 in
theorem ggX5_above_X5_ahead : GoodIn wsX5_above wsX5_ahead := goodIn_r _ [5, 6, 7, 8, 4, 9, 10, 11, 12, 13, 14, 15, 16, 17, 18, 19, 20, 21, 22, 23, 24, 25, 26] (by decide +kernel) (by decide +kernel)
set_option maxRecDepth 20000 in
theorem gX5_above_X5_ahead : GoodIn wsX5_above (wsV RX5 40 RX5 yX5_ahead wsX5_ahead) := goodIn_app (goodIn_of _ (by decide +kernel)) ggX5_above_X5_ahead
theorem dX5_above_0 : decode cX5_above 0 = .ok (.iconst 0, 1) := by decide +kernel
theorem dX5_above_1 : decode cX5_above 1 = .ok (.istore_n 3, 1) := by decide +kernel
theorem dX5_above_2 : decode cX5_above 2 = .ok (.aload_n 0, 1) := by decide +kernel
theorem dX5_above_3 : decode cX5_above 3 = .ok (.iload_n 1, 1) := by decide +kernel
theorem dX5_above_4 : decode cX5_above 4 = .ok (.iconst 1, 1) := by decide +kernel
theorem dX5_above_5 : decode cX5_above 5 = .ok (.iadd, 1) := by decide +kernel
theorem dX5_above_6 : decode cX5_above 6 = .ok (.iload_n 3, 1) := by decide +kernel
theorem dX5_above_7 : decode cX5_above 7 = .ok (.iconst 1, 1) := by decide +kernel
theorem dX5_above_8 : decode cX5_above 8 = .ok (.iadd, 1) := by decide +kernel
theorem dX5_above_9 : decode cX5_above 9 = .ok (.invokevirtual 40, 3) := by decide +kernel
theorem dX5_above_12 : decode cX5_above 12 = .ok (.iload_n 2, 1) := by decide +kernel
theorem dX5_above_13 : decode cX5_above 13 = .ok (.if_icmp .gt 9, 3) := by decide +kernel
theorem dX5_above_16 : decode cX5_above 16 = .ok (.iinc 3 1, 3) := by decide +kernel
theorem dX5_above_19 : decode cX5_above 19 = .ok (.goto (-17), 3) := by decide +kernel
theorem dX5_above_22 : decode cX5_above 22 = .ok (.iload_n 3, 1) := by decide +kernel
theorem dX5_above_23 : decode cX5_above 23 = .ok (.ireturn, 1) := by decide +kernel
set_option maxRecDepth 20000 in
theorem ggX5_partner_X5_above : GoodIn wsX5_partner wsX5_above := goodIn_r _ [6, 7, 8, 9, 5, 10, 11, 12, 13, 14, 15, 16, 17, 18, 19, 20, 21, 22, 23, 24, 25, 26, 27, 28, 29, 30, 31] (by decide +kernel) (by decide +kernel)
set_option maxRecDepth 20000 in
theorem gX5_partner_X5_above : GoodIn wsX5_partner (wsV RX5 46 RX5 yX5_above wsX5_above) := goodIn_app (goodIn_of _ (by decide +kernel)) ggX5_partner_X5_above
set_option maxRecDepth 20000 in
theorem ggX5_partner_X5_ahead : GoodIn wsX5_partner wsX5_ahead := goodIn_r _ [10, 11, 12, 13, 5, 14, 15, 16, 17, 18, 19, 20, 21, 22, 23, 24, 25, 26, 27, 28, 29, 30, 31] (by decide +kernel) (by decide +kernel)
set_option maxRecDepth 20000 in
theorem gX5_partner_X5_ahead : GoodIn wsX5_partner (wsV RX5 40 RX5 yX5_ahead wsX5_ahead) := goodIn_app (goodIn_of _ (by decide +kernel)) ggX5_partner_X5_ahead
set_option maxRecDepth 20000 in
theorem ggX5_partner_X5_many : GoodIn wsX5_partner wsX5_many := goodIn_r _ [14, 15, 16, 17, 18, 19, 20, 21, 22, 23, 24, 25, 26, 27, 28, 29, 30, 31] (by decide +kernel) (by decide +kernel)
set_option maxRecDepth 20000 in
theorem gX5_partner_X5_many : GoodIn wsX5_partner (wsV RX5 36 RX5 yX5_many wsX5_many) := goodIn_app (goodIn_of _ (by decide +kernel)) ggX5_partner_X5_many
theorem dX5_partner_0 : decode cX5_partner 0 = .ok (.iload_n 1, 1) := by decide +kernel
theorem dX5_partner_1 : decode cX5_partner 1 = .ok (.aload_n 0, 1) := by decide +kernel
theorem dX5_partner_2 : decode cX5_partner 2 = .ok (.getfield 43, 3) := by decide +kernel
theorem dX5_partner_5 : decode cX5_partner 5 = .ok (.iconst 1, 1) := by decide +kernel
theorem dX5_partner_6 : decode cX5_partner 6 = .ok (.isub, 1) := by decide +kernel
theorem dX5_partner_7 : decode cX5_partner 7 = .ok (.if_icmp .ne 5, 3) := by decide +kernel
theorem dX5_partner_10 : decode cX5_partner 10 = .ok (.iload_n 2, 1) := by decide +kernel
theorem dX5_partner_11 : decode cX5_partner 11 = .ok (.ireturn, 1) := by decide +kernel
theorem dX5_partner_12 : decode cX5_partner 12 = .ok (.aload_n 0, 1) := by decide +kernel
theorem dX5_partner_13 : decode cX5_partner 13 = .ok (.iload_n 1, 1) := by decide +kernel
theorem dX5_partner_14 : decode cX5_partner 14 = .ok (.iload_n 2, 1) := by decide +kernel
theorem dX5_partner_15 : decode cX5_partner 15 = .ok (.invokevirtual 46, 3) := by decide +kernel
theorem dX5_partner_18 : decode cX5_partner 18 = .ok (.istore_n 3, 1) := by decide +kernel
theorem dX5_partner_19 : decode cX5_partner 19 = .ok (.aload_n 0, 1) := by decide +kernel
theorem dX5_partner_20 : decode cX5_partner 20 = .ok (.iload_n 1, 1) := by decide +kernel
theorem dX5_partner_21 : decode cX5_partner 21 = .ok (.iconst 1, 1) := by decide +kernel
theorem dX5_partner_22 : decode cX5_partner 22 = .ok (.iadd, 1) := by decide +kernel
theorem dX5_partner_23 : decode cX5_partner 23 = .ok (.iload_n 3, 1) := by decide +kernel
theorem dX5_partner_24 : decode cX5_partner 24 = .ok (.invokevirtual 40, 3) := by decide +kernel
theorem dX5_partner_27 : decode cX5_partner 27 = .ok (.istore 4, 2) := by decide +kernel
theorem dX5_partner_29 : decode cX5_partner 29 = .ok (.iload 4, 2) := by decide +kernel
theorem dX5_partner_31 : decode cX5_partner 31 = .ok (.aload_n 0, 1) := by decide +kernel
theorem dX5_partner_32 : decode cX5_partner 32 = .ok (.iload_n 1, 1) := by decide +kernel
theorem dX5_partner_33 : decode cX5_partner 33 = .ok (.iconst 1, 1) := by decide +kernel
theorem dX5_partner_34 : decode cX5_partner 34 = .ok (.iadd, 1) := by decide +kernel
theorem dX5_partner_35 : decode cX5_partner 35 = .ok (.iload_n 3, 1) := by decide +kernel
theorem dX5_partner_36 : decode cX5_partner 36 = .ok (.invokevirtual 36, 3) := by decide +kernel
theorem dX5_partner_39 : decode cX5_partner 39 = .ok (.iadd, 1) := by decide +kernel
theorem dX5_partner_40 : decode cX5_partner 40 = .ok (.istore 5, 2) := by decide +kernel
theorem dX5_partner_42 : decode cX5_partner 42 = .ok (.iload_n 2, 1) := by decide +kernel
theorem dX5_partner_43 : decode cX5_partner 43 = .ok (.iconst 1, 1) := by decide +kernel
theorem dX5_partner_44 : decode cX5_partner 44 = .ok (.iadd, 1) := by decide +kernel
theorem dX5_partner_45 : decode cX5_partner 45 = .ok (.iload 5, 2) := by decide +kernel
theorem dX5_partner_47 : decode cX5_partner 47 = .ok (.if_icmp .ge 9, 3) := by decide +kernel
theorem dX5_partner_50 : decode cX5_partner 50 = .ok (.iload_n 2, 1) := by decide +kernel
theorem dX5_partner_51 : decode cX5_partner 51 = .ok (.iconst 1, 1) := by decide +kernel
theorem dX5_partner_52 : decode cX5_partner 52 = .ok (.iadd, 1) := by decide +kernel
theorem dX5_partner_53 : decode cX5_partner 53 = .ok (.goto 16, 3) := by decide +kernel
theorem dX5_partner_56 : decode cX5_partner 56 = .ok (.iload_n 2, 1) := by decide +kernel
theorem dX5_partner_57 : decode cX5_partner 57 = .ok (.iload 4, 2) := by decide +kernel
theorem dX5_partner_59 : decode cX5_partner 59 = .ok (.if_icmp .le 9, 3) := by decide +kernel
theorem dX5_partner_62 : decode cX5_partner 62 = .ok (.iload_n 2, 1) := by decide +kernel
theorem dX5_partner_63 : decode cX5_partner 63 = .ok (.iconst 1, 1) := by decide +kernel
theorem dX5_partner_64 : decode cX5_partner 64 = .ok (.isub, 1) := by decide +kernel
theorem dX5_partner_65 : decode cX5_partner 65 = .ok (.goto 4, 3) := by decide +kernel
theorem dX5_partner_68 : decode cX5_partner 68 = .ok (.iload_n 2, 1) := by decide +kernel
theorem dX5_partner_69 : decode cX5_partner 69 = .ok (.ireturn, 1) := by decide +kernel
theorem dX5_enters_0 : decode cX5_enters 0 = .ok (.bipush 64, 2) := by decide +kernel
theorem dX5_enters_2 : decode cX5_enters 2 = .ok (.iload_n 1, 1) := by decide +kernel
theorem dX5_enters_3 : decode cX5_enters 3 = .ok (.imul, 1) := by decide +kernel
theorem dX5_enters_4 : decode cX5_enters 4 = .ok (.aload_n 0, 1) := by decide +kernel
theorem dX5_enters_5 : decode cX5_enters 5 = .ok (.getfield 23, 3) := by decide +kernel
theorem dX5_enters_8 : decode cX5_enters 8 = .ok (.iload_n 1, 1) := by decide +kernel
theorem dX5_enters_9 : decode cX5_enters 9 = .ok (.iaload, 1) := by decide +kernel
theorem dX5_enters_10 : decode cX5_enters 10 = .ok (.iadd, 1) := by decide +kernel
theorem dX5_enters_11 : decode cX5_enters 11 = .ok (.istore 4, 2) := by decide +kernel
theorem dX5_enters_13 : decode cX5_enters 13 = .ok (.iload 4, 2) := by decide +kernel
theorem dX5_enters_15 : decode cX5_enters 15 = .ok (.bipush 64, 2) := by decide +kernel
theorem dX5_enters_17 : decode cX5_enters 17 = .ok (.iload_n 1, 1) := by decide +kernel
theorem dX5_enters_18 : decode cX5_enters 18 = .ok (.imul, 1) := by decide +kernel
theorem dX5_enters_19 : decode cX5_enters 19 = .ok (.iload_n 2, 1) := by decide +kernel
theorem dX5_enters_20 : decode cX5_enters 20 = .ok (.iadd, 1) := by decide +kernel
theorem dX5_enters_21 : decode cX5_enters 21 = .ok (.if_icmp .le 25, 3) := by decide +kernel
theorem dX5_enters_24 : decode cX5_enters 24 = .ok (.aload_n 0, 1) := by decide +kernel
theorem dX5_enters_25 : decode cX5_enters 25 = .ok (.getfield 26, 3) := by decide +kernel
theorem dX5_enters_28 : decode cX5_enters 28 = .ok (.iload 4, 2) := by decide +kernel
theorem dX5_enters_30 : decode cX5_enters 30 = .ok (.aload_n 0, 1) := by decide +kernel
theorem dX5_enters_31 : decode cX5_enters 31 = .ok (.getfield 26, 3) := by decide +kernel
theorem dX5_enters_34 : decode cX5_enters 34 = .ok (.iload 4, 2) := by decide +kernel
theorem dX5_enters_36 : decode cX5_enters 36 = .ok (.iconst 1, 1) := by decide +kernel
theorem dX5_enters_37 : decode cX5_enters 37 = .ok (.isub, 1) := by decide +kernel
theorem dX5_enters_38 : decode cX5_enters 38 = .ok (.iaload, 1) := by decide +kernel
theorem dX5_enters_39 : decode cX5_enters 39 = .ok (.iastore, 1) := by decide +kernel
theorem dX5_enters_40 : decode cX5_enters 40 = .ok (.iinc 4 (-1), 3) := by decide +kernel
theorem dX5_enters_43 : decode cX5_enters 43 = .ok (.goto (-30), 3) := by decide +kernel
theorem dX5_enters_46 : decode cX5_enters 46 = .ok (.aload_n 0, 1) := by decide +kernel
theorem dX5_enters_47 : decode cX5_enters 47 = .ok (.getfield 26, 3) := by decide +kernel
theorem dX5_enters_50 : decode cX5_enters 50 = .ok (.bipush 64, 2) := by decide +kernel
theorem dX5_enters_52 : decode cX5_enters 52 = .ok (.iload_n 1, 1) := by decide +kernel
theorem dX5_enters_53 : decode cX5_enters 53 = .ok (.imul, 1) := by decide +kernel
theorem dX5_enters_54 : decode cX5_enters 54 = .ok (.iload_n 2, 1) := by decide +kernel
theorem dX5_enters_55 : decode cX5_enters 55 = .ok (.iadd, 1) := by decide +kernel
theorem dX5_enters_56 : decode cX5_enters 56 = .ok (.iload_n 3, 1) := by decide +kernel
theorem dX5_enters_57 : decode cX5_enters 57 = .ok (.iastore, 1) := by decide +kernel
theorem dX5_enters_58 : decode cX5_enters 58 = .ok (.aload_n 0, 1) := by decide +kernel
theorem dX5_enters_59 : decode cX5_enters 59 = .ok (.getfield 23, 3) := by decide +kernel
theorem dX5_enters_62 : decode cX5_enters 62 = .ok (.iload_n 1, 1) := by decide +kernel
theorem dX5_enters_63 : decode cX5_enters 63 = .ok (.dup2, 1) := by decide +kernel
theorem dX5_enters_64 : decode cX5_enters 64 = .ok (.iaload, 1) := by decide +kernel
theorem dX5_enters_65 : decode cX5_enters 65 = .ok (.iconst 1, 1) := by decide +kernel
theorem dX5_enters_66 : decode cX5_enters 66 = .ok (.iadd, 1) := by decide +kernel
theorem dX5_enters_67 : decode cX5_enters 67 = .ok (.iastore, 1) := by decide +kernel
theorem dX5_enters_68 : decode cX5_enters 68 = .ok (.return_, 1) := by decide +kernel
theorem dX5_goes_0 : decode cX5_goes 0 = .ok (.aload_n 0, 1) := by decide +kernel
theorem dX5_goes_1 : decode cX5_goes 1 = .ok (.getfield 23, 3) := by decide +kernel
theorem dX5_goes_4 : decode cX5_goes 4 = .ok (.iload_n 1, 1) := by decide +kernel
theorem dX5_goes_5 : decode cX5_goes 5 = .ok (.dup2, 1) := by decide +kernel
theorem dX5_goes_6 : decode cX5_goes 6 = .ok (.iaload, 1) := by decide +kernel
theorem dX5_goes_7 : decode cX5_goes 7 = .ok (.iconst 1, 1) := by decide +kernel
theorem dX5_goes_8 : decode cX5_goes 8 = .ok (.isub, 1) := by decide +kernel
theorem dX5_goes_9 : decode cX5_goes 9 = .ok (.iastore, 1) := by decide +kernel
theorem dX5_goes_10 : decode cX5_goes 10 = .ok (.bipush 64, 2) := by decide +kernel
theorem dX5_goes_12 : decode cX5_goes 12 = .ok (.iload_n 1, 1) := by decide +kernel
theorem dX5_goes_13 : decode cX5_goes 13 = .ok (.imul, 1) := by decide +kernel
theorem dX5_goes_14 : decode cX5_goes 14 = .ok (.iload_n 2, 1) := by decide +kernel
theorem dX5_goes_15 : decode cX5_goes 15 = .ok (.iadd, 1) := by decide +kernel
theorem dX5_goes_16 : decode cX5_goes 16 = .ok (.istore_n 3, 1) := by decide +kernel
theorem dX5_goes_17 : decode cX5_goes 17 = .ok (.iload_n 3, 1) := by decide +kernel
theorem dX5_goes_18 : decode cX5_goes 18 = .ok (.bipush 64, 2) := by decide +kernel
theorem dX5_goes_20 : decode cX5_goes 20 = .ok (.iload_n 1, 1) := by decide +kernel
theorem dX5_goes_21 : decode cX5_goes 21 = .ok (.imul, 1) := by decide +kernel
theorem dX5_goes_22 : decode cX5_goes 22 = .ok (.aload_n 0, 1) := by decide +kernel
theorem dX5_goes_23 : decode cX5_goes 23 = .ok (.getfield 23, 3) := by decide +kernel
theorem dX5_goes_26 : decode cX5_goes 26 = .ok (.iload_n 1, 1) := by decide +kernel
theorem dX5_goes_27 : decode cX5_goes 27 = .ok (.iaload, 1) := by decide +kernel
theorem dX5_goes_28 : decode cX5_goes 28 = .ok (.iadd, 1) := by decide +kernel
theorem dX5_goes_29 : decode cX5_goes 29 = .ok (.if_icmp .ge 23, 3) := by decide +kernel
theorem dX5_goes_32 : decode cX5_goes 32 = .ok (.aload_n 0, 1) := by decide +kernel
theorem dX5_goes_33 : decode cX5_goes 33 = .ok (.getfield 26, 3) := by decide +kernel
theorem dX5_goes_36 : decode cX5_goes 36 = .ok (.iload_n 3, 1) := by decide +kernel
theorem dX5_goes_37 : decode cX5_goes 37 = .ok (.aload_n 0, 1) := by decide +kernel
theorem dX5_goes_38 : decode cX5_goes 38 = .ok (.getfield 26, 3) := by decide +kernel
theorem dX5_goes_41 : decode cX5_goes 41 = .ok (.iload_n 3, 1) := by decide +kernel
theorem dX5_goes_42 : decode cX5_goes 42 = .ok (.iconst 1, 1) := by decide +kernel
theorem dX5_goes_43 : decode cX5_goes 43 = .ok (.iadd, 1) := by decide +kernel
theorem dX5_goes_44 : decode cX5_goes 44 = .ok (.iaload, 1) := by decide +kernel
theorem dX5_goes_45 : decode cX5_goes 45 = .ok (.iastore, 1) := by decide +kernel
theorem dX5_goes_46 : decode cX5_goes 46 = .ok (.iinc 3 1, 3) := by decide +kernel
theorem dX5_goes_49 : decode cX5_goes 49 = .ok (.goto (-32), 3) := by decide +kernel
theorem dX5_goes_52 : decode cX5_goes 52 = .ok (.return_, 1) := by decide +kernel
set_option maxRecDepth 20000 in
theorem ggX5_shares_X5_many : GoodIn wsX5_shares wsX5_many := goodIn_r _ [6, 1, 7, 8, 9, 10, 11, 12, 13, 14, 15, 16, 17, 18, 19, 20, 21, 22] (by decide +kernel) (by decide +kernel)
set_option maxRecDepth 20000 in
theorem gX5_shares_X5_many : GoodIn wsX5_shares (wsV RX5 36 RX5 yX5_many wsX5_many) := goodIn_app (goodIn_of _ (by decide +kernel)) ggX5_shares_X5_many
theorem dX5_shares_0 : decode cX5_shares 0 = .ok (.aload_n 0, 1) := by decide +kernel
theorem dX5_shares_1 : decode cX5_shares 1 = .ok (.iload_n 1, 1) := by decide +kernel
theorem dX5_shares_2 : decode cX5_shares 2 = .ok (.iload_n 2, 1) := by decide +kernel
theorem dX5_shares_3 : decode cX5_shares 3 = .ok (.invokevirtual 36, 3) := by decide +kernel
theorem dX5_shares_6 : decode cX5_shares 6 = .ok (.aload_n 0, 1) := by decide +kernel
theorem dX5_shares_7 : decode cX5_shares 7 = .ok (.iload_n 1, 1) := by decide +kernel
theorem dX5_shares_8 : decode cX5_shares 8 = .ok (.iload_n 2, 1) := by decide +kernel
theorem dX5_shares_9 : decode cX5_shares 9 = .ok (.iconst 1, 1) := by decide +kernel
theorem dX5_shares_10 : decode cX5_shares 10 = .ok (.iadd, 1) := by decide +kernel
theorem dX5_shares_11 : decode cX5_shares 11 = .ok (.invokevirtual 36, 3) := by decide +kernel
theorem dX5_shares_14 : decode cX5_shares 14 = .ok (.iadd, 1) := by decide +kernel
theorem dX5_shares_15 : decode cX5_shares 15 = .ok (.istore_n 3, 1) := by decide +kernel
theorem dX5_shares_16 : decode cX5_shares 16 = .ok (.aload_n 0, 1) := by decide +kernel
theorem dX5_shares_17 : decode cX5_shares 17 = .ok (.getfield 26, 3) := by decide +kernel
theorem dX5_shares_20 : decode cX5_shares 20 = .ok (.bipush 64, 2) := by decide +kernel
theorem dX5_shares_22 : decode cX5_shares 22 = .ok (.iload_n 1, 1) := by decide +kernel
theorem dX5_shares_23 : decode cX5_shares 23 = .ok (.imul, 1) := by decide +kernel
theorem dX5_shares_24 : decode cX5_shares 24 = .ok (.iload_n 2, 1) := by decide +kernel
theorem dX5_shares_25 : decode cX5_shares 25 = .ok (.iadd, 1) := by decide +kernel
theorem dX5_shares_26 : decode cX5_shares 26 = .ok (.iload_n 3, 1) := by decide +kernel
theorem dX5_shares_27 : decode cX5_shares 27 = .ok (.iconst 1, 1) := by decide +kernel
theorem dX5_shares_28 : decode cX5_shares 28 = .ok (.iadd, 1) := by decide +kernel
theorem dX5_shares_29 : decode cX5_shares 29 = .ok (.iconst 2, 1) := by decide +kernel
theorem dX5_shares_30 : decode cX5_shares 30 = .ok (.idiv, 1) := by decide +kernel
theorem dX5_shares_31 : decode cX5_shares 31 = .ok (.iastore, 1) := by decide +kernel
theorem dX5_shares_32 : decode cX5_shares 32 = .ok (.aload_n 0, 1) := by decide +kernel
theorem dX5_shares_33 : decode cX5_shares 33 = .ok (.getfield 26, 3) := by decide +kernel
theorem dX5_shares_36 : decode cX5_shares 36 = .ok (.bipush 64, 2) := by decide +kernel
theorem dX5_shares_38 : decode cX5_shares 38 = .ok (.iload_n 1, 1) := by decide +kernel
theorem dX5_shares_39 : decode cX5_shares 39 = .ok (.imul, 1) := by decide +kernel
theorem dX5_shares_40 : decode cX5_shares 40 = .ok (.iload_n 2, 1) := by decide +kernel
theorem dX5_shares_41 : decode cX5_shares 41 = .ok (.iadd, 1) := by decide +kernel
theorem dX5_shares_42 : decode cX5_shares 42 = .ok (.iconst 1, 1) := by decide +kernel
theorem dX5_shares_43 : decode cX5_shares 43 = .ok (.iadd, 1) := by decide +kernel
theorem dX5_shares_44 : decode cX5_shares 44 = .ok (.iload_n 3, 1) := by decide +kernel
theorem dX5_shares_45 : decode cX5_shares 45 = .ok (.iconst 2, 1) := by decide +kernel
theorem dX5_shares_46 : decode cX5_shares 46 = .ok (.idiv, 1) := by decide +kernel
theorem dX5_shares_47 : decode cX5_shares 47 = .ok (.iastore, 1) := by decide +kernel
theorem dX5_shares_48 : decode cX5_shares 48 = .ok (.return_, 1) := by decide +kernel
set_option maxRecDepth 20000 in
theorem ggX5_grows_X5_many : GoodIn wsX5_grows wsX5_many := goodIn_r _ [8, 1, 29, 30, 31, 32, 33, 34, 35, 36, 37, 38, 39, 40, 41, 42, 43, 44] (by decide +kernel) (by decide +kernel)
set_option maxRecDepth 20000 in
theorem gX5_grows_X5_many : GoodIn wsX5_grows (wsV RX5 36 RX5 yX5_many wsX5_many) := goodIn_app (goodIn_of _ (by decide +kernel)) ggX5_grows_X5_many
set_option maxRecDepth 20000 in
theorem ggX5_grows_X5_partner : GoodIn wsX5_grows wsX5_partner := goodIn_r _ [12, 2, 13, 14, 15, 7, 16, 17, 18, 19, 20, 4, 5, 6, 8, 1, 29, 30, 31, 32, 33, 34, 35, 36, 37, 38, 39, 40, 41, 42, 43, 44] (by decide +kernel) (by decide +kernel)
set_option maxRecDepth 20000 in
theorem gX5_grows_X5_partner : GoodIn wsX5_grows (wsV RX5 49 RX5 yX5_partner wsX5_partner) := goodIn_app (goodIn_of _ (by decide +kernel)) ggX5_grows_X5_partner
set_option maxRecDepth 20000 in
theorem ggX5_grows_X5_above : GoodIn wsX5_grows wsX5_above := goodIn_r _ [16, 17, 18, 19, 7, 20, 4, 5, 6, 8, 1, 29, 30, 31, 32, 33, 34, 35, 36, 37, 38, 39, 40, 41, 42, 43, 44] (by decide +kernel) (by decide +kernel)
set_option maxRecDepth 20000 in
theorem gX5_grows_X5_above : GoodIn wsX5_grows (wsV RX5 46 RX5 yX5_above wsX5_above) := goodIn_app (goodIn_of _ (by decide +kernel)) ggX5_grows_X5_above
set_option maxRecDepth 20000 in
theorem ggX5_grows_X5_enters : GoodIn wsX5_grows wsX5_enters := goodIn_r _ [24, 3, 1, 29, 30, 31, 32, 33, 34, 35, 36, 37, 38, 39, 40, 41, 42, 43, 44] (by decide +kernel) (by decide +kernel)
set_option maxRecDepth 20000 in
theorem gX5_grows_X5_enters : GoodIn wsX5_grows (wsV RX5 52 RX5 yX5_enters wsX5_enters) := goodIn_app (goodIn_of _ (by decide +kernel)) ggX5_grows_X5_enters
set_option maxRecDepth 20000 in
theorem ggX5_grows_X5_shares : GoodIn wsX5_grows wsX5_shares := goodIn_r _ [28, 1, 4, 5, 6, 7, 8, 29, 30, 31, 32, 33, 34, 35, 36, 37, 38, 39, 40, 41, 42, 43, 44] (by decide +kernel) (by decide +kernel)
set_option maxRecDepth 20000 in
theorem gX5_grows_X5_shares : GoodIn wsX5_grows (wsV RX5 56 RX5 yX5_shares wsX5_shares) := goodIn_app (goodIn_of _ (by decide +kernel)) ggX5_grows_X5_shares
theorem dX5_grows_0 : decode cX5_grows 0 = .ok (.iload_n 1, 1) := by decide +kernel
theorem dX5_grows_1 : decode cX5_grows 1 = .ok (.istore_n 3, 1) := by decide +kernel
theorem dX5_grows_2 : decode cX5_grows 2 = .ok (.iload_n 2, 1) := by decide +kernel
theorem dX5_grows_3 : decode cX5_grows 3 = .ok (.istore 4, 2) := by decide +kernel
theorem dX5_grows_5 : decode cX5_grows 5 = .ok (.aload_n 0, 1) := by decide +kernel
theorem dX5_grows_6 : decode cX5_grows 6 = .ok (.getfield 26, 3) := by decide +kernel
theorem dX5_grows_9 : decode cX5_grows 9 = .ok (.bipush 64, 2) := by decide +kernel
theorem dX5_grows_11 : decode cX5_grows 11 = .ok (.iload_n 3, 1) := by decide +kernel
theorem dX5_grows_12 : decode cX5_grows 12 = .ok (.imul, 1) := by decide +kernel
theorem dX5_grows_13 : decode cX5_grows 13 = .ok (.iload 4, 2) := by decide +kernel
theorem dX5_grows_15 : decode cX5_grows 15 = .ok (.iadd, 1) := by decide +kernel
theorem dX5_grows_16 : decode cX5_grows 16 = .ok (.dup2, 1) := by decide +kernel
theorem dX5_grows_17 : decode cX5_grows 17 = .ok (.iaload, 1) := by decide +kernel
theorem dX5_grows_18 : decode cX5_grows 18 = .ok (.iconst 1, 1) := by decide +kernel
theorem dX5_grows_19 : decode cX5_grows 19 = .ok (.iadd, 1) := by decide +kernel
theorem dX5_grows_20 : decode cX5_grows 20 = .ok (.iastore, 1) := by decide +kernel
theorem dX5_grows_21 : decode cX5_grows 21 = .ok (.aload_n 0, 1) := by decide +kernel
theorem dX5_grows_22 : decode cX5_grows 22 = .ok (.iload_n 3, 1) := by decide +kernel
theorem dX5_grows_23 : decode cX5_grows 23 = .ok (.iload 4, 2) := by decide +kernel
theorem dX5_grows_25 : decode cX5_grows 25 = .ok (.invokevirtual 36, 3) := by decide +kernel
theorem dX5_grows_28 : decode cX5_grows 28 = .ok (.iconst 4, 1) := by decide +kernel
theorem dX5_grows_29 : decode cX5_grows 29 = .ok (.if_icmp .le 7, 3) := by decide +kernel
theorem dX5_grows_32 : decode cX5_grows 32 = .ok (.iconst 1, 1) := by decide +kernel
theorem dX5_grows_33 : decode cX5_grows 33 = .ok (.goto 4, 3) := by decide +kernel
theorem dX5_grows_36 : decode cX5_grows 36 = .ok (.iconst 0, 1) := by decide +kernel
theorem dX5_grows_37 : decode cX5_grows 37 = .ok (.istore 5, 2) := by decide +kernel
theorem dX5_grows_39 : decode cX5_grows 39 = .ok (.iload 5, 2) := by decide +kernel
theorem dX5_grows_41 : decode cX5_grows 41 = .ok (.ifCond .eq 254, 3) := by decide +kernel
theorem dX5_grows_44 : decode cX5_grows 44 = .ok (.aload_n 0, 1) := by decide +kernel
theorem dX5_grows_45 : decode cX5_grows 45 = .ok (.iload_n 3, 1) := by decide +kernel
theorem dX5_grows_46 : decode cX5_grows 46 = .ok (.iload 4, 2) := by decide +kernel
theorem dX5_grows_48 : decode cX5_grows 48 = .ok (.invokevirtual 49, 3) := by decide +kernel
theorem dX5_grows_51 : decode cX5_grows 51 = .ok (.istore 6, 2) := by decide +kernel
theorem dX5_grows_53 : decode cX5_grows 53 = .ok (.iload 6, 2) := by decide +kernel
theorem dX5_grows_55 : decode cX5_grows 55 = .ok (.iload 4, 2) := by decide +kernel
theorem dX5_grows_57 : decode cX5_grows 57 = .ok (.if_icmp .ge 8, 3) := by decide +kernel
theorem dX5_grows_60 : decode cX5_grows 60 = .ok (.iload 6, 2) := by decide +kernel
theorem dX5_grows_62 : decode cX5_grows 62 = .ok (.goto 5, 3) := by decide +kernel
theorem dX5_grows_65 : decode cX5_grows 65 = .ok (.iload 4, 2) := by decide +kernel
theorem dX5_grows_67 : decode cX5_grows 67 = .ok (.istore 7, 2) := by decide +kernel
theorem dX5_grows_69 : decode cX5_grows 69 = .ok (.iload_n 3, 1) := by decide +kernel
theorem dX5_grows_70 : decode cX5_grows 70 = .ok (.aload_n 0, 1) := by decide +kernel
theorem dX5_grows_71 : decode cX5_grows 71 = .ok (.getfield 43, 3) := by decide +kernel
theorem dX5_grows_74 : decode cX5_grows 74 = .ok (.iconst 1, 1) := by decide +kernel
theorem dX5_grows_75 : decode cX5_grows 75 = .ok (.isub, 1) := by decide +kernel
theorem dX5_grows_76 : decode cX5_grows 76 = .ok (.if_icmp .ne 7, 3) := by decide +kernel
theorem dX5_grows_79 : decode cX5_grows 79 = .ok (.iconst 0, 1) := by decide +kernel
theorem dX5_grows_80 : decode cX5_grows 80 = .ok (.goto 10, 3) := by decide +kernel
theorem dX5_grows_83 : decode cX5_grows 83 = .ok (.aload_n 0, 1) := by decide +kernel
theorem dX5_grows_84 : decode cX5_grows 84 = .ok (.iload_n 3, 1) := by decide +kernel
theorem dX5_grows_85 : decode cX5_grows 85 = .ok (.iload 4, 2) := by decide +kernel
theorem dX5_grows_87 : decode cX5_grows 87 = .ok (.invokevirtual 46, 3) := by decide +kernel
theorem dX5_grows_90 : decode cX5_grows 90 = .ok (.istore 8, 2) := by decide +kernel
theorem dX5_grows_92 : decode cX5_grows 92 = .ok (.iload 6, 2) := by decide +kernel
theorem dX5_grows_94 : decode cX5_grows 94 = .ok (.iload 4, 2) := by decide +kernel
theorem dX5_grows_96 : decode cX5_grows 96 = .ok (.if_icmp .eq 14, 3) := by decide +kernel
theorem dX5_grows_99 : decode cX5_grows 99 = .ok (.aload_n 0, 1) := by decide +kernel
theorem dX5_grows_100 : decode cX5_grows 100 = .ok (.iload_n 3, 1) := by decide +kernel
theorem dX5_grows_101 : decode cX5_grows 101 = .ok (.iload 6, 2) := by decide +kernel
theorem dX5_grows_103 : decode cX5_grows 103 = .ok (.invokevirtual 36, 3) := by decide +kernel
theorem dX5_grows_106 : decode cX5_grows 106 = .ok (.iconst 4, 1) := by decide +kernel
theorem dX5_grows_107 : decode cX5_grows 107 = .ok (.if_icmp .ne 7, 3) := by decide +kernel
theorem dX5_grows_110 : decode cX5_grows 110 = .ok (.iconst 1, 1) := by decide +kernel
theorem dX5_grows_111 : decode cX5_grows 111 = .ok (.goto 4, 3) := by decide +kernel
theorem dX5_grows_114 : decode cX5_grows 114 = .ok (.iconst 0, 1) := by decide +kernel
theorem dX5_grows_115 : decode cX5_grows 115 = .ok (.istore 5, 2) := by decide +kernel
theorem dX5_grows_117 : decode cX5_grows 117 = .ok (.iload 6, 2) := by decide +kernel
theorem dX5_grows_119 : decode cX5_grows 119 = .ok (.iload 4, 2) := by decide +kernel
theorem dX5_grows_121 : decode cX5_grows 121 = .ok (.if_icmp .ne 29, 3) := by decide +kernel
theorem dX5_grows_124 : decode cX5_grows 124 = .ok (.aload_n 0, 1) := by decide +kernel
theorem dX5_grows_125 : decode cX5_grows 125 = .ok (.getfield 26, 3) := by decide +kernel
theorem dX5_grows_128 : decode cX5_grows 128 = .ok (.bipush 64, 2) := by decide +kernel
theorem dX5_grows_130 : decode cX5_grows 130 = .ok (.iload_n 3, 1) := by decide +kernel
theorem dX5_grows_131 : decode cX5_grows 131 = .ok (.imul, 1) := by decide +kernel
theorem dX5_grows_132 : decode cX5_grows 132 = .ok (.iload 4, 2) := by decide +kernel
theorem dX5_grows_134 : decode cX5_grows 134 = .ok (.iadd, 1) := by decide +kernel
theorem dX5_grows_135 : decode cX5_grows 135 = .ok (.iconst 3, 1) := by decide +kernel
theorem dX5_grows_136 : decode cX5_grows 136 = .ok (.iastore, 1) := by decide +kernel
theorem dX5_grows_137 : decode cX5_grows 137 = .ok (.aload_n 0, 1) := by decide +kernel
theorem dX5_grows_138 : decode cX5_grows 138 = .ok (.iload_n 3, 1) := by decide +kernel
theorem dX5_grows_139 : decode cX5_grows 139 = .ok (.iload 4, 2) := by decide +kernel
theorem dX5_grows_141 : decode cX5_grows 141 = .ok (.iconst 1, 1) := by decide +kernel
theorem dX5_grows_142 : decode cX5_grows 142 = .ok (.iadd, 1) := by decide +kernel
theorem dX5_grows_143 : decode cX5_grows 143 = .ok (.iconst 2, 1) := by decide +kernel
theorem dX5_grows_144 : decode cX5_grows 144 = .ok (.invokevirtual 52, 3) := by decide +kernel
theorem dX5_grows_147 : decode cX5_grows 147 = .ok (.goto 56, 3) := by decide +kernel
theorem dX5_grows_150 : decode cX5_grows 150 = .ok (.iload 5, 2) := by decide +kernel
theorem dX5_grows_152 : decode cX5_grows 152 = .ok (.ifCond .eq 44, 3) := by decide +kernel
theorem dX5_grows_155 : decode cX5_grows 155 = .ok (.aload_n 0, 1) := by decide +kernel
theorem dX5_grows_156 : decode cX5_grows 156 = .ok (.getfield 26, 3) := by decide +kernel
theorem dX5_grows_159 : decode cX5_grows 159 = .ok (.bipush 64, 2) := by decide +kernel
theorem dX5_grows_161 : decode cX5_grows 161 = .ok (.iload_n 3, 1) := by decide +kernel
theorem dX5_grows_162 : decode cX5_grows 162 = .ok (.imul, 1) := by decide +kernel
theorem dX5_grows_163 : decode cX5_grows 163 = .ok (.iload 7, 2) := by decide +kernel
theorem dX5_grows_165 : decode cX5_grows 165 = .ok (.iadd, 1) := by decide +kernel
theorem dX5_grows_166 : decode cX5_grows 166 = .ok (.iconst 3, 1) := by decide +kernel
theorem dX5_grows_167 : decode cX5_grows 167 = .ok (.iastore, 1) := by decide +kernel
theorem dX5_grows_168 : decode cX5_grows 168 = .ok (.aload_n 0, 1) := by decide +kernel
theorem dX5_grows_169 : decode cX5_grows 169 = .ok (.getfield 26, 3) := by decide +kernel
theorem dX5_grows_172 : decode cX5_grows 172 = .ok (.bipush 64, 2) := by decide +kernel
theorem dX5_grows_174 : decode cX5_grows 174 = .ok (.iload_n 3, 1) := by decide +kernel
theorem dX5_grows_175 : decode cX5_grows 175 = .ok (.imul, 1) := by decide +kernel
theorem dX5_grows_176 : decode cX5_grows 176 = .ok (.iload 7, 2) := by decide +kernel
theorem dX5_grows_178 : decode cX5_grows 178 = .ok (.iadd, 1) := by decide +kernel
theorem dX5_grows_179 : decode cX5_grows 179 = .ok (.iconst 1, 1) := by decide +kernel
theorem dX5_grows_180 : decode cX5_grows 180 = .ok (.iadd, 1) := by decide +kernel
theorem dX5_grows_181 : decode cX5_grows 181 = .ok (.iconst 3, 1) := by decide +kernel
theorem dX5_grows_182 : decode cX5_grows 182 = .ok (.iastore, 1) := by decide +kernel
theorem dX5_grows_183 : decode cX5_grows 183 = .ok (.aload_n 0, 1) := by decide +kernel
theorem dX5_grows_184 : decode cX5_grows 184 = .ok (.iload_n 3, 1) := by decide +kernel
theorem dX5_grows_185 : decode cX5_grows 185 = .ok (.iload 7, 2) := by decide +kernel
theorem dX5_grows_187 : decode cX5_grows 187 = .ok (.iconst 2, 1) := by decide +kernel
theorem dX5_grows_188 : decode cX5_grows 188 = .ok (.iadd, 1) := by decide +kernel
theorem dX5_grows_189 : decode cX5_grows 189 = .ok (.iconst 3, 1) := by decide +kernel
theorem dX5_grows_190 : decode cX5_grows 190 = .ok (.invokevirtual 52, 3) := by decide +kernel
theorem dX5_grows_193 : decode cX5_grows 193 = .ok (.goto 10, 3) := by decide +kernel
theorem dX5_grows_196 : decode cX5_grows 196 = .ok (.aload_n 0, 1) := by decide +kernel
theorem dX5_grows_197 : decode cX5_grows 197 = .ok (.iload_n 3, 1) := by decide +kernel
theorem dX5_grows_198 : decode cX5_grows 198 = .ok (.iload 7, 2) := by decide +kernel
theorem dX5_grows_200 : decode cX5_grows 200 = .ok (.invokevirtual 56, 3) := by decide +kernel
theorem dX5_grows_203 : decode cX5_grows 203 = .ok (.iload 5, 2) := by decide +kernel
theorem dX5_grows_205 : decode cX5_grows 205 = .ok (.ifCond .eq 87, 3) := by decide +kernel
theorem dX5_grows_208 : decode cX5_grows 208 = .ok (.iload_n 3, 1) := by decide +kernel
theorem dX5_grows_209 : decode cX5_grows 209 = .ok (.aload_n 0, 1) := by decide +kernel
theorem dX5_grows_210 : decode cX5_grows 210 = .ok (.getfield 43, 3) := by decide +kernel
theorem dX5_grows_213 : decode cX5_grows 213 = .ok (.iconst 1, 1) := by decide +kernel
theorem dX5_grows_214 : decode cX5_grows 214 = .ok (.isub, 1) := by decide +kernel
theorem dX5_grows_215 : decode cX5_grows 215 = .ok (.if_icmp .ne 36, 3) := by decide +kernel
theorem dX5_grows_218 : decode cX5_grows 218 = .ok (.aload_n 0, 1) := by decide +kernel
theorem dX5_grows_219 : decode cX5_grows 219 = .ok (.getfield 23, 3) := by decide +kernel
theorem dX5_grows_222 : decode cX5_grows 222 = .ok (.aload_n 0, 1) := by decide +kernel
theorem dX5_grows_223 : decode cX5_grows 223 = .ok (.getfield 43, 3) := by decide +kernel
theorem dX5_grows_226 : decode cX5_grows 226 = .ok (.iconst 1, 1) := by decide +kernel
theorem dX5_grows_227 : decode cX5_grows 227 = .ok (.iastore, 1) := by decide +kernel
theorem dX5_grows_228 : decode cX5_grows 228 = .ok (.aload_n 0, 1) := by decide +kernel
theorem dX5_grows_229 : decode cX5_grows 229 = .ok (.getfield 26, 3) := by decide +kernel
theorem dX5_grows_232 : decode cX5_grows 232 = .ok (.bipush 64, 2) := by decide +kernel
theorem dX5_grows_234 : decode cX5_grows 234 = .ok (.aload_n 0, 1) := by decide +kernel
theorem dX5_grows_235 : decode cX5_grows 235 = .ok (.getfield 43, 3) := by decide +kernel
theorem dX5_grows_238 : decode cX5_grows 238 = .ok (.imul, 1) := by decide +kernel
theorem dX5_grows_239 : decode cX5_grows 239 = .ok (.iconst 1, 1) := by decide +kernel
theorem dX5_grows_240 : decode cX5_grows 240 = .ok (.iastore, 1) := by decide +kernel
theorem dX5_grows_241 : decode cX5_grows 241 = .ok (.aload_n 0, 1) := by decide +kernel
theorem dX5_grows_242 : decode cX5_grows 242 = .ok (.dup, 1) := by decide +kernel
theorem dX5_grows_243 : decode cX5_grows 243 = .ok (.getfield 43, 3) := by decide +kernel
theorem dX5_grows_246 : decode cX5_grows 246 = .ok (.iconst 1, 1) := by decide +kernel
theorem dX5_grows_247 : decode cX5_grows 247 = .ok (.iadd, 1) := by decide +kernel
theorem dX5_grows_248 : decode cX5_grows 248 = .ok (.putfield 43, 3) := by decide +kernel
theorem dX5_grows_251 : decode cX5_grows 251 = .ok (.iinc 3 1, 3) := by decide +kernel
theorem dX5_grows_254 : decode cX5_grows 254 = .ok (.iload 8, 2) := by decide +kernel
theorem dX5_grows_256 : decode cX5_grows 256 = .ok (.istore 4, 2) := by decide +kernel
theorem dX5_grows_258 : decode cX5_grows 258 = .ok (.aload_n 0, 1) := by decide +kernel
theorem dX5_grows_259 : decode cX5_grows 259 = .ok (.getfield 26, 3) := by decide +kernel
theorem dX5_grows_262 : decode cX5_grows 262 = .ok (.bipush 64, 2) := by decide +kernel
theorem dX5_grows_264 : decode cX5_grows 264 = .ok (.iload_n 3, 1) := by decide +kernel
theorem dX5_grows_265 : decode cX5_grows 265 = .ok (.imul, 1) := by decide +kernel
theorem dX5_grows_266 : decode cX5_grows 266 = .ok (.iload 4, 2) := by decide +kernel
theorem dX5_grows_268 : decode cX5_grows 268 = .ok (.iadd, 1) := by decide +kernel
theorem dX5_grows_269 : decode cX5_grows 269 = .ok (.dup2, 1) := by decide +kernel
theorem dX5_grows_270 : decode cX5_grows 270 = .ok (.iaload, 1) := by decide +kernel
theorem dX5_grows_271 : decode cX5_grows 271 = .ok (.iconst 1, 1) := by decide +kernel
theorem dX5_grows_272 : decode cX5_grows 272 = .ok (.iadd, 1) := by decide +kernel
theorem dX5_grows_273 : decode cX5_grows 273 = .ok (.iastore, 1) := by decide +kernel
theorem dX5_grows_274 : decode cX5_grows 274 = .ok (.aload_n 0, 1) := by decide +kernel
theorem dX5_grows_275 : decode cX5_grows 275 = .ok (.iload_n 3, 1) := by decide +kernel
theorem dX5_grows_276 : decode cX5_grows 276 = .ok (.iload 4, 2) := by decide +kernel
theorem dX5_grows_278 : decode cX5_grows 278 = .ok (.invokevirtual 36, 3) := by decide +kernel
theorem dX5_grows_281 : decode cX5_grows 281 = .ok (.iconst 4, 1) := by decide +kernel
theorem dX5_grows_282 : decode cX5_grows 282 = .ok (.if_icmp .le 7, 3) := by decide +kernel
theorem dX5_grows_285 : decode cX5_grows 285 = .ok (.iconst 1, 1) := by decide +kernel
theorem dX5_grows_286 : decode cX5_grows 286 = .ok (.goto 4, 3) := by decide +kernel
theorem dX5_grows_289 : decode cX5_grows 289 = .ok (.iconst 0, 1) := by decide +kernel
theorem dX5_grows_290 : decode cX5_grows 290 = .ok (.istore 5, 2) := by decide +kernel
theorem dX5_grows_292 : decode cX5_grows 292 = .ok (.goto (-253), 3) := by decide +kernel
theorem dX5_grows_295 : decode cX5_grows 295 = .ok (.return_, 1) := by decide +kernel
set_option maxRecDepth 20000 in
theorem ggX5_shrinks_X5_many : GoodIn wsX5_shrinks wsX5_many := goodIn_r _ [8, 1, 30, 31, 32, 33, 34, 35, 36, 37, 38, 39, 40, 41, 42, 43, 44, 45] (by decide +kernel) (by decide +kernel)
set_option maxRecDepth 20000 in
theorem gX5_shrinks_X5_many : GoodIn wsX5_shrinks (wsV RX5 36 RX5 yX5_many wsX5_many) := goodIn_app (goodIn_of _ (by decide +kernel)) ggX5_shrinks_X5_many
set_option maxRecDepth 20000 in
theorem ggX5_shrinks_X5_partner : GoodIn wsX5_shrinks wsX5_partner := goodIn_r _ [12, 2, 13, 14, 15, 7, 16, 17, 18, 19, 20, 4, 5, 6, 8, 1, 30, 31, 32, 33, 34, 35, 36, 37, 38, 39, 40, 41, 42, 43, 44, 45] (by decide +kernel) (by decide +kernel)
set_option maxRecDepth 20000 in
theorem gX5_shrinks_X5_partner : GoodIn wsX5_shrinks (wsV RX5 49 RX5 yX5_partner wsX5_partner) := goodIn_app (goodIn_of _ (by decide +kernel)) ggX5_shrinks_X5_partner
set_option maxRecDepth 20000 in
theorem ggX5_shrinks_X5_above : GoodIn wsX5_shrinks wsX5_above := goodIn_r _ [16, 17, 18, 19, 7, 20, 4, 5, 6, 8, 1, 30, 31, 32, 33, 34, 35, 36, 37, 38, 39, 40, 41, 42, 43, 44, 45] (by decide +kernel) (by decide +kernel)
set_option maxRecDepth 20000 in
theorem gX5_shrinks_X5_above : GoodIn wsX5_shrinks (wsV RX5 46 RX5 yX5_above wsX5_above) := goodIn_app (goodIn_of _ (by decide +kernel)) ggX5_shrinks_X5_above
set_option maxRecDepth 20000 in
theorem ggX5_shrinks_X5_goes : GoodIn wsX5_shrinks wsX5_goes := goodIn_r _ [24, 25, 1, 30, 31, 32, 33, 34, 35, 36, 37, 38, 39, 40, 41, 42, 43, 44, 45] (by decide +kernel) (by decide +kernel)
set_option maxRecDepth 20000 in
theorem gX5_shrinks_X5_goes : GoodIn wsX5_shrinks (wsV RX5 60 RX5 yX5_goes wsX5_goes) := goodIn_app (goodIn_of _ (by decide +kernel)) ggX5_shrinks_X5_goes
set_option maxRecDepth 20000 in
theorem ggX5_shrinks_X5_shares : GoodIn wsX5_shrinks wsX5_shares := goodIn_r _ [29, 1, 4, 5, 6, 7, 8, 30, 31, 32, 33, 34, 35, 36, 37, 38, 39, 40, 41, 42, 43, 44, 45] (by decide +kernel) (by decide +kernel)
set_option maxRecDepth 20000 in
theorem gX5_shrinks_X5_shares : GoodIn wsX5_shrinks (wsV RX5 56 RX5 yX5_shares wsX5_shares) := goodIn_app (goodIn_of _ (by decide +kernel)) ggX5_shrinks_X5_shares
theorem dX5_shrinks_0 : decode cX5_shrinks 0 = .ok (.iconst 0, 1) := by decide +kernel
theorem dX5_shrinks_1 : decode cX5_shrinks 1 = .ok (.istore_n 2, 1) := by decide +kernel
theorem dX5_shrinks_2 : decode cX5_shrinks 2 = .ok (.iload_n 1, 1) := by decide +kernel
theorem dX5_shrinks_3 : decode cX5_shrinks 3 = .ok (.istore_n 3, 1) := by decide +kernel
theorem dX5_shrinks_4 : decode cX5_shrinks 4 = .ok (.aload_n 0, 1) := by decide +kernel
theorem dX5_shrinks_5 : decode cX5_shrinks 5 = .ok (.getfield 26, 3) := by decide +kernel
theorem dX5_shrinks_8 : decode cX5_shrinks 8 = .ok (.iload_n 3, 1) := by decide +kernel
theorem dX5_shrinks_9 : decode cX5_shrinks 9 = .ok (.dup2, 1) := by decide +kernel
theorem dX5_shrinks_10 : decode cX5_shrinks 10 = .ok (.iaload, 1) := by decide +kernel
theorem dX5_shrinks_11 : decode cX5_shrinks 11 = .ok (.iconst 1, 1) := by decide +kernel
theorem dX5_shrinks_12 : decode cX5_shrinks 12 = .ok (.isub, 1) := by decide +kernel
theorem dX5_shrinks_13 : decode cX5_shrinks 13 = .ok (.iastore, 1) := by decide +kernel
theorem dX5_shrinks_14 : decode cX5_shrinks 14 = .ok (.iload_n 2, 1) := by decide +kernel
theorem dX5_shrinks_15 : decode cX5_shrinks 15 = .ok (.aload_n 0, 1) := by decide +kernel
theorem dX5_shrinks_16 : decode cX5_shrinks 16 = .ok (.getfield 43, 3) := by decide +kernel
theorem dX5_shrinks_19 : decode cX5_shrinks 19 = .ok (.iconst 1, 1) := by decide +kernel
theorem dX5_shrinks_20 : decode cX5_shrinks 20 = .ok (.isub, 1) := by decide +kernel
theorem dX5_shrinks_21 : decode cX5_shrinks 21 = .ok (.if_icmp .ge 17, 3) := by decide +kernel
theorem dX5_shrinks_24 : decode cX5_shrinks 24 = .ok (.aload_n 0, 1) := by decide +kernel
theorem dX5_shrinks_25 : decode cX5_shrinks 25 = .ok (.iload_n 2, 1) := by decide +kernel
theorem dX5_shrinks_26 : decode cX5_shrinks 26 = .ok (.iload_n 3, 1) := by decide +kernel
theorem dX5_shrinks_27 : decode cX5_shrinks 27 = .ok (.invokevirtual 36, 3) := by decide +kernel
theorem dX5_shrinks_30 : decode cX5_shrinks 30 = .ok (.iconst 2, 1) := by decide +kernel
theorem dX5_shrinks_31 : decode cX5_shrinks 31 = .ok (.if_icmp .ge 7, 3) := by decide +kernel
theorem dX5_shrinks_34 : decode cX5_shrinks 34 = .ok (.iconst 1, 1) := by decide +kernel
theorem dX5_shrinks_35 : decode cX5_shrinks 35 = .ok (.goto 4, 3) := by decide +kernel
theorem dX5_shrinks_38 : decode cX5_shrinks 38 = .ok (.iconst 0, 1) := by decide +kernel
theorem dX5_shrinks_39 : decode cX5_shrinks 39 = .ok (.istore 4, 2) := by decide +kernel
theorem dX5_shrinks_41 : decode cX5_shrinks 41 = .ok (.iload 4, 2) := by decide +kernel
theorem dX5_shrinks_43 : decode cX5_shrinks 43 = .ok (.ifCond .eq 196, 3) := by decide +kernel
theorem dX5_shrinks_46 : decode cX5_shrinks 46 = .ok (.aload_n 0, 1) := by decide +kernel
theorem dX5_shrinks_47 : decode cX5_shrinks 47 = .ok (.iload_n 2, 1) := by decide +kernel
theorem dX5_shrinks_48 : decode cX5_shrinks 48 = .ok (.iload_n 3, 1) := by decide +kernel
theorem dX5_shrinks_49 : decode cX5_shrinks 49 = .ok (.invokevirtual 49, 3) := by decide +kernel
theorem dX5_shrinks_52 : decode cX5_shrinks 52 = .ok (.istore 5, 2) := by decide +kernel
theorem dX5_shrinks_54 : decode cX5_shrinks 54 = .ok (.iload 5, 2) := by decide +kernel
theorem dX5_shrinks_56 : decode cX5_shrinks 56 = .ok (.iload_n 3, 1) := by decide +kernel
theorem dX5_shrinks_57 : decode cX5_shrinks 57 = .ok (.if_icmp .ge 8, 3) := by decide +kernel
theorem dX5_shrinks_60 : decode cX5_shrinks 60 = .ok (.iload 5, 2) := by decide +kernel
theorem dX5_shrinks_62 : decode cX5_shrinks 62 = .ok (.goto 4, 3) := by decide +kernel
theorem dX5_shrinks_65 : decode cX5_shrinks 65 = .ok (.iload_n 3, 1) := by decide +kernel
theorem dX5_shrinks_66 : decode cX5_shrinks 66 = .ok (.istore 6, 2) := by decide +kernel
theorem dX5_shrinks_68 : decode cX5_shrinks 68 = .ok (.aload_n 0, 1) := by decide +kernel
theorem dX5_shrinks_69 : decode cX5_shrinks 69 = .ok (.iload_n 2, 1) := by decide +kernel
theorem dX5_shrinks_70 : decode cX5_shrinks 70 = .ok (.iload_n 3, 1) := by decide +kernel
theorem dX5_shrinks_71 : decode cX5_shrinks 71 = .ok (.invokevirtual 46, 3) := by decide +kernel
theorem dX5_shrinks_74 : decode cX5_shrinks 74 = .ok (.istore 7, 2) := by decide +kernel
theorem dX5_shrinks_76 : decode cX5_shrinks 76 = .ok (.aload_n 0, 1) := by decide +kernel
theorem dX5_shrinks_77 : decode cX5_shrinks 77 = .ok (.iload_n 2, 1) := by decide +kernel
theorem dX5_shrinks_78 : decode cX5_shrinks 78 = .ok (.iload_n 3, 1) := by decide +kernel
theorem dX5_shrinks_79 : decode cX5_shrinks 79 = .ok (.invokevirtual 36, 3) := by decide +kernel
theorem dX5_shrinks_82 : decode cX5_shrinks 82 = .ok (.iload 5, 2) := by decide +kernel
theorem dX5_shrinks_84 : decode cX5_shrinks 84 = .ok (.iload_n 3, 1) := by decide +kernel
theorem dX5_shrinks_85 : decode cX5_shrinks 85 = .ok (.if_icmp .ne 7, 3) := by decide +kernel
theorem dX5_shrinks_88 : decode cX5_shrinks 88 = .ok (.iconst 0, 1) := by decide +kernel
theorem dX5_shrinks_89 : decode cX5_shrinks 89 = .ok (.goto 10, 3) := by decide +kernel
theorem dX5_shrinks_92 : decode cX5_shrinks 92 = .ok (.aload_n 0, 1) := by decide +kernel
theorem dX5_shrinks_93 : decode cX5_shrinks 93 = .ok (.iload_n 2, 1) := by decide +kernel
theorem dX5_shrinks_94 : decode cX5_shrinks 94 = .ok (.iload 5, 2) := by decide +kernel
theorem dX5_shrinks_96 : decode cX5_shrinks 96 = .ok (.invokevirtual 36, 3) := by decide +kernel
theorem dX5_shrinks_99 : decode cX5_shrinks 99 = .ok (.iadd, 1) := by decide +kernel
theorem dX5_shrinks_100 : decode cX5_shrinks 100 = .ok (.istore 8, 2) := by decide +kernel
theorem dX5_shrinks_102 : decode cX5_shrinks 102 = .ok (.iload 5, 2) := by decide +kernel
theorem dX5_shrinks_104 : decode cX5_shrinks 104 = .ok (.iload_n 3, 1) := by decide +kernel
theorem dX5_shrinks_105 : decode cX5_shrinks 105 = .ok (.if_icmp .ne 16, 3) := by decide +kernel
theorem dX5_shrinks_108 : decode cX5_shrinks 108 = .ok (.iload 8, 2) := by decide +kernel
theorem dX5_shrinks_110 : decode cX5_shrinks 110 = .ok (.ifCond .ne 7, 3) := by decide +kernel
theorem dX5_shrinks_113 : decode cX5_shrinks 113 = .ok (.iconst 1, 1) := by decide +kernel
theorem dX5_shrinks_114 : decode cX5_shrinks 114 = .ok (.goto 18, 3) := by decide +kernel
theorem dX5_shrinks_117 : decode cX5_shrinks 117 = .ok (.iconst 0, 1) := by decide +kernel
theorem dX5_shrinks_118 : decode cX5_shrinks 118 = .ok (.goto 14, 3) := by decide +kernel
theorem dX5_shrinks_121 : decode cX5_shrinks 121 = .ok (.iload 8, 2) := by decide +kernel
theorem dX5_shrinks_123 : decode cX5_shrinks 123 = .ok (.iconst 4, 1) := by decide +kernel
theorem dX5_shrinks_124 : decode cX5_shrinks 124 = .ok (.if_icmp .gt 7, 3) := by decide +kernel
theorem dX5_shrinks_127 : decode cX5_shrinks 127 = .ok (.iconst 1, 1) := by decide +kernel
theorem dX5_shrinks_128 : decode cX5_shrinks 128 = .ok (.goto 4, 3) := by decide +kernel
theorem dX5_shrinks_131 : decode cX5_shrinks 131 = .ok (.iconst 0, 1) := by decide +kernel
theorem dX5_shrinks_132 : decode cX5_shrinks 132 = .ok (.istore 4, 2) := by decide +kernel
theorem dX5_shrinks_134 : decode cX5_shrinks 134 = .ok (.iload 4, 2) := by decide +kernel
theorem dX5_shrinks_136 : decode cX5_shrinks 136 = .ok (.ifCond .eq 87, 3) := by decide +kernel
theorem dX5_shrinks_139 : decode cX5_shrinks 139 = .ok (.aload_n 0, 1) := by decide +kernel
theorem dX5_shrinks_140 : decode cX5_shrinks 140 = .ok (.getfield 26, 3) := by decide +kernel
theorem dX5_shrinks_143 : decode cX5_shrinks 143 = .ok (.bipush 64, 2) := by decide +kernel
theorem dX5_shrinks_145 : decode cX5_shrinks 145 = .ok (.iload_n 2, 1) := by decide +kernel
theorem dX5_shrinks_146 : decode cX5_shrinks 146 = .ok (.imul, 1) := by decide +kernel
theorem dX5_shrinks_147 : decode cX5_shrinks 147 = .ok (.iload 6, 2) := by decide +kernel
theorem dX5_shrinks_149 : decode cX5_shrinks 149 = .ok (.iadd, 1) := by decide +kernel
theorem dX5_shrinks_150 : decode cX5_shrinks 150 = .ok (.iload 8, 2) := by decide +kernel
theorem dX5_shrinks_152 : decode cX5_shrinks 152 = .ok (.iastore, 1) := by decide +kernel
theorem dX5_shrinks_153 : decode cX5_shrinks 153 = .ok (.aload_n 0, 1) := by decide +kernel
theorem dX5_shrinks_154 : decode cX5_shrinks 154 = .ok (.iload_n 2, 1) := by decide +kernel
theorem dX5_shrinks_155 : decode cX5_shrinks 155 = .ok (.iload 5, 2) := by decide +kernel
theorem dX5_shrinks_157 : decode cX5_shrinks 157 = .ok (.iload_n 3, 1) := by decide +kernel
theorem dX5_shrinks_158 : decode cX5_shrinks 158 = .ok (.if_icmp .ne 7, 3) := by decide +kernel
theorem dX5_shrinks_161 : decode cX5_shrinks 161 = .ok (.iload_n 3, 1) := by decide +kernel
theorem dX5_shrinks_162 : decode cX5_shrinks 162 = .ok (.goto 7, 3) := by decide +kernel
theorem dX5_shrinks_165 : decode cX5_shrinks 165 = .ok (.iload 6, 2) := by decide +kernel
theorem dX5_shrinks_167 : decode cX5_shrinks 167 = .ok (.iconst 1, 1) := by decide +kernel
theorem dX5_shrinks_168 : decode cX5_shrinks 168 = .ok (.iadd, 1) := by decide +kernel
theorem dX5_shrinks_169 : decode cX5_shrinks 169 = .ok (.invokevirtual 60, 3) := by decide +kernel
theorem dX5_shrinks_172 : decode cX5_shrinks 172 = .ok (.iinc 2 1, 3) := by decide +kernel
theorem dX5_shrinks_175 : decode cX5_shrinks 175 = .ok (.iload 7, 2) := by decide +kernel
theorem dX5_shrinks_177 : decode cX5_shrinks 177 = .ok (.istore_n 3, 1) := by decide +kernel
theorem dX5_shrinks_178 : decode cX5_shrinks 178 = .ok (.aload_n 0, 1) := by decide +kernel
theorem dX5_shrinks_179 : decode cX5_shrinks 179 = .ok (.getfield 26, 3) := by decide +kernel
theorem dX5_shrinks_182 : decode cX5_shrinks 182 = .ok (.bipush 64, 2) := by decide +kernel
theorem dX5_shrinks_184 : decode cX5_shrinks 184 = .ok (.iload_n 2, 1) := by decide +kernel
theorem dX5_shrinks_185 : decode cX5_shrinks 185 = .ok (.imul, 1) := by decide +kernel
theorem dX5_shrinks_186 : decode cX5_shrinks 186 = .ok (.iload_n 3, 1) := by decide +kernel
theorem dX5_shrinks_187 : decode cX5_shrinks 187 = .ok (.iadd, 1) := by decide +kernel
theorem dX5_shrinks_188 : decode cX5_shrinks 188 = .ok (.dup2, 1) := by decide +kernel
theorem dX5_shrinks_189 : decode cX5_shrinks 189 = .ok (.iaload, 1) := by decide +kernel
theorem dX5_shrinks_190 : decode cX5_shrinks 190 = .ok (.iconst 1, 1) := by decide +kernel
theorem dX5_shrinks_191 : decode cX5_shrinks 191 = .ok (.isub, 1) := by decide +kernel
theorem dX5_shrinks_192 : decode cX5_shrinks 192 = .ok (.iastore, 1) := by decide +kernel
theorem dX5_shrinks_193 : decode cX5_shrinks 193 = .ok (.iload_n 2, 1) := by decide +kernel
theorem dX5_shrinks_194 : decode cX5_shrinks 194 = .ok (.aload_n 0, 1) := by decide +kernel
theorem dX5_shrinks_195 : decode cX5_shrinks 195 = .ok (.getfield 43, 3) := by decide +kernel
theorem dX5_shrinks_198 : decode cX5_shrinks 198 = .ok (.iconst 1, 1) := by decide +kernel
theorem dX5_shrinks_199 : decode cX5_shrinks 199 = .ok (.isub, 1) := by decide +kernel
theorem dX5_shrinks_200 : decode cX5_shrinks 200 = .ok (.if_icmp .ge 17, 3) := by decide +kernel
theorem dX5_shrinks_203 : decode cX5_shrinks 203 = .ok (.aload_n 0, 1) := by decide +kernel
theorem dX5_shrinks_204 : decode cX5_shrinks 204 = .ok (.iload_n 2, 1) := by decide +kernel
theorem dX5_shrinks_205 : decode cX5_shrinks 205 = .ok (.iload_n 3, 1) := by decide +kernel
theorem dX5_shrinks_206 : decode cX5_shrinks 206 = .ok (.invokevirtual 36, 3) := by decide +kernel
theorem dX5_shrinks_209 : decode cX5_shrinks 209 = .ok (.iconst 2, 1) := by decide +kernel
theorem dX5_shrinks_210 : decode cX5_shrinks 210 = .ok (.if_icmp .ge 7, 3) := by decide +kernel
theorem dX5_shrinks_213 : decode cX5_shrinks 213 = .ok (.iconst 1, 1) := by decide +kernel
theorem dX5_shrinks_214 : decode cX5_shrinks 214 = .ok (.goto 4, 3) := by decide +kernel
theorem dX5_shrinks_217 : decode cX5_shrinks 217 = .ok (.iconst 0, 1) := by decide +kernel
theorem dX5_shrinks_218 : decode cX5_shrinks 218 = .ok (.istore 4, 2) := by decide +kernel
theorem dX5_shrinks_220 : decode cX5_shrinks 220 = .ok (.goto 16, 3) := by decide +kernel
theorem dX5_shrinks_223 : decode cX5_shrinks 223 = .ok (.iload 5, 2) := by decide +kernel
theorem dX5_shrinks_225 : decode cX5_shrinks 225 = .ok (.iload_n 3, 1) := by decide +kernel
theorem dX5_shrinks_226 : decode cX5_shrinks 226 = .ok (.if_icmp .eq 10, 3) := by decide +kernel
theorem dX5_shrinks_229 : decode cX5_shrinks 229 = .ok (.aload_n 0, 1) := by decide +kernel
theorem dX5_shrinks_230 : decode cX5_shrinks 230 = .ok (.iload_n 2, 1) := by decide +kernel
theorem dX5_shrinks_231 : decode cX5_shrinks 231 = .ok (.iload 6, 2) := by decide +kernel
theorem dX5_shrinks_233 : decode cX5_shrinks 233 = .ok (.invokevirtual 56, 3) := by decide +kernel
theorem dX5_shrinks_236 : decode cX5_shrinks 236 = .ok (.goto (-195), 3) := by decide +kernel
theorem dX5_shrinks_239 : decode cX5_shrinks 239 = .ok (.aload_n 0, 1) := by decide +kernel
theorem dX5_shrinks_240 : decode cX5_shrinks 240 = .ok (.getfield 43, 3) := by decide +kernel
theorem dX5_shrinks_243 : decode cX5_shrinks 243 = .ok (.iconst 1, 1) := by decide +kernel
theorem dX5_shrinks_244 : decode cX5_shrinks 244 = .ok (.if_icmp .le 31, 3) := by decide +kernel
theorem dX5_shrinks_247 : decode cX5_shrinks 247 = .ok (.aload_n 0, 1) := by decide +kernel
theorem dX5_shrinks_248 : decode cX5_shrinks 248 = .ok (.aload_n 0, 1) := by decide +kernel
theorem dX5_shrinks_249 : decode cX5_shrinks 249 = .ok (.getfield 43, 3) := by decide +kernel
theorem dX5_shrinks_252 : decode cX5_shrinks 252 = .ok (.iconst 1, 1) := by decide +kernel
theorem dX5_shrinks_253 : decode cX5_shrinks 253 = .ok (.isub, 1) := by decide +kernel
theorem dX5_shrinks_254 : decode cX5_shrinks 254 = .ok (.iconst 0, 1) := by decide +kernel
theorem dX5_shrinks_255 : decode cX5_shrinks 255 = .ok (.invokevirtual 36, 3) := by decide +kernel
theorem dX5_shrinks_258 : decode cX5_shrinks 258 = .ok (.iconst 1, 1) := by decide +kernel
theorem dX5_shrinks_259 : decode cX5_shrinks 259 = .ok (.if_icmp .ne 16, 3) := by decide +kernel
theorem dX5_shrinks_262 : decode cX5_shrinks 262 = .ok (.aload_n 0, 1) := by decide +kernel
theorem dX5_shrinks_263 : decode cX5_shrinks 263 = .ok (.dup, 1) := by decide +kernel
theorem dX5_shrinks_264 : decode cX5_shrinks 264 = .ok (.getfield 43, 3) := by decide +kernel
theorem dX5_shrinks_267 : decode cX5_shrinks 267 = .ok (.iconst 1, 1) := by decide +kernel
theorem dX5_shrinks_268 : decode cX5_shrinks 268 = .ok (.isub, 1) := by decide +kernel
theorem dX5_shrinks_269 : decode cX5_shrinks 269 = .ok (.putfield 43, 3) := by decide +kernel
theorem dX5_shrinks_272 : decode cX5_shrinks 272 = .ok (.goto (-33), 3) := by decide +kernel
theorem dX5_shrinks_275 : decode cX5_shrinks 275 = .ok (.aload_n 0, 1) := by decide +kernel
theorem dX5_shrinks_276 : decode cX5_shrinks 276 = .ok (.aload_n 0, 1) := by decide +kernel
theorem dX5_shrinks_277 : decode cX5_shrinks 277 = .ok (.getfield 63, 3) := by decide +kernel
theorem dX5_shrinks_280 : decode cX5_shrinks 280 = .ok (.ifCond .ne 7, 3) := by decide +kernel
theorem dX5_shrinks_283 : decode cX5_shrinks 283 = .ok (.iconst 0, 1) := by decide +kernel
theorem dX5_shrinks_284 : decode cX5_shrinks 284 = .ok (.goto 7, 3) := by decide +kernel
theorem dX5_shrinks_287 : decode cX5_shrinks 287 = .ok (.aload_n 0, 1) := by decide +kernel
theorem dX5_shrinks_288 : decode cX5_shrinks 288 = .ok (.getfield 43, 3) := by decide +kernel
theorem dX5_shrinks_291 : decode cX5_shrinks 291 = .ok (.putfield 43, 3) := by decide +kernel
theorem dX5_shrinks_294 : decode cX5_shrinks 294 = .ok (.return_, 1) := by decide +kernel
set_option maxRecDepth 20000 in
theorem ggX5_add_X5_isArea : GoodIn wsX5_add wsX5_isArea := goodIn_r _ [13] (by decide +kernel) (by decide +kernel)
set_option maxRecDepth 20000 in
theorem gX5_add_X5_isArea : GoodIn wsX5_add (va_wsS RX5 66 yX5_isArea wsX5_isArea) := goodIn_app (goodIn_of _ (by decide +kernel)) ggX5_add_X5_isArea
set_option maxRecDepth 20000 in
theorem ggX5_add_X5_fails : GoodIn wsX5_add wsX5_fails := goodIn_r _ [17, 18, 54, 55, 56, 57, 58, 59, 60, 61, 62, 63, 64, 65, 66, 67, 68, 69] (by decide +kernel) (by decide +kernel)
set_option maxRecDepth 20000 in
theorem gX5_add_X5_fails : GoodIn wsX5_add (wsV RX5 70 RX5 yX5_fails wsX5_fails) := goodIn_app (goodIn_of _ (by decide +kernel)) ggX5_add_X5_fails
set_option maxRecDepth 20000 in
theorem ggX5_add_X5_keyAt : GoodIn wsX5_add wsX5_keyAt := goodIn_r _ [21] (by decide +kernel) (by decide +kernel)
set_option maxRecDepth 20000 in
theorem gX5_add_X5_keyAt : GoodIn wsX5_add (va_wsS RX5 74 yX5_keyAt wsX5_keyAt) := goodIn_app (goodIn_of _ (by decide +kernel)) ggX5_add_X5_keyAt
set_option maxRecDepth 20000 in
theorem ggX5_add_X5_leafFor : GoodIn wsX5_add wsX5_leafFor := goodIn_r _ [25, 7, 8, 26, 27, 28, 12, 29, 30, 31, 32, 33, 9, 54, 55, 56, 57, 58, 59, 60, 61, 62, 63, 64, 65, 66, 67, 68, 69] (by decide +kernel) (by decide +kernel)
set_option maxRecDepth 20000 in
theorem gX5_add_X5_leafFor : GoodIn wsX5_add (wsV RX5 77 RX5 yX5_leafFor wsX5_leafFor) := goodIn_app (goodIn_of _ (by decide +kernel)) ggX5_add_X5_leafFor
set_option maxRecDepth 20000 in
theorem ggX5_add_X5_grows : GoodIn wsX5_add wsX5_grows := goodIn_r _ [37, 9, 7, 8, 30, 31, 32, 12, 33, 38, 39, 40, 41, 42, 43, 44, 45, 26, 27, 28, 29, 46, 47, 48, 49, 50, 51, 52, 53, 54, 55, 56, 57, 58, 59, 60, 61, 62, 63, 64, 65, 66, 67, 68, 69] (by decide +kernel) (by decide +kernel)
set_option maxRecDepth 20000 in
theorem gX5_add_X5_grows : GoodIn wsX5_add (wsV RX5 81 RX5 yX5_grows wsX5_grows) := goodIn_app (goodIn_of _ (by decide +kernel)) ggX5_add_X5_grows
theorem dX5_add_0 : decode cX5_add 0 = .ok (.aload_n 0, 1) := by decide +kernel
theorem dX5_add_1 : decode cX5_add 1 = .ok (.iload_n 1, 1) := by decide +kernel
theorem dX5_add_2 : decode cX5_add 2 = .ok (.iload_n 2, 1) := by decide +kernel
theorem dX5_add_3 : decode cX5_add 3 = .ok (.iload_n 3, 1) := by decide +kernel
theorem dX5_add_4 : decode cX5_add 4 = .ok (.iload 4, 2) := by decide +kernel
theorem dX5_add_6 : decode cX5_add 6 = .ok (.invokestatic 66, 3) := by decide +kernel
theorem dX5_add_9 : decode cX5_add 9 = .ok (.ifCond .ne 7, 3) := by decide +kernel
theorem dX5_add_12 : decode cX5_add 12 = .ok (.iconst 1, 1) := by decide +kernel
theorem dX5_add_13 : decode cX5_add 13 = .ok (.goto 26, 3) := by decide +kernel
theorem dX5_add_16 : decode cX5_add 16 = .ok (.aload_n 0, 1) := by decide +kernel
theorem dX5_add_17 : decode cX5_add 17 = .ok (.getfield 63, 3) := by decide +kernel
theorem dX5_add_20 : decode cX5_add 20 = .ok (.bipush 60, 2) := by decide +kernel
theorem dX5_add_22 : decode cX5_add 22 = .ok (.if_icmp .eq 12, 3) := by decide +kernel
theorem dX5_add_25 : decode cX5_add 25 = .ok (.aload_n 0, 1) := by decide +kernel
theorem dX5_add_26 : decode cX5_add 26 = .ok (.getfield 33, 3) := by decide +kernel
theorem dX5_add_29 : decode cX5_add 29 = .ok (.bipush 100, 2) := by decide +kernel
theorem dX5_add_31 : decode cX5_add 31 = .ok (.if_icmp .ne 7, 3) := by decide +kernel
theorem dX5_add_34 : decode cX5_add 34 = .ok (.iconst 2, 1) := by decide +kernel
theorem dX5_add_35 : decode cX5_add 35 = .ok (.goto 4, 3) := by decide +kernel
theorem dX5_add_38 : decode cX5_add 38 = .ok (.iconst 0, 1) := by decide +kernel
theorem dX5_add_39 : decode cX5_add 39 = .ok (.invokevirtual 70, 3) := by decide +kernel
theorem dX5_add_42 : decode cX5_add 42 = .ok (.ifCond .eq 5, 3) := by decide +kernel
theorem dX5_add_45 : decode cX5_add 45 = .ok (.iconst 0, 1) := by decide +kernel
theorem dX5_add_46 : decode cX5_add 46 = .ok (.ireturn, 1) := by decide +kernel
theorem dX5_add_47 : decode cX5_add 47 = .ok (.aload_n 0, 1) := by decide +kernel
theorem dX5_add_48 : decode cX5_add 48 = .ok (.getfield 7, 3) := by decide +kernel
theorem dX5_add_51 : decode cX5_add 51 = .ok (.iconst 4, 1) := by decide +kernel
theorem dX5_add_52 : decode cX5_add 52 = .ok (.aload_n 0, 1) := by decide +kernel
theorem dX5_add_53 : decode cX5_add 53 = .ok (.getfield 33, 3) := by decide +kernel
theorem dX5_add_56 : decode cX5_add 56 = .ok (.imul, 1) := by decide +kernel
theorem dX5_add_57 : decode cX5_add 57 = .ok (.iload_n 1, 1) := by decide +kernel
theorem dX5_add_58 : decode cX5_add 58 = .ok (.iastore, 1) := by decide +kernel
theorem dX5_add_59 : decode cX5_add 59 = .ok (.aload_n 0, 1) := by decide +kernel
theorem dX5_add_60 : decode cX5_add 60 = .ok (.getfield 7, 3) := by decide +kernel
theorem dX5_add_63 : decode cX5_add 63 = .ok (.iconst 4, 1) := by decide +kernel
theorem dX5_add_64 : decode cX5_add 64 = .ok (.aload_n 0, 1) := by decide +kernel
theorem dX5_add_65 : decode cX5_add 65 = .ok (.getfield 33, 3) := by decide +kernel
theorem dX5_add_68 : decode cX5_add 68 = .ok (.imul, 1) := by decide +kernel
theorem dX5_add_69 : decode cX5_add 69 = .ok (.iconst 1, 1) := by decide +kernel
theorem dX5_add_70 : decode cX5_add 70 = .ok (.iadd, 1) := by decide +kernel
theorem dX5_add_71 : decode cX5_add 71 = .ok (.iload_n 2, 1) := by decide +kernel
theorem dX5_add_72 : decode cX5_add 72 = .ok (.iastore, 1) := by decide +kernel
theorem dX5_add_73 : decode cX5_add 73 = .ok (.aload_n 0, 1) := by decide +kernel
theorem dX5_add_74 : decode cX5_add 74 = .ok (.getfield 7, 3) := by decide +kernel
theorem dX5_add_77 : decode cX5_add 77 = .ok (.iconst 4, 1) := by decide +kernel
theorem dX5_add_78 : decode cX5_add 78 = .ok (.aload_n 0, 1) := by decide +kernel
theorem dX5_add_79 : decode cX5_add 79 = .ok (.getfield 33, 3) := by decide +kernel
theorem dX5_add_82 : decode cX5_add 82 = .ok (.imul, 1) := by decide +kernel
theorem dX5_add_83 : decode cX5_add 83 = .ok (.iconst 2, 1) := by decide +kernel
theorem dX5_add_84 : decode cX5_add 84 = .ok (.iadd, 1) := by decide +kernel
theorem dX5_add_85 : decode cX5_add 85 = .ok (.iload_n 3, 1) := by decide +kernel
theorem dX5_add_86 : decode cX5_add 86 = .ok (.iastore, 1) := by decide +kernel
theorem dX5_add_87 : decode cX5_add 87 = .ok (.aload_n 0, 1) := by decide +kernel
theorem dX5_add_88 : decode cX5_add 88 = .ok (.getfield 7, 3) := by decide +kernel
theorem dX5_add_91 : decode cX5_add 91 = .ok (.iconst 4, 1) := by decide +kernel
theorem dX5_add_92 : decode cX5_add 92 = .ok (.aload_n 0, 1) := by decide +kernel
theorem dX5_add_93 : decode cX5_add 93 = .ok (.getfield 33, 3) := by decide +kernel
theorem dX5_add_96 : decode cX5_add 96 = .ok (.imul, 1) := by decide +kernel
theorem dX5_add_97 : decode cX5_add 97 = .ok (.iconst 3, 1) := by decide +kernel
theorem dX5_add_98 : decode cX5_add 98 = .ok (.iadd, 1) := by decide +kernel
theorem dX5_add_99 : decode cX5_add 99 = .ok (.iload 4, 2) := by decide +kernel
theorem dX5_add_101 : decode cX5_add 101 = .ok (.iastore, 1) := by decide +kernel
theorem dX5_add_102 : decode cX5_add 102 = .ok (.aload_n 0, 1) := by decide +kernel
theorem dX5_add_103 : decode cX5_add 103 = .ok (.getfield 13, 3) := by decide +kernel
theorem dX5_add_106 : decode cX5_add 106 = .ok (.aload_n 0, 1) := by decide +kernel
theorem dX5_add_107 : decode cX5_add 107 = .ok (.getfield 33, 3) := by decide +kernel
theorem dX5_add_110 : decode cX5_add 110 = .ok (.iload_n 1, 1) := by decide +kernel
theorem dX5_add_111 : decode cX5_add 111 = .ok (.iload_n 3, 1) := by decide +kernel
theorem dX5_add_112 : decode cX5_add 112 = .ok (.iadd, 1) := by decide +kernel
theorem dX5_add_113 : decode cX5_add 113 = .ok (.iconst 2, 1) := by decide +kernel
theorem dX5_add_114 : decode cX5_add 114 = .ok (.idiv, 1) := by decide +kernel
theorem dX5_add_115 : decode cX5_add 115 = .ok (.iload_n 2, 1) := by decide +kernel
theorem dX5_add_116 : decode cX5_add 116 = .ok (.iload 4, 2) := by decide +kernel
theorem dX5_add_118 : decode cX5_add 118 = .ok (.iadd, 1) := by decide +kernel
theorem dX5_add_119 : decode cX5_add 119 = .ok (.iconst 2, 1) := by decide +kernel
theorem dX5_add_120 : decode cX5_add 120 = .ok (.idiv, 1) := by decide +kernel
theorem dX5_add_121 : decode cX5_add 121 = .ok (.invokestatic 74, 3) := by decide +kernel
theorem dX5_add_124 : decode cX5_add 124 = .ok (.iastore, 1) := by decide +kernel
theorem dX5_add_125 : decode cX5_add 125 = .ok (.aload_n 0, 1) := by decide +kernel
theorem dX5_add_126 : decode cX5_add 126 = .ok (.getfield 16, 3) := by decide +kernel
theorem dX5_add_129 : decode cX5_add 129 = .ok (.aload_n 0, 1) := by decide +kernel
theorem dX5_add_130 : decode cX5_add 130 = .ok (.getfield 33, 3) := by decide +kernel
theorem dX5_add_133 : decode cX5_add 133 = .ok (.iconst 1, 1) := by decide +kernel
theorem dX5_add_134 : decode cX5_add 134 = .ok (.bastore, 1) := by decide +kernel
theorem dX5_add_135 : decode cX5_add 135 = .ok (.iconst 0, 1) := by decide +kernel
theorem dX5_add_136 : decode cX5_add 136 = .ok (.istore 5, 2) := by decide +kernel
theorem dX5_add_138 : decode cX5_add 138 = .ok (.iload 5, 2) := by decide +kernel
theorem dX5_add_140 : decode cX5_add 140 = .ok (.aload_n 0, 1) := by decide +kernel
theorem dX5_add_141 : decode cX5_add 141 = .ok (.getfield 63, 3) := by decide +kernel
theorem dX5_add_144 : decode cX5_add 144 = .ok (.if_icmp .ge 33, 3) := by decide +kernel
theorem dX5_add_147 : decode cX5_add 147 = .ok (.aload_n 0, 1) := by decide +kernel
theorem dX5_add_148 : decode cX5_add 148 = .ok (.getfield 13, 3) := by decide +kernel
theorem dX5_add_151 : decode cX5_add 151 = .ok (.aload_n 0, 1) := by decide +kernel
theorem dX5_add_152 : decode cX5_add 152 = .ok (.getfield 20, 3) := by decide +kernel
theorem dX5_add_155 : decode cX5_add 155 = .ok (.iload 5, 2) := by decide +kernel
theorem dX5_add_157 : decode cX5_add 157 = .ok (.iaload, 1) := by decide +kernel
theorem dX5_add_158 : decode cX5_add 158 = .ok (.iaload, 1) := by decide +kernel
theorem dX5_add_159 : decode cX5_add 159 = .ok (.aload_n 0, 1) := by decide +kernel
theorem dX5_add_160 : decode cX5_add 160 = .ok (.getfield 13, 3) := by decide +kernel
theorem dX5_add_163 : decode cX5_add 163 = .ok (.aload_n 0, 1) := by decide +kernel
theorem dX5_add_164 : decode cX5_add 164 = .ok (.getfield 33, 3) := by decide +kernel
theorem dX5_add_167 : decode cX5_add 167 = .ok (.iaload, 1) := by decide +kernel
theorem dX5_add_168 : decode cX5_add 168 = .ok (.if_icmp .gt 9, 3) := by decide +kernel
theorem dX5_add_171 : decode cX5_add 171 = .ok (.iinc 5 1, 3) := by decide +kernel
theorem dX5_add_174 : decode cX5_add 174 = .ok (.goto (-36), 3) := by decide +kernel
theorem dX5_add_177 : decode cX5_add 177 = .ok (.aload_n 0, 1) := by decide +kernel
theorem dX5_add_178 : decode cX5_add 178 = .ok (.iload 5, 2) := by decide +kernel
theorem dX5_add_180 : decode cX5_add 180 = .ok (.invokevirtual 77, 3) := by decide +kernel
theorem dX5_add_183 : decode cX5_add 183 = .ok (.istore 6, 2) := by decide +kernel
theorem dX5_add_185 : decode cX5_add 185 = .ok (.aload_n 0, 1) := by decide +kernel
theorem dX5_add_186 : decode cX5_add 186 = .ok (.getfield 63, 3) := by decide +kernel
theorem dX5_add_189 : decode cX5_add 189 = .ok (.istore 7, 2) := by decide +kernel
theorem dX5_add_191 : decode cX5_add 191 = .ok (.iload 7, 2) := by decide +kernel
theorem dX5_add_193 : decode cX5_add 193 = .ok (.iload 5, 2) := by decide +kernel
theorem dX5_add_195 : decode cX5_add 195 = .ok (.if_icmp .le 25, 3) := by decide +kernel
theorem dX5_add_198 : decode cX5_add 198 = .ok (.aload_n 0, 1) := by decide +kernel
theorem dX5_add_199 : decode cX5_add 199 = .ok (.getfield 20, 3) := by decide +kernel
theorem dX5_add_202 : decode cX5_add 202 = .ok (.iload 7, 2) := by decide +kernel
theorem dX5_add_204 : decode cX5_add 204 = .ok (.aload_n 0, 1) := by decide +kernel
theorem dX5_add_205 : decode cX5_add 205 = .ok (.getfield 20, 3) := by decide +kernel
theorem dX5_add_208 : decode cX5_add 208 = .ok (.iload 7, 2) := by decide +kernel
theorem dX5_add_210 : decode cX5_add 210 = .ok (.iconst 1, 1) := by decide +kernel
theorem dX5_add_211 : decode cX5_add 211 = .ok (.isub, 1) := by decide +kernel
theorem dX5_add_212 : decode cX5_add 212 = .ok (.iaload, 1) := by decide +kernel
theorem dX5_add_213 : decode cX5_add 213 = .ok (.iastore, 1) := by decide +kernel
theorem dX5_add_214 : decode cX5_add 214 = .ok (.iinc 7 (-1), 3) := by decide +kernel
theorem dX5_add_217 : decode cX5_add 217 = .ok (.goto (-26), 3) := by decide +kernel
theorem dX5_add_220 : decode cX5_add 220 = .ok (.aload_n 0, 1) := by decide +kernel
theorem dX5_add_221 : decode cX5_add 221 = .ok (.getfield 20, 3) := by decide +kernel
theorem dX5_add_224 : decode cX5_add 224 = .ok (.iload 5, 2) := by decide +kernel
theorem dX5_add_226 : decode cX5_add 226 = .ok (.aload_n 0, 1) := by decide +kernel
theorem dX5_add_227 : decode cX5_add 227 = .ok (.getfield 33, 3) := by decide +kernel
theorem dX5_add_230 : decode cX5_add 230 = .ok (.iastore, 1) := by decide +kernel
theorem dX5_add_231 : decode cX5_add 231 = .ok (.aload_n 0, 1) := by decide +kernel
theorem dX5_add_232 : decode cX5_add 232 = .ok (.dup, 1) := by decide +kernel
theorem dX5_add_233 : decode cX5_add 233 = .ok (.getfield 63, 3) := by decide +kernel
theorem dX5_add_236 : decode cX5_add 236 = .ok (.iconst 1, 1) := by decide +kernel
theorem dX5_add_237 : decode cX5_add 237 = .ok (.iadd, 1) := by decide +kernel
theorem dX5_add_238 : decode cX5_add 238 = .ok (.putfield 63, 3) := by decide +kernel
theorem dX5_add_241 : decode cX5_add 241 = .ok (.aload_n 0, 1) := by decide +kernel
theorem dX5_add_242 : decode cX5_add 242 = .ok (.dup, 1) := by decide +kernel
theorem dX5_add_243 : decode cX5_add 243 = .ok (.getfield 33, 3) := by decide +kernel
theorem dX5_add_246 : decode cX5_add 246 = .ok (.iconst 1, 1) := by decide +kernel
theorem dX5_add_247 : decode cX5_add 247 = .ok (.iadd, 1) := by decide +kernel
theorem dX5_add_248 : decode cX5_add 248 = .ok (.putfield 33, 3) := by decide +kernel
theorem dX5_add_251 : decode cX5_add 251 = .ok (.aload_n 0, 1) := by decide +kernel
theorem dX5_add_252 : decode cX5_add 252 = .ok (.getfield 43, 3) := by decide +kernel
theorem dX5_add_255 : decode cX5_add 255 = .ok (.ifCond .ne 25, 3) := by decide +kernel
theorem dX5_add_258 : decode cX5_add 258 = .ok (.aload_n 0, 1) := by decide +kernel
theorem dX5_add_259 : decode cX5_add 259 = .ok (.iconst 1, 1) := by decide +kernel
theorem dX5_add_260 : decode cX5_add 260 = .ok (.putfield 43, 3) := by decide +kernel
theorem dX5_add_263 : decode cX5_add 263 = .ok (.aload_n 0, 1) := by decide +kernel
theorem dX5_add_264 : decode cX5_add 264 = .ok (.getfield 23, 3) := by decide +kernel
theorem dX5_add_267 : decode cX5_add 267 = .ok (.iconst 0, 1) := by decide +kernel
theorem dX5_add_268 : decode cX5_add 268 = .ok (.iconst 1, 1) := by decide +kernel
theorem dX5_add_269 : decode cX5_add 269 = .ok (.iastore, 1) := by decide +kernel
theorem dX5_add_270 : decode cX5_add 270 = .ok (.aload_n 0, 1) := by decide +kernel
theorem dX5_add_271 : decode cX5_add 271 = .ok (.getfield 26, 3) := by decide +kernel
theorem dX5_add_274 : decode cX5_add 274 = .ok (.iconst 0, 1) := by decide +kernel
theorem dX5_add_275 : decode cX5_add 275 = .ok (.iconst 1, 1) := by decide +kernel
theorem dX5_add_276 : decode cX5_add 276 = .ok (.iastore, 1) := by decide +kernel
theorem dX5_add_277 : decode cX5_add 277 = .ok (.goto 10, 3) := by decide +kernel
theorem dX5_add_280 : decode cX5_add 280 = .ok (.aload_n 0, 1) := by decide +kernel
theorem dX5_add_281 : decode cX5_add 281 = .ok (.iconst 0, 1) := by decide +kernel
theorem dX5_add_282 : decode cX5_add 282 = .ok (.iload 6, 2) := by decide +kernel
theorem dX5_add_284 : decode cX5_add 284 = .ok (.invokevirtual 81, 3) := by decide +kernel
theorem dX5_add_287 : decode cX5_add 287 = .ok (.aload_n 0, 1) := by decide +kernel
theorem dX5_add_288 : decode cX5_add 288 = .ok (.getfield 33, 3) := by decide +kernel
theorem dX5_add_291 : decode cX5_add 291 = .ok (.iconst 1, 1) := by decide +kernel
theorem dX5_add_292 : decode cX5_add 292 = .ok (.isub, 1) := by decide +kernel
theorem dX5_add_293 : decode cX5_add 293 = .ok (.ireturn, 1) := by decide +kernel
set_option maxRecDepth 20000 in
theorem ggX5_leafFor_X5_ahead : GoodIn wsX5_leafFor wsX5_ahead := goodIn_r _ [7, 8, 9, 10, 6, 11, 12, 13, 14, 15, 16, 17, 18, 19, 20, 21, 22, 23, 24, 25, 26, 27, 28] (by decide +kernel) (by decide +kernel)
set_option maxRecDepth 20000 in
theorem gX5_leafFor_X5_ahead : GoodIn wsX5_leafFor (wsV RX5 40 RX5 yX5_ahead wsX5_ahead) := goodIn_app (goodIn_of _ (by decide +kernel)) ggX5_leafFor_X5_ahead
theorem dX5_leafFor_0 : decode cX5_leafFor 0 = .ok (.iconst 0, 1) := by decide +kernel
theorem dX5_leafFor_1 : decode cX5_leafFor 1 = .ok (.istore_n 2, 1) := by decide +kernel
theorem dX5_leafFor_2 : decode cX5_leafFor 2 = .ok (.aload_n 0, 1) := by decide +kernel
theorem dX5_leafFor_3 : decode cX5_leafFor 3 = .ok (.getfield 43, 3) := by decide +kernel
theorem dX5_leafFor_6 : decode cX5_leafFor 6 = .ok (.ifCond .le 33, 3) := by decide +kernel
theorem dX5_leafFor_9 : decode cX5_leafFor 9 = .ok (.iload_n 2, 1) := by decide +kernel
theorem dX5_leafFor_10 : decode cX5_leafFor 10 = .ok (.iconst 1, 1) := by decide +kernel
theorem dX5_leafFor_11 : decode cX5_leafFor 11 = .ok (.iadd, 1) := by decide +kernel
theorem dX5_leafFor_12 : decode cX5_leafFor 12 = .ok (.aload_n 0, 1) := by decide +kernel
theorem dX5_leafFor_13 : decode cX5_leafFor 13 = .ok (.getfield 23, 3) := by decide +kernel
theorem dX5_leafFor_16 : decode cX5_leafFor 16 = .ok (.iconst 0, 1) := by decide +kernel
theorem dX5_leafFor_17 : decode cX5_leafFor 17 = .ok (.iaload, 1) := by decide +kernel
theorem dX5_leafFor_18 : decode cX5_leafFor 18 = .ok (.if_icmp .ge 21, 3) := by decide +kernel
