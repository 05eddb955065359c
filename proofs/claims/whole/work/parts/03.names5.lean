theorem dX5_leafFor_21 : decode cX5_leafFor 21 = .ok (.aload_n 0, 1) := by decide +kernel
theorem dX5_leafFor_22 : decode cX5_leafFor 22 = .ok (.iconst 0, 1) := by decide +kernel
theorem dX5_leafFor_23 : decode cX5_leafFor 23 = .ok (.iload_n 2, 1) := by decide +kernel
theorem dX5_leafFor_24 : decode cX5_leafFor 24 = .ok (.iconst 1, 1) := by decide +kernel
theorem dX5_leafFor_25 : decode cX5_leafFor 25 = .ok (.iadd, 1) := by decide +kernel
theorem dX5_leafFor_26 : decode cX5_leafFor 26 = .ok (.invokevirtual 40, 3) := by decide +kernel
theorem dX5_leafFor_29 : decode cX5_leafFor 29 = .ok (.iload_n 1, 1) := by decide +kernel
theorem dX5_leafFor_30 : decode cX5_leafFor 30 = .ok (.if_icmp .gt 9, 3) := by decide +kernel
theorem dX5_leafFor_33 : decode cX5_leafFor 33 = .ok (.iinc 2 1, 3) := by decide +kernel
theorem dX5_leafFor_36 : decode cX5_leafFor 36 = .ok (.goto (-34), 3) := by decide +kernel
theorem dX5_leafFor_39 : decode cX5_leafFor 39 = .ok (.iload_n 2, 1) := by decide +kernel
theorem dX5_leafFor_40 : decode cX5_leafFor 40 = .ok (.ireturn, 1) := by decide +kernel
theorem dX5_placeOf_0 : decode cX5_placeOf 0 = .ok (.iconst 0, 1) := by decide +kernel
theorem dX5_placeOf_1 : decode cX5_placeOf 1 = .ok (.istore_n 2, 1) := by decide +kernel
theorem dX5_placeOf_2 : decode cX5_placeOf 2 = .ok (.aload_n 0, 1) := by decide +kernel
theorem dX5_placeOf_3 : decode cX5_placeOf 3 = .ok (.getfield 20, 3) := by decide +kernel
theorem dX5_placeOf_6 : decode cX5_placeOf 6 = .ok (.iload_n 2, 1) := by decide +kernel
theorem dX5_placeOf_7 : decode cX5_placeOf 7 = .ok (.iaload, 1) := by decide +kernel
theorem dX5_placeOf_8 : decode cX5_placeOf 8 = .ok (.iload_n 1, 1) := by decide +kernel
theorem dX5_placeOf_9 : decode cX5_placeOf 9 = .ok (.if_icmp .eq 9, 3) := by decide +kernel
theorem dX5_placeOf_12 : decode cX5_placeOf 12 = .ok (.iinc 2 1, 3) := by decide +kernel
theorem dX5_placeOf_15 : decode cX5_placeOf 15 = .ok (.goto (-13), 3) := by decide +kernel
theorem dX5_placeOf_18 : decode cX5_placeOf 18 = .ok (.iload_n 2, 1) := by decide +kernel
theorem dX5_placeOf_19 : decode cX5_placeOf 19 = .ok (.ireturn, 1) := by decide +kernel
set_option maxRecDepth 20000 in
theorem ggX5_remove_X5_is : GoodIn wsX5_remove wsX5_is := goodIn_r _ [8, 9, 1, 54, 55, 56, 57, 58, 59, 60, 61, 62, 63, 64, 65, 66, 67, 68, 69] (by decide +kernel) (by decide +kernel)
set_option maxRecDepth 20000 in
theorem gX5_remove_X5_is : GoodIn wsX5_remove (wsV RX5 84 RX5 yX5_is wsX5_is) := goodIn_app (goodIn_of _ (by decide +kernel)) ggX5_remove_X5_is
set_option maxRecDepth 20000 in
theorem ggX5_remove_X5_fails : GoodIn wsX5_remove wsX5_fails := goodIn_r _ [13, 14, 54, 55, 56, 57, 58, 59, 60, 61, 62, 63, 64, 65, 66, 67, 68, 69] (by decide +kernel) (by decide +kernel)
set_option maxRecDepth 20000 in
theorem gX5_remove_X5_fails : GoodIn wsX5_remove (wsV RX5 70 RX5 yX5_fails wsX5_fails) := goodIn_app (goodIn_of _ (by decide +kernel)) ggX5_remove_X5_fails
set_option maxRecDepth 20000 in
theorem ggX5_remove_X5_placeOf : GoodIn wsX5_remove wsX5_placeOf := goodIn_r _ [18, 3, 54, 55, 56, 57, 58, 59, 60, 61, 62, 63, 64, 65, 66, 67, 68, 69] (by decide +kernel) (by decide +kernel)
set_option maxRecDepth 20000 in
theorem gX5_remove_X5_placeOf : GoodIn wsX5_remove (wsV RX5 87 RX5 yX5_placeOf wsX5_placeOf) := goodIn_app (goodIn_of _ (by decide +kernel)) ggX5_remove_X5_placeOf
set_option maxRecDepth 20000 in
theorem ggX5_remove_X5_leafFor : GoodIn wsX5_remove wsX5_leafFor := goodIn_r _ [22, 23, 24, 25, 26, 27, 7, 28, 29, 30, 31, 32, 33, 54, 55, 56, 57, 58, 59, 60, 61, 62, 63, 64, 65, 66, 67, 68, 69] (by decide +kernel) (by decide +kernel)
set_option maxRecDepth 20000 in
theorem gX5_remove_X5_leafFor : GoodIn wsX5_remove (wsV RX5 77 RX5 yX5_leafFor wsX5_leafFor) := goodIn_app (goodIn_of _ (by decide +kernel)) ggX5_remove_X5_leafFor
set_option maxRecDepth 20000 in
theorem ggX5_remove_X5_shrinks : GoodIn wsX5_remove wsX5_shrinks := goodIn_r _ [37, 33, 23, 2, 29, 30, 31, 7, 32, 38, 39, 40, 41, 42, 43, 44, 45, 25, 26, 27, 28, 46, 47, 48, 49, 24, 50, 51, 52, 53, 54, 55, 56, 57, 58, 59, 60, 61, 62, 63, 64, 65, 66, 67, 68, 69] (by decide +kernel) (by decide +kernel)
set_option maxRecDepth 20000 in
theorem gX5_remove_X5_shrinks : GoodIn wsX5_remove (wsV RX5 90 RX5 yX5_shrinks wsX5_shrinks) := goodIn_app (goodIn_of _ (by decide +kernel)) ggX5_remove_X5_shrinks
theorem dX5_remove_0 : decode cX5_remove 0 = .ok (.aload_n 0, 1) := by decide +kernel
theorem dX5_remove_1 : decode cX5_remove 1 = .ok (.aload_n 0, 1) := by decide +kernel
theorem dX5_remove_2 : decode cX5_remove 2 = .ok (.iload_n 1, 1) := by decide +kernel
theorem dX5_remove_3 : decode cX5_remove 3 = .ok (.invokevirtual 84, 3) := by decide +kernel
theorem dX5_remove_6 : decode cX5_remove 6 = .ok (.ifCond .eq 7, 3) := by decide +kernel
theorem dX5_remove_9 : decode cX5_remove 9 = .ok (.iconst 0, 1) := by decide +kernel
theorem dX5_remove_10 : decode cX5_remove 10 = .ok (.goto 4, 3) := by decide +kernel
theorem dX5_remove_13 : decode cX5_remove 13 = .ok (.iconst 1, 1) := by decide +kernel
theorem dX5_remove_14 : decode cX5_remove 14 = .ok (.invokevirtual 70, 3) := by decide +kernel
theorem dX5_remove_17 : decode cX5_remove 17 = .ok (.ifCond .eq 5, 3) := by decide +kernel
theorem dX5_remove_20 : decode cX5_remove 20 = .ok (.iconst 0, 1) := by decide +kernel
theorem dX5_remove_21 : decode cX5_remove 21 = .ok (.ireturn, 1) := by decide +kernel
theorem dX5_remove_22 : decode cX5_remove 22 = .ok (.aload_n 0, 1) := by decide +kernel
theorem dX5_remove_23 : decode cX5_remove 23 = .ok (.iload_n 1, 1) := by decide +kernel
theorem dX5_remove_24 : decode cX5_remove 24 = .ok (.invokevirtual 87, 3) := by decide +kernel
theorem dX5_remove_27 : decode cX5_remove 27 = .ok (.istore_n 2, 1) := by decide +kernel
theorem dX5_remove_28 : decode cX5_remove 28 = .ok (.aload_n 0, 1) := by decide +kernel
theorem dX5_remove_29 : decode cX5_remove 29 = .ok (.iload_n 2, 1) := by decide +kernel
theorem dX5_remove_30 : decode cX5_remove 30 = .ok (.invokevirtual 77, 3) := by decide +kernel
theorem dX5_remove_33 : decode cX5_remove 33 = .ok (.istore_n 3, 1) := by decide +kernel
theorem dX5_remove_34 : decode cX5_remove 34 = .ok (.aload_n 0, 1) := by decide +kernel
theorem dX5_remove_35 : decode cX5_remove 35 = .ok (.getfield 16, 3) := by decide +kernel
theorem dX5_remove_38 : decode cX5_remove 38 = .ok (.iload_n 1, 1) := by decide +kernel
theorem dX5_remove_39 : decode cX5_remove 39 = .ok (.iconst 0, 1) := by decide +kernel
theorem dX5_remove_40 : decode cX5_remove 40 = .ok (.bastore, 1) := by decide +kernel
theorem dX5_remove_41 : decode cX5_remove 41 = .ok (.aload_n 0, 1) := by decide +kernel
theorem dX5_remove_42 : decode cX5_remove 42 = .ok (.dup, 1) := by decide +kernel
theorem dX5_remove_43 : decode cX5_remove 43 = .ok (.getfield 63, 3) := by decide +kernel
theorem dX5_remove_46 : decode cX5_remove 46 = .ok (.iconst 1, 1) := by decide +kernel
theorem dX5_remove_47 : decode cX5_remove 47 = .ok (.isub, 1) := by decide +kernel
theorem dX5_remove_48 : decode cX5_remove 48 = .ok (.putfield 63, 3) := by decide +kernel
theorem dX5_remove_51 : decode cX5_remove 51 = .ok (.iload_n 2, 1) := by decide +kernel
theorem dX5_remove_52 : decode cX5_remove 52 = .ok (.istore 4, 2) := by decide +kernel
theorem dX5_remove_54 : decode cX5_remove 54 = .ok (.iload 4, 2) := by decide +kernel
theorem dX5_remove_56 : decode cX5_remove 56 = .ok (.aload_n 0, 1) := by decide +kernel
theorem dX5_remove_57 : decode cX5_remove 57 = .ok (.getfield 63, 3) := by decide +kernel
theorem dX5_remove_60 : decode cX5_remove 60 = .ok (.if_icmp .ge 25, 3) := by decide +kernel
theorem dX5_remove_63 : decode cX5_remove 63 = .ok (.aload_n 0, 1) := by decide +kernel
theorem dX5_remove_64 : decode cX5_remove 64 = .ok (.getfield 20, 3) := by decide +kernel
theorem dX5_remove_67 : decode cX5_remove 67 = .ok (.iload 4, 2) := by decide +kernel
theorem dX5_remove_69 : decode cX5_remove 69 = .ok (.aload_n 0, 1) := by decide +kernel
theorem dX5_remove_70 : decode cX5_remove 70 = .ok (.getfield 20, 3) := by decide +kernel
theorem dX5_remove_73 : decode cX5_remove 73 = .ok (.iload 4, 2) := by decide +kernel
theorem dX5_remove_75 : decode cX5_remove 75 = .ok (.iconst 1, 1) := by decide +kernel
theorem dX5_remove_76 : decode cX5_remove 76 = .ok (.iadd, 1) := by decide +kernel
theorem dX5_remove_77 : decode cX5_remove 77 = .ok (.iaload, 1) := by decide +kernel
theorem dX5_remove_78 : decode cX5_remove 78 = .ok (.iastore, 1) := by decide +kernel
theorem dX5_remove_79 : decode cX5_remove 79 = .ok (.iinc 4 1, 3) := by decide +kernel
theorem dX5_remove_82 : decode cX5_remove 82 = .ok (.goto (-28), 3) := by decide +kernel
theorem dX5_remove_85 : decode cX5_remove 85 = .ok (.aload_n 0, 1) := by decide +kernel
theorem dX5_remove_86 : decode cX5_remove 86 = .ok (.iload_n 3, 1) := by decide +kernel
theorem dX5_remove_87 : decode cX5_remove 87 = .ok (.invokevirtual 90, 3) := by decide +kernel
theorem dX5_remove_90 : decode cX5_remove 90 = .ok (.aload_n 0, 1) := by decide +kernel
theorem dX5_remove_91 : decode cX5_remove 91 = .ok (.getfield 63, 3) := by decide +kernel
theorem dX5_remove_94 : decode cX5_remove 94 = .ok (.ireturn, 1) := by decide +kernel
theorem dX5_pack_0 : decode cX5_pack 0 = .ok (.aload_n 0, 1) := by decide +kernel
theorem dX5_pack_1 : decode cX5_pack 1 = .ok (.iconst 0, 1) := by decide +kernel
theorem dX5_pack_2 : decode cX5_pack 2 = .ok (.putfield 29, 3) := by decide +kernel
theorem dX5_pack_5 : decode cX5_pack 5 = .ok (.aload_n 0, 1) := by decide +kernel
theorem dX5_pack_6 : decode cX5_pack 6 = .ok (.getfield 63, 3) := by decide +kernel
theorem dX5_pack_9 : decode cX5_pack 9 = .ok (.istore_n 1, 1) := by decide +kernel
theorem dX5_pack_10 : decode cX5_pack 10 = .ok (.aload_n 0, 1) := by decide +kernel
theorem dX5_pack_11 : decode cX5_pack 11 = .ok (.iconst 0, 1) := by decide +kernel
theorem dX5_pack_12 : decode cX5_pack 12 = .ok (.putfield 43, 3) := by decide +kernel
theorem dX5_pack_15 : decode cX5_pack 15 = .ok (.iload_n 1, 1) := by decide +kernel
theorem dX5_pack_16 : decode cX5_pack 16 = .ok (.iconst 1, 1) := by decide +kernel
theorem dX5_pack_17 : decode cX5_pack 17 = .ok (.if_icmp .gt 14, 3) := by decide +kernel
theorem dX5_pack_20 : decode cX5_pack 20 = .ok (.iload_n 1, 1) := by decide +kernel
theorem dX5_pack_21 : decode cX5_pack 21 = .ok (.ifCond .le 100, 3) := by decide +kernel
theorem dX5_pack_24 : decode cX5_pack 24 = .ok (.aload_n 0, 1) := by decide +kernel
theorem dX5_pack_25 : decode cX5_pack 25 = .ok (.getfield 43, 3) := by decide +kernel
theorem dX5_pack_28 : decode cX5_pack 28 = .ok (.ifCond .ne 93, 3) := by decide +kernel
theorem dX5_pack_31 : decode cX5_pack 31 = .ok (.aload_n 0, 1) := by decide +kernel
theorem dX5_pack_32 : decode cX5_pack 32 = .ok (.getfield 23, 3) := by decide +kernel
theorem dX5_pack_35 : decode cX5_pack 35 = .ok (.aload_n 0, 1) := by decide +kernel
theorem dX5_pack_36 : decode cX5_pack 36 = .ok (.getfield 43, 3) := by decide +kernel
theorem dX5_pack_39 : decode cX5_pack 39 = .ok (.iload_n 1, 1) := by decide +kernel
theorem dX5_pack_40 : decode cX5_pack 40 = .ok (.iconst 4, 1) := by decide +kernel
theorem dX5_pack_41 : decode cX5_pack 41 = .ok (.iadd, 1) := by decide +kernel
theorem dX5_pack_42 : decode cX5_pack 42 = .ok (.iconst 1, 1) := by decide +kernel
theorem dX5_pack_43 : decode cX5_pack 43 = .ok (.isub, 1) := by decide +kernel
theorem dX5_pack_44 : decode cX5_pack 44 = .ok (.iconst 4, 1) := by decide +kernel
theorem dX5_pack_45 : decode cX5_pack 45 = .ok (.idiv, 1) := by decide +kernel
theorem dX5_pack_46 : decode cX5_pack 46 = .ok (.iastore, 1) := by decide +kernel
theorem dX5_pack_47 : decode cX5_pack 47 = .ok (.iconst 0, 1) := by decide +kernel
theorem dX5_pack_48 : decode cX5_pack 48 = .ok (.istore_n 2, 1) := by decide +kernel
theorem dX5_pack_49 : decode cX5_pack 49 = .ok (.iload_n 2, 1) := by decide +kernel
theorem dX5_pack_50 : decode cX5_pack 50 = .ok (.aload_n 0, 1) := by decide +kernel
theorem dX5_pack_51 : decode cX5_pack 51 = .ok (.getfield 23, 3) := by decide +kernel
theorem dX5_pack_54 : decode cX5_pack 54 = .ok (.aload_n 0, 1) := by decide +kernel
theorem dX5_pack_55 : decode cX5_pack 55 = .ok (.getfield 43, 3) := by decide +kernel
theorem dX5_pack_58 : decode cX5_pack 58 = .ok (.iaload, 1) := by decide +kernel
theorem dX5_pack_59 : decode cX5_pack 59 = .ok (.if_icmp .ge 39, 3) := by decide +kernel
theorem dX5_pack_62 : decode cX5_pack 62 = .ok (.iload_n 1, 1) := by decide +kernel
theorem dX5_pack_63 : decode cX5_pack 63 = .ok (.iconst 4, 1) := by decide +kernel
theorem dX5_pack_64 : decode cX5_pack 64 = .ok (.iload_n 2, 1) := by decide +kernel
theorem dX5_pack_65 : decode cX5_pack 65 = .ok (.imul, 1) := by decide +kernel
theorem dX5_pack_66 : decode cX5_pack 66 = .ok (.isub, 1) := by decide +kernel
theorem dX5_pack_67 : decode cX5_pack 67 = .ok (.istore_n 3, 1) := by decide +kernel
theorem dX5_pack_68 : decode cX5_pack 68 = .ok (.aload_n 0, 1) := by decide +kernel
theorem dX5_pack_69 : decode cX5_pack 69 = .ok (.getfield 26, 3) := by decide +kernel
theorem dX5_pack_72 : decode cX5_pack 72 = .ok (.bipush 64, 2) := by decide +kernel
theorem dX5_pack_74 : decode cX5_pack 74 = .ok (.aload_n 0, 1) := by decide +kernel
theorem dX5_pack_75 : decode cX5_pack 75 = .ok (.getfield 43, 3) := by decide +kernel
theorem dX5_pack_78 : decode cX5_pack 78 = .ok (.imul, 1) := by decide +kernel
theorem dX5_pack_79 : decode cX5_pack 79 = .ok (.iload_n 2, 1) := by decide +kernel
theorem dX5_pack_80 : decode cX5_pack 80 = .ok (.iadd, 1) := by decide +kernel
theorem dX5_pack_81 : decode cX5_pack 81 = .ok (.iload_n 3, 1) := by decide +kernel
theorem dX5_pack_82 : decode cX5_pack 82 = .ok (.iconst 4, 1) := by decide +kernel
theorem dX5_pack_83 : decode cX5_pack 83 = .ok (.if_icmp .le 7, 3) := by decide +kernel
theorem dX5_pack_86 : decode cX5_pack 86 = .ok (.iconst 4, 1) := by decide +kernel
theorem dX5_pack_87 : decode cX5_pack 87 = .ok (.goto 4, 3) := by decide +kernel
theorem dX5_pack_90 : decode cX5_pack 90 = .ok (.iload_n 3, 1) := by decide +kernel
theorem dX5_pack_91 : decode cX5_pack 91 = .ok (.iastore, 1) := by decide +kernel
theorem dX5_pack_92 : decode cX5_pack 92 = .ok (.iinc 2 1, 3) := by decide +kernel
theorem dX5_pack_95 : decode cX5_pack 95 = .ok (.goto (-46), 3) := by decide +kernel
theorem dX5_pack_98 : decode cX5_pack 98 = .ok (.aload_n 0, 1) := by decide +kernel
theorem dX5_pack_99 : decode cX5_pack 99 = .ok (.getfield 23, 3) := by decide +kernel
theorem dX5_pack_102 : decode cX5_pack 102 = .ok (.aload_n 0, 1) := by decide +kernel
theorem dX5_pack_103 : decode cX5_pack 103 = .ok (.getfield 43, 3) := by decide +kernel
theorem dX5_pack_106 : decode cX5_pack 106 = .ok (.iaload, 1) := by decide +kernel
theorem dX5_pack_107 : decode cX5_pack 107 = .ok (.istore_n 1, 1) := by decide +kernel
theorem dX5_pack_108 : decode cX5_pack 108 = .ok (.aload_n 0, 1) := by decide +kernel
theorem dX5_pack_109 : decode cX5_pack 109 = .ok (.dup, 1) := by decide +kernel
theorem dX5_pack_110 : decode cX5_pack 110 = .ok (.getfield 43, 3) := by decide +kernel
theorem dX5_pack_113 : decode cX5_pack 113 = .ok (.iconst 1, 1) := by decide +kernel
theorem dX5_pack_114 : decode cX5_pack 114 = .ok (.iadd, 1) := by decide +kernel
theorem dX5_pack_115 : decode cX5_pack 115 = .ok (.putfield 43, 3) := by decide +kernel
theorem dX5_pack_118 : decode cX5_pack 118 = .ok (.goto (-103), 3) := by decide +kernel
theorem dX5_pack_121 : decode cX5_pack 121 = .ok (.aload_n 0, 1) := by decide +kernel
theorem dX5_pack_122 : decode cX5_pack 122 = .ok (.getfield 63, 3) := by decide +kernel
theorem dX5_pack_125 : decode cX5_pack 125 = .ok (.ifCond .ne 7, 3) := by decide +kernel
theorem dX5_pack_128 : decode cX5_pack 128 = .ok (.iconst 0, 1) := by decide +kernel
theorem dX5_pack_129 : decode cX5_pack 129 = .ok (.goto 9, 3) := by decide +kernel
theorem dX5_pack_132 : decode cX5_pack 132 = .ok (.aload_n 0, 1) := by decide +kernel
theorem dX5_pack_133 : decode cX5_pack 133 = .ok (.getfield 23, 3) := by decide +kernel
theorem dX5_pack_136 : decode cX5_pack 136 = .ok (.iconst 0, 1) := by decide +kernel
theorem dX5_pack_137 : decode cX5_pack 137 = .ok (.iaload, 1) := by decide +kernel
theorem dX5_pack_138 : decode cX5_pack 138 = .ok (.ireturn, 1) := by decide +kernel
set_option maxRecDepth 20000 in
theorem ggX5_boxes_X5_tells : GoodIn wsX5_boxes wsX5_tells := goodIn_r _ [6, 7, 8, 9, 10, 11, 12, 13, 14, 15, 16, 17, 18, 19, 20, 21, 22, 23] (by decide +kernel) (by decide +kernel)
set_option maxRecDepth 20000 in
theorem gX5_boxes_X5_tells : GoodIn wsX5_boxes (wsV RX5 94 RX5 yX5_tells wsX5_tells) := goodIn_app (goodIn_of _ (by decide +kernel)) ggX5_boxes_X5_tells
theorem dX5_boxes_0 : decode cX5_boxes 0 = .ok (.aload_n 0, 1) := by decide +kernel
theorem dX5_boxes_1 : decode cX5_boxes 1 = .ok (.aload_n 0, 1) := by decide +kernel
theorem dX5_boxes_2 : decode cX5_boxes 2 = .ok (.getfield 63, 3) := by decide +kernel
theorem dX5_boxes_5 : decode cX5_boxes 5 = .ok (.invokevirtual 94, 3) := by decide +kernel
theorem dX5_boxes_8 : decode cX5_boxes 8 = .ok (.ireturn, 1) := by decide +kernel
set_option maxRecDepth 20000 in
theorem ggX5_key_X5_isPoint : GoodIn wsX5_key wsX5_isPoint := goodIn_r _ [4] (by decide +kernel) (by decide +kernel)
set_option maxRecDepth 20000 in
theorem gX5_key_X5_isPoint : GoodIn wsX5_key (va_wsS RX5 97 yX5_isPoint wsX5_isPoint) := goodIn_app (goodIn_of _ (by decide +kernel)) ggX5_key_X5_isPoint
set_option maxRecDepth 20000 in
theorem ggX5_key_X5_fails : GoodIn wsX5_key wsX5_fails := goodIn_r _ [8, 9, 13, 14, 15, 16, 17, 18, 19, 20, 21, 22, 23, 24, 25, 26, 27, 28] (by decide +kernel) (by decide +kernel)
set_option maxRecDepth 20000 in
theorem gX5_key_X5_fails : GoodIn wsX5_key (wsV RX5 70 RX5 yX5_fails wsX5_fails) := goodIn_app (goodIn_of _ (by decide +kernel)) ggX5_key_X5_fails
set_option maxRecDepth 20000 in
theorem ggX5_key_X5_keyAt : GoodIn wsX5_key wsX5_keyAt := goodIn_r _ [12] (by decide +kernel) (by decide +kernel)
set_option maxRecDepth 20000 in
theorem gX5_key_X5_keyAt : GoodIn wsX5_key (va_wsS RX5 74 yX5_keyAt wsX5_keyAt) := goodIn_app (goodIn_of _ (by decide +kernel)) ggX5_key_X5_keyAt
theorem dX5_key_0 : decode cX5_key 0 = .ok (.aload_n 0, 1) := by decide +kernel
theorem dX5_key_1 : decode cX5_key 1 = .ok (.iload_n 1, 1) := by decide +kernel
theorem dX5_key_2 : decode cX5_key 2 = .ok (.iload_n 2, 1) := by decide +kernel
theorem dX5_key_3 : decode cX5_key 3 = .ok (.invokestatic 97, 3) := by decide +kernel
theorem dX5_key_6 : decode cX5_key 6 = .ok (.ifCond .eq 7, 3) := by decide +kernel
theorem dX5_key_9 : decode cX5_key 9 = .ok (.iconst 0, 1) := by decide +kernel
theorem dX5_key_10 : decode cX5_key 10 = .ok (.goto 4, 3) := by decide +kernel
theorem dX5_key_13 : decode cX5_key 13 = .ok (.iconst 1, 1) := by decide +kernel
theorem dX5_key_14 : decode cX5_key 14 = .ok (.invokevirtual 70, 3) := by decide +kernel
theorem dX5_key_17 : decode cX5_key 17 = .ok (.ifCond .eq 7, 3) := by decide +kernel
theorem dX5_key_20 : decode cX5_key 20 = .ok (.iconst 0, 1) := by decide +kernel
theorem dX5_key_21 : decode cX5_key 21 = .ok (.goto 8, 3) := by decide +kernel
theorem dX5_key_24 : decode cX5_key 24 = .ok (.iload_n 1, 1) := by decide +kernel
theorem dX5_key_25 : decode cX5_key 25 = .ok (.iload_n 2, 1) := by decide +kernel
theorem dX5_key_26 : decode cX5_key 26 = .ok (.invokestatic 74, 3) := by decide +kernel
theorem dX5_key_29 : decode cX5_key 29 = .ok (.ireturn, 1) := by decide +kernel
set_option maxRecDepth 20000 in
theorem ggX5_keyOf_X5_is : GoodIn wsX5_keyOf wsX5_is := goodIn_r _ [6, 7, 8, 14, 15, 16, 17, 18, 19, 20, 21, 22, 23, 24, 25, 26, 27, 28, 29] (by decide +kernel) (by decide +kernel)
set_option maxRecDepth 20000 in
theorem gX5_keyOf_X5_is : GoodIn wsX5_keyOf (wsV RX5 84 RX5 yX5_is wsX5_is) := goodIn_app (goodIn_of _ (by decide +kernel)) ggX5_keyOf_X5_is
set_option maxRecDepth 20000 in
theorem ggX5_keyOf_X5_fails : GoodIn wsX5_keyOf wsX5_fails := goodIn_r _ [12, 13, 14, 15, 16, 17, 18, 19, 20, 21, 22, 23, 24, 25, 26, 27, 28, 29] (by decide +kernel) (by decide +kernel)
set_option maxRecDepth 20000 in
theorem gX5_keyOf_X5_fails : GoodIn wsX5_keyOf (wsV RX5 70 RX5 yX5_fails wsX5_fails) := goodIn_app (goodIn_of _ (by decide +kernel)) ggX5_keyOf_X5_fails
theorem dX5_keyOf_0 : decode cX5_keyOf 0 = .ok (.aload_n 0, 1) := by decide +kernel
theorem dX5_keyOf_1 : decode cX5_keyOf 1 = .ok (.aload_n 0, 1) := by decide +kernel
theorem dX5_keyOf_2 : decode cX5_keyOf 2 = .ok (.iload_n 1, 1) := by decide +kernel
theorem dX5_keyOf_3 : decode cX5_keyOf 3 = .ok (.invokevirtual 84, 3) := by decide +kernel
theorem dX5_keyOf_6 : decode cX5_keyOf 6 = .ok (.ifCond .eq 7, 3) := by decide +kernel
theorem dX5_keyOf_9 : decode cX5_keyOf 9 = .ok (.iconst 0, 1) := by decide +kernel
theorem dX5_keyOf_10 : decode cX5_keyOf 10 = .ok (.goto 4, 3) := by decide +kernel
theorem dX5_keyOf_13 : decode cX5_keyOf 13 = .ok (.iconst 1, 1) := by decide +kernel
theorem dX5_keyOf_14 : decode cX5_keyOf 14 = .ok (.invokevirtual 70, 3) := by decide +kernel
theorem dX5_keyOf_17 : decode cX5_keyOf 17 = .ok (.ifCond .eq 7, 3) := by decide +kernel
theorem dX5_keyOf_20 : decode cX5_keyOf 20 = .ok (.iconst 0, 1) := by decide +kernel
theorem dX5_keyOf_21 : decode cX5_keyOf 21 = .ok (.goto 9, 3) := by decide +kernel
theorem dX5_keyOf_24 : decode cX5_keyOf 24 = .ok (.aload_n 0, 1) := by decide +kernel
theorem dX5_keyOf_25 : decode cX5_keyOf 25 = .ok (.getfield 13, 3) := by decide +kernel
theorem dX5_keyOf_28 : decode cX5_keyOf 28 = .ok (.iload_n 1, 1) := by decide +kernel
theorem dX5_keyOf_29 : decode cX5_keyOf 29 = .ok (.iaload, 1) := by decide +kernel
theorem dX5_keyOf_30 : decode cX5_keyOf 30 = .ok (.ireturn, 1) := by decide +kernel
theorem dX5_isSide_0 : decode cX5_isSide 0 = .ok (.iload_n 0, 1) := by decide +kernel
theorem dX5_isSide_1 : decode cX5_isSide 1 = .ok (.ifCond .lt 12, 3) := by decide +kernel
theorem dX5_isSide_4 : decode cX5_isSide 4 = .ok (.iload_n 0, 1) := by decide +kernel
theorem dX5_isSide_5 : decode cX5_isSide 5 = .ok (.iconst 4, 1) := by decide +kernel
theorem dX5_isSide_6 : decode cX5_isSide 6 = .ok (.if_icmp .ge 7, 3) := by decide +kernel
theorem dX5_isSide_9 : decode cX5_isSide 9 = .ok (.iconst 1, 1) := by decide +kernel
theorem dX5_isSide_10 : decode cX5_isSide 10 = .ok (.goto 4, 3) := by decide +kernel
theorem dX5_isSide_13 : decode cX5_isSide 13 = .ok (.iconst 0, 1) := by decide +kernel
theorem dX5_isSide_14 : decode cX5_isSide 14 = .ok (.ireturn, 1) := by decide +kernel
set_option maxRecDepth 20000 in
theorem ggX5_sideOf_X5_isSide : GoodIn wsX5_sideOf wsX5_isSide := goodIn_r _ [5] (by decide +kernel) (by decide +kernel)
set_option maxRecDepth 20000 in
theorem gX5_sideOf_X5_isSide : GoodIn wsX5_sideOf (va_wsS RX5 101 yX5_isSide wsX5_isSide) := goodIn_app (goodIn_of _ (by decide +kernel)) ggX5_sideOf_X5_isSide
set_option maxRecDepth 20000 in
theorem ggX5_sideOf_X5_is : GoodIn wsX5_sideOf wsX5_is := goodIn_r _ [9, 10, 11, 17, 18, 19, 20, 21, 22, 23, 24, 25, 26, 27, 28, 29, 30, 31, 32] (by decide +kernel) (by decide +kernel)
set_option maxRecDepth 20000 in
theorem gX5_sideOf_X5_is : GoodIn wsX5_sideOf (wsV RX5 84 RX5 yX5_is wsX5_is) := goodIn_app (goodIn_of _ (by decide +kernel)) ggX5_sideOf_X5_is
set_option maxRecDepth 20000 in
theorem ggX5_sideOf_X5_fails : GoodIn wsX5_sideOf wsX5_fails := goodIn_r _ [15, 16, 17, 18, 19, 20, 21, 22, 23, 24, 25, 26, 27, 28, 29, 30, 31, 32] (by decide +kernel) (by decide +kernel)
set_option maxRecDepth 20000 in
theorem gX5_sideOf_X5_fails : GoodIn wsX5_sideOf (wsV RX5 70 RX5 yX5_fails wsX5_fails) := goodIn_app (goodIn_of _ (by decide +kernel)) ggX5_sideOf_X5_fails
theorem dX5_sideOf_0 : decode cX5_sideOf 0 = .ok (.aload_n 0, 1) := by decide +kernel
theorem dX5_sideOf_1 : decode cX5_sideOf 1 = .ok (.iload_n 2, 1) := by decide +kernel
theorem dX5_sideOf_2 : decode cX5_sideOf 2 = .ok (.invokestatic 101, 3) := by decide +kernel
theorem dX5_sideOf_5 : decode cX5_sideOf 5 = .ok (.ifCond .ne 7, 3) := by decide +kernel
theorem dX5_sideOf_8 : decode cX5_sideOf 8 = .ok (.iconst 1, 1) := by decide +kernel
theorem dX5_sideOf_9 : decode cX5_sideOf 9 = .ok (.goto 16, 3) := by decide +kernel
theorem dX5_sideOf_12 : decode cX5_sideOf 12 = .ok (.aload_n 0, 1) := by decide +kernel
theorem dX5_sideOf_13 : decode cX5_sideOf 13 = .ok (.iload_n 1, 1) := by decide +kernel
theorem dX5_sideOf_14 : decode cX5_sideOf 14 = .ok (.invokevirtual 84, 3) := by decide +kernel
theorem dX5_sideOf_17 : decode cX5_sideOf 17 = .ok (.ifCond .eq 7, 3) := by decide +kernel
theorem dX5_sideOf_20 : decode cX5_sideOf 20 = .ok (.iconst 0, 1) := by decide +kernel
theorem dX5_sideOf_21 : decode cX5_sideOf 21 = .ok (.goto 4, 3) := by decide +kernel
theorem dX5_sideOf_24 : decode cX5_sideOf 24 = .ok (.iconst 2, 1) := by decide +kernel
theorem dX5_sideOf_25 : decode cX5_sideOf 25 = .ok (.invokevirtual 70, 3) := by decide +kernel
theorem dX5_sideOf_28 : decode cX5_sideOf 28 = .ok (.ifCond .eq 7, 3) := by decide +kernel
theorem dX5_sideOf_31 : decode cX5_sideOf 31 = .ok (.iconst 0, 1) := by decide +kernel
theorem dX5_sideOf_32 : decode cX5_sideOf 32 = .ok (.goto 13, 3) := by decide +kernel
theorem dX5_sideOf_35 : decode cX5_sideOf 35 = .ok (.aload_n 0, 1) := by decide +kernel
theorem dX5_sideOf_36 : decode cX5_sideOf 36 = .ok (.getfield 7, 3) := by decide +kernel
theorem dX5_sideOf_39 : decode cX5_sideOf 39 = .ok (.iconst 4, 1) := by decide +kernel
theorem dX5_sideOf_40 : decode cX5_sideOf 40 = .ok (.iload_n 1, 1) := by decide +kernel
theorem dX5_sideOf_41 : decode cX5_sideOf 41 = .ok (.imul, 1) := by decide +kernel
theorem dX5_sideOf_42 : decode cX5_sideOf 42 = .ok (.iload_n 2, 1) := by decide +kernel
theorem dX5_sideOf_43 : decode cX5_sideOf 43 = .ok (.iadd, 1) := by decide +kernel
theorem dX5_sideOf_44 : decode cX5_sideOf 44 = .ok (.iaload, 1) := by decide +kernel
theorem dX5_sideOf_45 : decode cX5_sideOf 45 = .ok (.ireturn, 1) := by decide +kernel
set_option maxRecDepth 20000 in
theorem ggX5_levels_X5_tells : GoodIn wsX5_levels wsX5_tells := goodIn_r _ [6, 7, 8, 9, 10, 11, 12, 13, 14, 15, 16, 17, 18, 19, 20, 21, 22, 23] (by decide +kernel) (by decide +kernel)
set_option maxRecDepth 20000 in
theorem gX5_levels_X5_tells : GoodIn wsX5_levels (wsV RX5 94 RX5 yX5_tells wsX5_tells) := goodIn_app (goodIn_of _ (by decide +kernel)) ggX5_levels_X5_tells
theorem dX5_levels_0 : decode cX5_levels 0 = .ok (.aload_n 0, 1) := by decide +kernel
theorem dX5_levels_1 : decode cX5_levels 1 = .ok (.aload_n 0, 1) := by decide +kernel
theorem dX5_levels_2 : decode cX5_levels 2 = .ok (.getfield 43, 3) := by decide +kernel
theorem dX5_levels_5 : decode cX5_levels 5 = .ok (.invokevirtual 94, 3) := by decide +kernel
theorem dX5_levels_8 : decode cX5_levels 8 = .ok (.ireturn, 1) := by decide +kernel
theorem dX5_isLevel_0 : decode cX5_isLevel 0 = .ok (.iload_n 1, 1) := by decide +kernel
theorem dX5_isLevel_1 : decode cX5_isLevel 1 = .ok (.ifCond .lt 15, 3) := by decide +kernel
theorem dX5_isLevel_4 : decode cX5_isLevel 4 = .ok (.iload_n 1, 1) := by decide +kernel
theorem dX5_isLevel_5 : decode cX5_isLevel 5 = .ok (.aload_n 0, 1) := by decide +kernel
theorem dX5_isLevel_6 : decode cX5_isLevel 6 = .ok (.getfield 43, 3) := by decide +kernel
theorem dX5_isLevel_9 : decode cX5_isLevel 9 = .ok (.if_icmp .ge 7, 3) := by decide +kernel
theorem dX5_isLevel_12 : decode cX5_isLevel 12 = .ok (.iconst 1, 1) := by decide +kernel
theorem dX5_isLevel_13 : decode cX5_isLevel 13 = .ok (.goto 4, 3) := by decide +kernel
theorem dX5_isLevel_16 : decode cX5_isLevel 16 = .ok (.iconst 0, 1) := by decide +kernel
theorem dX5_isLevel_17 : decode cX5_isLevel 17 = .ok (.ireturn, 1) := by decide +kernel
set_option maxRecDepth 20000 in
theorem ggX5_nodes_X5_isLevel : GoodIn wsX5_nodes wsX5_isLevel := goodIn_r _ [6, 7, 13, 14, 15, 16, 17, 18, 19, 20, 21, 22, 23, 24, 25, 26, 27, 28] (by decide +kernel) (by decide +kernel)
set_option maxRecDepth 20000 in
theorem gX5_nodes_X5_isLevel : GoodIn wsX5_nodes (wsV RX5 104 RX5 yX5_isLevel wsX5_isLevel) := goodIn_app (goodIn_of _ (by decide +kernel)) ggX5_nodes_X5_isLevel
set_option maxRecDepth 20000 in
theorem ggX5_nodes_X5_fails : GoodIn wsX5_nodes wsX5_fails := goodIn_r _ [11, 12, 13, 14, 15, 16, 17, 18, 19, 20, 21, 22, 23, 24, 25, 26, 27, 28] (by decide +kernel) (by decide +kernel)
set_option maxRecDepth 20000 in
theorem gX5_nodes_X5_fails : GoodIn wsX5_nodes (wsV RX5 70 RX5 yX5_fails wsX5_fails) := goodIn_app (goodIn_of _ (by decide +kernel)) ggX5_nodes_X5_fails
theorem dX5_nodes_0 : decode cX5_nodes 0 = .ok (.aload_n 0, 1) := by decide +kernel
theorem dX5_nodes_1 : decode cX5_nodes 1 = .ok (.aload_n 0, 1) := by decide +kernel
theorem dX5_nodes_2 : decode cX5_nodes 2 = .ok (.iload_n 1, 1) := by decide +kernel
theorem dX5_nodes_3 : decode cX5_nodes 3 = .ok (.invokevirtual 104, 3) := by decide +kernel
theorem dX5_nodes_6 : decode cX5_nodes 6 = .ok (.ifCond .eq 7, 3) := by decide +kernel
theorem dX5_nodes_9 : decode cX5_nodes 9 = .ok (.iconst 0, 1) := by decide +kernel
theorem dX5_nodes_10 : decode cX5_nodes 10 = .ok (.goto 4, 3) := by decide +kernel
theorem dX5_nodes_13 : decode cX5_nodes 13 = .ok (.iconst 1, 1) := by decide +kernel
theorem dX5_nodes_14 : decode cX5_nodes 14 = .ok (.invokevirtual 70, 3) := by decide +kernel
theorem dX5_nodes_17 : decode cX5_nodes 17 = .ok (.ifCond .eq 7, 3) := by decide +kernel
theorem dX5_nodes_20 : decode cX5_nodes 20 = .ok (.iconst 0, 1) := by decide +kernel
theorem dX5_nodes_21 : decode cX5_nodes 21 = .ok (.goto 9, 3) := by decide +kernel
theorem dX5_nodes_24 : decode cX5_nodes 24 = .ok (.aload_n 0, 1) := by decide +kernel
theorem dX5_nodes_25 : decode cX5_nodes 25 = .ok (.getfield 23, 3) := by decide +kernel
theorem dX5_nodes_28 : decode cX5_nodes 28 = .ok (.iload_n 1, 1) := by decide +kernel
theorem dX5_nodes_29 : decode cX5_nodes 29 = .ok (.iaload, 1) := by decide +kernel
theorem dX5_nodes_30 : decode cX5_nodes 30 = .ok (.ireturn, 1) := by decide +kernel
set_option maxRecDepth 20000 in
theorem ggX5_isNode_X5_isLevel : GoodIn wsX5_isNode wsX5_isLevel := goodIn_r _ [6, 7, 8, 9, 10, 11, 12, 13, 14, 15, 16, 17, 18, 19, 20, 21, 22, 23] (by decide +kernel) (by decide +kernel)
set_option maxRecDepth 20000 in
theorem gX5_isNode_X5_isLevel : GoodIn wsX5_isNode (wsV RX5 104 RX5 yX5_isLevel wsX5_isLevel) := goodIn_app (goodIn_of _ (by decide +kernel)) ggX5_isNode_X5_isLevel
theorem dX5_isNode_0 : decode cX5_isNode 0 = .ok (.aload_n 0, 1) := by decide +kernel
theorem dX5_isNode_1 : decode cX5_isNode 1 = .ok (.iload_n 1, 1) := by decide +kernel
theorem dX5_isNode_2 : decode cX5_isNode 2 = .ok (.invokevirtual 104, 3) := by decide +kernel
theorem dX5_isNode_5 : decode cX5_isNode 5 = .ok (.ifCond .eq 21, 3) := by decide +kernel
theorem dX5_isNode_8 : decode cX5_isNode 8 = .ok (.iload_n 2, 1) := by decide +kernel
theorem dX5_isNode_9 : decode cX5_isNode 9 = .ok (.ifCond .lt 17, 3) := by decide +kernel
theorem dX5_isNode_12 : decode cX5_isNode 12 = .ok (.iload_n 2, 1) := by decide +kernel
theorem dX5_isNode_13 : decode cX5_isNode 13 = .ok (.aload_n 0, 1) := by decide +kernel
theorem dX5_isNode_14 : decode cX5_isNode 14 = .ok (.getfield 23, 3) := by decide +kernel
theorem dX5_isNode_17 : decode cX5_isNode 17 = .ok (.iload_n 1, 1) := by decide +kernel
theorem dX5_isNode_18 : decode cX5_isNode 18 = .ok (.iaload, 1) := by decide +kernel
theorem dX5_isNode_19 : decode cX5_isNode 19 = .ok (.if_icmp .ge 7, 3) := by decide +kernel
theorem dX5_isNode_22 : decode cX5_isNode 22 = .ok (.iconst 1, 1) := by decide +kernel
theorem dX5_isNode_23 : decode cX5_isNode 23 = .ok (.goto 4, 3) := by decide +kernel
theorem dX5_isNode_26 : decode cX5_isNode 26 = .ok (.iconst 0, 1) := by decide +kernel
theorem dX5_isNode_27 : decode cX5_isNode 27 = .ok (.ireturn, 1) := by decide +kernel
set_option maxRecDepth 20000 in
theorem ggX5_entries_X5_isNode : GoodIn wsX5_entries wsX5_isNode := goodIn_r _ [5, 6, 7, 8, 9, 4, 10, 11, 22, 23, 24, 25, 26, 27, 28, 29, 30, 31, 32, 33, 34, 35, 36, 37] (by decide +kernel) (by decide +kernel)
set_option maxRecDepth 20000 in
theorem gX5_entries_X5_isNode : GoodIn wsX5_entries (wsV RX5 107 RX5 yX5_isNode wsX5_isNode) := goodIn_app (goodIn_of _ (by decide +kernel)) ggX5_entries_X5_isNode
set_option maxRecDepth 20000 in
theorem ggX5_entries_X5_fails : GoodIn wsX5_entries wsX5_fails := goodIn_r _ [15, 16, 22, 23, 24, 25, 26, 27, 28, 29, 30, 31, 32, 33, 34, 35, 36, 37] (by decide +kernel) (by decide +kernel)
set_option maxRecDepth 20000 in
theorem gX5_entries_X5_fails : GoodIn wsX5_entries (wsV RX5 70 RX5 yX5_fails wsX5_fails) := goodIn_app (goodIn_of _ (by decide +kernel)) ggX5_entries_X5_fails
set_option maxRecDepth 20000 in
theorem ggX5_entries_X5_many : GoodIn wsX5_entries wsX5_many := goodIn_r _ [20, 21, 22, 23, 24, 25, 26, 27, 28, 29, 30, 31, 32, 33, 34, 35, 36, 37] (by decide +kernel) (by decide +kernel)
set_option maxRecDepth 20000 in
theorem gX5_entries_X5_many : GoodIn wsX5_entries (wsV RX5 36 RX5 yX5_many wsX5_many) := goodIn_app (goodIn_of _ (by decide +kernel)) ggX5_entries_X5_many
theorem dX5_entries_0 : decode cX5_entries 0 = .ok (.aload_n 0, 1) := by decide +kernel
theorem dX5_entries_1 : decode cX5_entries 1 = .ok (.aload_n 0, 1) := by decide +kernel
theorem dX5_entries_2 : decode cX5_entries 2 = .ok (.iload_n 1, 1) := by decide +kernel
theorem dX5_entries_3 : decode cX5_entries 3 = .ok (.iload_n 2, 1) := by decide +kernel
theorem dX5_entries_4 : decode cX5_entries 4 = .ok (.invokevirtual 107, 3) := by decide +kernel
theorem dX5_entries_7 : decode cX5_entries 7 = .ok (.ifCond .eq 7, 3) := by decide +kernel
theorem dX5_entries_10 : decode cX5_entries 10 = .ok (.iconst 0, 1) := by decide +kernel
theorem dX5_entries_11 : decode cX5_entries 11 = .ok (.goto 4, 3) := by decide +kernel
theorem dX5_entries_14 : decode cX5_entries 14 = .ok (.iconst 1, 1) := by decide +kernel
theorem dX5_entries_15 : decode cX5_entries 15 = .ok (.invokevirtual 70, 3) := by decide +kernel
theorem dX5_entries_18 : decode cX5_entries 18 = .ok (.ifCond .eq 7, 3) := by decide +kernel
theorem dX5_entries_21 : decode cX5_entries 21 = .ok (.iconst 0, 1) := by decide +kernel
theorem dX5_entries_22 : decode cX5_entries 22 = .ok (.goto 9, 3) := by decide +kernel
theorem dX5_entries_25 : decode cX5_entries 25 = .ok (.aload_n 0, 1) := by decide +kernel
theorem dX5_entries_26 : decode cX5_entries 26 = .ok (.iload_n 1, 1) := by decide +kernel
theorem dX5_entries_27 : decode cX5_entries 27 = .ok (.iload_n 2, 1) := by decide +kernel
theorem dX5_entries_28 : decode cX5_entries 28 = .ok (.invokevirtual 36, 3) := by decide +kernel
theorem dX5_entries_31 : decode cX5_entries 31 = .ok (.ireturn, 1) := by decide +kernel
set_option maxRecDepth 20000 in
theorem ggX5_covers_X5_ahead : GoodIn wsX5_covers wsX5_ahead := goodIn_r _ [13, 14, 15, 16, 12, 17, 18, 19, 20, 21, 22, 23, 24, 25, 26, 27, 28, 29, 30, 31, 32, 33, 34] (by decide +kernel) (by decide +kernel)
set_option maxRecDepth 20000 in
theorem gX5_covers_X5_ahead : GoodIn wsX5_covers (wsV RX5 40 RX5 yX5_ahead wsX5_ahead) := goodIn_app (goodIn_of _ (by decide +kernel)) ggX5_covers_X5_ahead
theorem dX5_covers_0 : decode cX5_covers 0 = .ok (.aload_n 0, 1) := by decide +kernel
theorem dX5_covers_1 : decode cX5_covers 1 = .ok (.iload_n 2, 1) := by decide +kernel
theorem dX5_covers_2 : decode cX5_covers 2 = .ok (.putfield 110, 3) := by decide +kernel
theorem dX5_covers_5 : decode cX5_covers 5 = .ok (.aload_n 0, 1) := by decide +kernel
theorem dX5_covers_6 : decode cX5_covers 6 = .ok (.iload_n 2, 1) := by decide +kernel
theorem dX5_covers_7 : decode cX5_covers 7 = .ok (.iconst 1, 1) := by decide +kernel
theorem dX5_covers_8 : decode cX5_covers 8 = .ok (.iadd, 1) := by decide +kernel
theorem dX5_covers_9 : decode cX5_covers 9 = .ok (.putfield 113, 3) := by decide +kernel
theorem dX5_covers_12 : decode cX5_covers 12 = .ok (.iload_n 1, 1) := by decide +kernel
theorem dX5_covers_13 : decode cX5_covers 13 = .ok (.istore_n 3, 1) := by decide +kernel
theorem dX5_covers_14 : decode cX5_covers 14 = .ok (.iload_n 3, 1) := by decide +kernel
theorem dX5_covers_15 : decode cX5_covers 15 = .ok (.ifCond .lt 35, 3) := by decide +kernel
theorem dX5_covers_18 : decode cX5_covers 18 = .ok (.aload_n 0, 1) := by decide +kernel
theorem dX5_covers_19 : decode cX5_covers 19 = .ok (.aload_n 0, 1) := by decide +kernel
theorem dX5_covers_20 : decode cX5_covers 20 = .ok (.iload_n 3, 1) := by decide +kernel
theorem dX5_covers_21 : decode cX5_covers 21 = .ok (.aload_n 0, 1) := by decide +kernel
theorem dX5_covers_22 : decode cX5_covers 22 = .ok (.getfield 110, 3) := by decide +kernel
theorem dX5_covers_25 : decode cX5_covers 25 = .ok (.invokevirtual 40, 3) := by decide +kernel
theorem dX5_covers_28 : decode cX5_covers 28 = .ok (.putfield 110, 3) := by decide +kernel
theorem dX5_covers_31 : decode cX5_covers 31 = .ok (.aload_n 0, 1) := by decide +kernel
theorem dX5_covers_32 : decode cX5_covers 32 = .ok (.aload_n 0, 1) := by decide +kernel
theorem dX5_covers_33 : decode cX5_covers 33 = .ok (.iload_n 3, 1) := by decide +kernel
theorem dX5_covers_34 : decode cX5_covers 34 = .ok (.aload_n 0, 1) := by decide +kernel
theorem dX5_covers_35 : decode cX5_covers 35 = .ok (.getfield 113, 3) := by decide +kernel
theorem dX5_covers_38 : decode cX5_covers 38 = .ok (.invokevirtual 40, 3) := by decide +kernel
theorem dX5_covers_41 : decode cX5_covers 41 = .ok (.putfield 113, 3) := by decide +kernel
theorem dX5_covers_44 : decode cX5_covers 44 = .ok (.iinc 3 (-1), 3) := by decide +kernel
theorem dX5_covers_47 : decode cX5_covers 47 = .ok (.goto (-33), 3) := by decide +kernel
theorem dX5_covers_50 : decode cX5_covers 50 = .ok (.aload_n 0, 1) := by decide +kernel
theorem dX5_covers_51 : decode cX5_covers 51 = .ok (.sipush 255, 3) := by decide +kernel
theorem dX5_covers_54 : decode cX5_covers 54 = .ok (.putfield 116, 3) := by decide +kernel
theorem dX5_covers_57 : decode cX5_covers 57 = .ok (.aload_n 0, 1) := by decide +kernel
theorem dX5_covers_58 : decode cX5_covers 58 = .ok (.sipush 255, 3) := by decide +kernel
theorem dX5_covers_61 : decode cX5_covers 61 = .ok (.putfield 119, 3) := by decide +kernel
theorem dX5_covers_64 : decode cX5_covers 64 = .ok (.aload_n 0, 1) := by decide +kernel
theorem dX5_covers_65 : decode cX5_covers 65 = .ok (.iconst 0, 1) := by decide +kernel
theorem dX5_covers_66 : decode cX5_covers 66 = .ok (.putfield 122, 3) := by decide +kernel
theorem dX5_covers_69 : decode cX5_covers 69 = .ok (.aload_n 0, 1) := by decide +kernel
theorem dX5_covers_70 : decode cX5_covers 70 = .ok (.iconst 0, 1) := by decide +kernel
theorem dX5_covers_71 : decode cX5_covers 71 = .ok (.putfield 125, 3) := by decide +kernel
theorem dX5_covers_74 : decode cX5_covers 74 = .ok (.aload_n 0, 1) := by decide +kernel
theorem dX5_covers_75 : decode cX5_covers 75 = .ok (.getfield 110, 3) := by decide +kernel
theorem dX5_covers_78 : decode cX5_covers 78 = .ok (.istore_n 3, 1) := by decide +kernel
theorem dX5_covers_79 : decode cX5_covers 79 = .ok (.iload_n 3, 1) := by decide +kernel
theorem dX5_covers_80 : decode cX5_covers 80 = .ok (.aload_n 0, 1) := by decide +kernel
theorem dX5_covers_81 : decode cX5_covers 81 = .ok (.getfield 113, 3) := by decide +kernel
theorem dX5_covers_84 : decode cX5_covers 84 = .ok (.if_icmp .ge 159, 3) := by decide +kernel
theorem dX5_covers_87 : decode cX5_covers 87 = .ok (.iconst 4, 1) := by decide +kernel
theorem dX5_covers_88 : decode cX5_covers 88 = .ok (.aload_n 0, 1) := by decide +kernel
theorem dX5_covers_89 : decode cX5_covers 89 = .ok (.getfield 20, 3) := by decide +kernel
theorem dX5_covers_92 : decode cX5_covers 92 = .ok (.iload_n 3, 1) := by decide +kernel
theorem dX5_covers_93 : decode cX5_covers 93 = .ok (.iaload, 1) := by decide +kernel
theorem dX5_covers_94 : decode cX5_covers 94 = .ok (.imul, 1) := by decide +kernel
theorem dX5_covers_95 : decode cX5_covers 95 = .ok (.istore 4, 2) := by decide +kernel
theorem dX5_covers_97 : decode cX5_covers 97 = .ok (.aload_n 0, 1) := by decide +kernel
theorem dX5_covers_98 : decode cX5_covers 98 = .ok (.aload_n 0, 1) := by decide +kernel
theorem dX5_covers_99 : decode cX5_covers 99 = .ok (.getfield 7, 3) := by decide +kernel
theorem dX5_covers_102 : decode cX5_covers 102 = .ok (.iload 4, 2) := by decide +kernel
theorem dX5_covers_104 : decode cX5_covers 104 = .ok (.iaload, 1) := by decide +kernel
theorem dX5_covers_105 : decode cX5_covers 105 = .ok (.aload_n 0, 1) := by decide +kernel
theorem dX5_covers_106 : decode cX5_covers 106 = .ok (.getfield 116, 3) := by decide +kernel
theorem dX5_covers_109 : decode cX5_covers 109 = .ok (.if_icmp .ge 13, 3) := by decide +kernel
theorem dX5_covers_112 : decode cX5_covers 112 = .ok (.aload_n 0, 1) := by decide +kernel
theorem dX5_covers_113 : decode cX5_covers 113 = .ok (.getfield 7, 3) := by decide +kernel
theorem dX5_covers_116 : decode cX5_covers 116 = .ok (.iload 4, 2) := by decide +kernel
theorem dX5_covers_118 : decode cX5_covers 118 = .ok (.iaload, 1) := by decide +kernel
theorem dX5_covers_119 : decode cX5_covers 119 = .ok (.goto 7, 3) := by decide +kernel
theorem dX5_covers_122 : decode cX5_covers 122 = .ok (.aload_n 0, 1) := by decide +kernel
theorem dX5_covers_123 : decode cX5_covers 123 = .ok (.getfield 116, 3) := by decide +kernel
theorem dX5_covers_126 : decode cX5_covers 126 = .ok (.putfield 116, 3) := by decide +kernel
theorem dX5_covers_129 : decode cX5_covers 129 = .ok (.aload_n 0, 1) := by decide +kernel
theorem dX5_covers_130 : decode cX5_covers 130 = .ok (.aload_n 0, 1) := by decide +kernel
theorem dX5_covers_131 : decode cX5_covers 131 = .ok (.getfield 7, 3) := by decide +kernel
theorem dX5_covers_134 : decode cX5_covers 134 = .ok (.iload 4, 2) := by decide +kernel
theorem dX5_covers_136 : decode cX5_covers 136 = .ok (.iconst 1, 1) := by decide +kernel
theorem dX5_covers_137 : decode cX5_covers 137 = .ok (.iadd, 1) := by decide +kernel
theorem dX5_covers_138 : decode cX5_covers 138 = .ok (.iaload, 1) := by decide +kernel
theorem dX5_covers_139 : decode cX5_covers 139 = .ok (.aload_n 0, 1) := by decide +kernel
theorem dX5_covers_140 : decode cX5_covers 140 = .ok (.getfield 119, 3) := by decide +kernel
theorem dX5_covers_143 : decode cX5_covers 143 = .ok (.if_icmp .ge 15, 3) := by decide +kernel
theorem dX5_covers_146 : decode cX5_covers 146 = .ok (.aload_n 0, 1) := by decide +kernel
theorem dX5_covers_147 : decode cX5_covers 147 = .ok (.getfield 7, 3) := by decide +kernel
theorem dX5_covers_150 : decode cX5_covers 150 = .ok (.iload 4, 2) := by decide +kernel
theorem dX5_covers_152 : decode cX5_covers 152 = .ok (.iconst 1, 1) := by decide +kernel
theorem dX5_covers_153 : decode cX5_covers 153 = .ok (.iadd, 1) := by decide +kernel
theorem dX5_covers_154 : decode cX5_covers 154 = .ok (.iaload, 1) := by decide +kernel
theorem dX5_covers_155 : decode cX5_covers 155 = .ok (.goto 7, 3) := by decide +kernel
theorem dX5_covers_158 : decode cX5_covers 158 = .ok (.aload_n 0, 1) := by decide +kernel
theorem dX5_covers_159 : decode cX5_covers 159 = .ok (.getfield 119, 3) := by decide +kernel
theorem dX5_covers_162 : decode cX5_covers 162 = .ok (.putfield 119, 3) := by decide +kernel
theorem dX5_covers_165 : decode cX5_covers 165 = .ok (.aload_n 0, 1) := by decide +kernel
theorem dX5_covers_166 : decode cX5_covers 166 = .ok (.aload_n 0, 1) := by decide +kernel
theorem dX5_covers_167 : decode cX5_covers 167 = .ok (.getfield 7, 3) := by decide +kernel
theorem dX5_covers_170 : decode cX5_covers 170 = .ok (.iload 4, 2) := by decide +kernel
theorem dX5_covers_172 : decode cX5_covers 172 = .ok (.iconst 2, 1) := by decide +kernel
theorem dX5_covers_173 : decode cX5_covers 173 = .ok (.iadd, 1) := by decide +kernel
theorem dX5_covers_174 : decode cX5_covers 174 = .ok (.iaload, 1) := by decide +kernel
theorem dX5_covers_175 : decode cX5_covers 175 = .ok (.aload_n 0, 1) := by decide +kernel
theorem dX5_covers_176 : decode cX5_covers 176 = .ok (.getfield 122, 3) := by decide +kernel
theorem dX5_covers_179 : decode cX5_covers 179 = .ok (.if_icmp .le 15, 3) := by decide +kernel
theorem dX5_covers_182 : decode cX5_covers 182 = .ok (.aload_n 0, 1) := by decide +kernel
theorem dX5_covers_183 : decode cX5_covers 183 = .ok (.getfield 7, 3) := by decide +kernel
theorem dX5_covers_186 : decode cX5_covers 186 = .ok (.iload 4, 2) := by decide +kernel
theorem dX5_covers_188 : decode cX5_covers 188 = .ok (.iconst 2, 1) := by decide +kernel
theorem dX5_covers_189 : decode cX5_covers 189 = .ok (.iadd, 1) := by decide +kernel
theorem dX5_covers_190 : decode cX5_covers 190 = .ok (.iaload, 1) := by decide +kernel
theorem dX5_covers_191 : decode cX5_covers 191 = .ok (.goto 7, 3) := by decide +kernel
theorem dX5_covers_194 : decode cX5_covers 194 = .ok (.aload_n 0, 1) := by decide +kernel
theorem dX5_covers_195 : decode cX5_covers 195 = .ok (.getfield 122, 3) := by decide +kernel
theorem dX5_covers_198 : decode cX5_covers 198 = .ok (.putfield 122, 3) := by decide +kernel
theorem dX5_covers_201 : decode cX5_covers 201 = .ok (.aload_n 0, 1) := by decide +kernel
theorem dX5_covers_202 : decode cX5_covers 202 = .ok (.aload_n 0, 1) := by decide +kernel
theorem dX5_covers_203 : decode cX5_covers 203 = .ok (.getfield 7, 3) := by decide +kernel
theorem dX5_covers_206 : decode cX5_covers 206 = .ok (.iload 4, 2) := by decide +kernel
theorem dX5_covers_208 : decode cX5_covers 208 = .ok (.iconst 3, 1) := by decide +kernel
theorem dX5_covers_209 : decode cX5_covers 209 = .ok (.iadd, 1) := by decide +kernel
theorem dX5_covers_210 : decode cX5_covers 210 = .ok (.iaload, 1) := by decide +kernel
theorem dX5_covers_211 : decode cX5_covers 211 = .ok (.aload_n 0, 1) := by decide +kernel
theorem dX5_covers_212 : decode cX5_covers 212 = .ok (.getfield 125, 3) := by decide +kernel
theorem dX5_covers_215 : decode cX5_covers 215 = .ok (.if_icmp .le 15, 3) := by decide +kernel
theorem dX5_covers_218 : decode cX5_covers 218 = .ok (.aload_n 0, 1) := by decide +kernel
theorem dX5_covers_219 : decode cX5_covers 219 = .ok (.getfield 7, 3) := by decide +kernel
theorem dX5_covers_222 : decode cX5_covers 222 = .ok (.iload 4, 2) := by decide +kernel
theorem dX5_covers_224 : decode cX5_covers 224 = .ok (.iconst 3, 1) := by decide +kernel
theorem dX5_covers_225 : decode cX5_covers 225 = .ok (.iadd, 1) := by decide +kernel
theorem dX5_covers_226 : decode cX5_covers 226 = .ok (.iaload, 1) := by decide +kernel
theorem dX5_covers_227 : decode cX5_covers 227 = .ok (.goto 7, 3) := by decide +kernel
theorem dX5_covers_230 : decode cX5_covers 230 = .ok (.aload_n 0, 1) := by decide +kernel
theorem dX5_covers_231 : decode cX5_covers 231 = .ok (.getfield 125, 3) := by decide +kernel
theorem dX5_covers_234 : decode cX5_covers 234 = .ok (.putfield 125, 3) := by decide +kernel
theorem dX5_covers_237 : decode cX5_covers 237 = .ok (.iinc 3 1, 3) := by decide +kernel
theorem dX5_covers_240 : decode cX5_covers 240 = .ok (.goto (-161), 3) := by decide +kernel
theorem dX5_covers_243 : decode cX5_covers 243 = .ok (.return_, 1) := by decide +kernel
set_option maxRecDepth 20000 in
theorem ggX5_cover_X5_isSide : GoodIn wsX5_cover wsX5_isSide := goodIn_r _ [8] (by decide +kernel) (by decide +kernel)
set_option maxRecDepth 20000 in
theorem gX5_cover_X5_isSide : GoodIn wsX5_cover (va_wsS RX5 101 yX5_isSide wsX5_isSide) := goodIn_app (goodIn_of _ (by decide +kernel)) ggX5_cover_X5_isSide
set_option maxRecDepth 20000 in
theorem ggX5_cover_X5_isNode : GoodIn wsX5_cover wsX5_isNode := goodIn_r _ [12, 13, 14, 15, 16, 7, 17, 18, 41, 42, 43, 44, 45, 46, 47, 48, 49, 50, 51, 52, 53, 54, 55, 56] (by decide +kernel) (by decide +kernel)
set_option maxRecDepth 20000 in
theorem gX5_cover_X5_isNode : GoodIn wsX5_cover (wsV RX5 107 RX5 yX5_isNode wsX5_isNode) := goodIn_app (goodIn_of _ (by decide +kernel)) ggX5_cover_X5_isNode
set_option maxRecDepth 20000 in
theorem ggX5_cover_X5_fails : GoodIn wsX5_cover wsX5_fails := goodIn_r _ [22, 23, 41, 42, 43, 44, 45, 46, 47, 48, 49, 50, 51, 52, 53, 54, 55, 56] (by decide +kernel) (by decide +kernel)
set_option maxRecDepth 20000 in
theorem gX5_cover_X5_fails : GoodIn wsX5_cover (wsV RX5 70 RX5 yX5_fails wsX5_fails) := goodIn_app (goodIn_of _ (by decide +kernel)) ggX5_cover_X5_fails
set_option maxRecDepth 20000 in
theorem ggX5_cover_X5_covers : GoodIn wsX5_cover wsX5_covers := goodIn_r _ [27, 28, 29, 1, 2, 3, 4, 30, 31, 32, 33, 34, 7, 35, 36, 37, 38, 39, 40, 41, 42, 43, 44, 45, 46, 47, 48, 49, 50, 51, 52, 53, 54, 55, 56] (by decide +kernel) (by decide +kernel)
set_option maxRecDepth 20000 in
theorem gX5_cover_X5_covers : GoodIn wsX5_cover (wsV RX5 128 RX5 yX5_covers wsX5_covers) := goodIn_app (goodIn_of _ (by decide +kernel)) ggX5_cover_X5_covers
theorem dX5_cover_0 : decode cX5_cover 0 = .ok (.aload_n 0, 1) := by decide +kernel
theorem dX5_cover_1 : decode cX5_cover 1 = .ok (.iload_n 3, 1) := by decide +kernel
theorem dX5_cover_2 : decode cX5_cover 2 = .ok (.invokestatic 101, 3) := by decide +kernel
theorem dX5_cover_5 : decode cX5_cover 5 = .ok (.ifCond .ne 7, 3) := by decide +kernel
theorem dX5_cover_8 : decode cX5_cover 8 = .ok (.iconst 1, 1) := by decide +kernel
theorem dX5_cover_9 : decode cX5_cover 9 = .ok (.goto 17, 3) := by decide +kernel
theorem dX5_cover_12 : decode cX5_cover 12 = .ok (.aload_n 0, 1) := by decide +kernel
theorem dX5_cover_13 : decode cX5_cover 13 = .ok (.iload_n 1, 1) := by decide +kernel
theorem dX5_cover_14 : decode cX5_cover 14 = .ok (.iload_n 2, 1) := by decide +kernel
theorem dX5_cover_15 : decode cX5_cover 15 = .ok (.invokevirtual 107, 3) := by decide +kernel
theorem dX5_cover_18 : decode cX5_cover 18 = .ok (.ifCond .eq 7, 3) := by decide +kernel
theorem dX5_cover_21 : decode cX5_cover 21 = .ok (.iconst 0, 1) := by decide +kernel
theorem dX5_cover_22 : decode cX5_cover 22 = .ok (.goto 4, 3) := by decide +kernel
theorem dX5_cover_25 : decode cX5_cover 25 = .ok (.iconst 2, 1) := by decide +kernel
theorem dX5_cover_26 : decode cX5_cover 26 = .ok (.invokevirtual 70, 3) := by decide +kernel
theorem dX5_cover_29 : decode cX5_cover 29 = .ok (.ifCond .eq 5, 3) := by decide +kernel
theorem dX5_cover_32 : decode cX5_cover 32 = .ok (.iconst 0, 1) := by decide +kernel
theorem dX5_cover_33 : decode cX5_cover 33 = .ok (.ireturn, 1) := by decide +kernel
theorem dX5_cover_34 : decode cX5_cover 34 = .ok (.aload_n 0, 1) := by decide +kernel
theorem dX5_cover_35 : decode cX5_cover 35 = .ok (.iload_n 1, 1) := by decide +kernel
theorem dX5_cover_36 : decode cX5_cover 36 = .ok (.iload_n 2, 1) := by decide +kernel
theorem dX5_cover_37 : decode cX5_cover 37 = .ok (.invokevirtual 128, 3) := by decide +kernel
theorem dX5_cover_40 : decode cX5_cover 40 = .ok (.iload_n 3, 1) := by decide +kernel
theorem dX5_cover_41 : decode cX5_cover 41 = .ok (.ifCond .ne 10, 3) := by decide +kernel
theorem dX5_cover_44 : decode cX5_cover 44 = .ok (.aload_n 0, 1) := by decide +kernel
theorem dX5_cover_45 : decode cX5_cover 45 = .ok (.getfield 116, 3) := by decide +kernel
theorem dX5_cover_48 : decode cX5_cover 48 = .ok (.goto 31, 3) := by decide +kernel
theorem dX5_cover_51 : decode cX5_cover 51 = .ok (.iload_n 3, 1) := by decide +kernel
theorem dX5_cover_52 : decode cX5_cover 52 = .ok (.iconst 1, 1) := by decide +kernel
theorem dX5_cover_53 : decode cX5_cover 53 = .ok (.if_icmp .ne 10, 3) := by decide +kernel
theorem dX5_cover_56 : decode cX5_cover 56 = .ok (.aload_n 0, 1) := by decide +kernel
theorem dX5_cover_57 : decode cX5_cover 57 = .ok (.getfield 119, 3) := by decide +kernel
theorem dX5_cover_60 : decode cX5_cover 60 = .ok (.goto 19, 3) := by decide +kernel
theorem dX5_cover_63 : decode cX5_cover 63 = .ok (.iload_n 3, 1) := by decide +kernel
theorem dX5_cover_64 : decode cX5_cover 64 = .ok (.iconst 2, 1) := by decide +kernel
theorem dX5_cover_65 : decode cX5_cover 65 = .ok (.if_icmp .ne 10, 3) := by decide +kernel
theorem dX5_cover_68 : decode cX5_cover 68 = .ok (.aload_n 0, 1) := by decide +kernel
theorem dX5_cover_69 : decode cX5_cover 69 = .ok (.getfield 122, 3) := by decide +kernel
theorem dX5_cover_72 : decode cX5_cover 72 = .ok (.goto 7, 3) := by decide +kernel
theorem dX5_cover_75 : decode cX5_cover 75 = .ok (.aload_n 0, 1) := by decide +kernel
theorem dX5_cover_76 : decode cX5_cover 76 = .ok (.getfield 125, 3) := by decide +kernel
theorem dX5_cover_79 : decode cX5_cover 79 = .ok (.ireturn, 1) := by decide +kernel
set_option maxRecDepth 20000 in
theorem ggX5_leafOf_X5_is : GoodIn wsX5_leafOf wsX5_is := goodIn_r _ [5, 6, 7, 33, 34, 35, 36, 37, 38, 39, 40, 41, 42, 43, 44, 45, 46, 47, 48] (by decide +kernel) (by decide +kernel)
set_option maxRecDepth 20000 in
theorem gX5_leafOf_X5_is : GoodIn wsX5_leafOf (wsV RX5 84 RX5 yX5_is wsX5_is) := goodIn_app (goodIn_of _ (by decide +kernel)) ggX5_leafOf_X5_is
set_option maxRecDepth 20000 in
theorem ggX5_leafOf_X5_fails : GoodIn wsX5_leafOf wsX5_fails := goodIn_r _ [11, 12, 33, 34, 35, 36, 37, 38, 39, 40, 41, 42, 43, 44, 45, 46, 47, 48] (by decide +kernel) (by decide +kernel)
set_option maxRecDepth 20000 in
theorem gX5_leafOf_X5_fails : GoodIn wsX5_leafOf (wsV RX5 70 RX5 yX5_fails wsX5_fails) := goodIn_app (goodIn_of _ (by decide +kernel)) ggX5_leafOf_X5_fails
set_option maxRecDepth 20000 in
theorem ggX5_leafOf_X5_placeOf : GoodIn wsX5_leafOf wsX5_placeOf := goodIn_r _ [16, 17, 33, 34, 35, 36, 37, 38, 39, 40, 41, 42, 43, 44, 45, 46, 47, 48] (by decide +kernel) (by decide +kernel)
set_option maxRecDepth 20000 in
theorem gX5_leafOf_X5_placeOf : GoodIn wsX5_leafOf (wsV RX5 87 RX5 yX5_placeOf wsX5_placeOf) := goodIn_app (goodIn_of _ (by decide +kernel)) ggX5_leafOf_X5_placeOf
set_option maxRecDepth 20000 in
theorem ggX5_leafOf_X5_leafFor : GoodIn wsX5_leafOf wsX5_leafFor := goodIn_r _ [21, 22, 23, 24, 25, 26, 4, 27, 28, 29, 30, 31, 32, 33, 34, 35, 36, 37, 38, 39, 40, 41, 42, 43, 44, 45, 46, 47, 48] (by decide +kernel) (by decide +kernel)
set_option maxRecDepth 20000 in
theorem gX5_leafOf_X5_leafFor : GoodIn wsX5_leafOf (wsV RX5 77 RX5 yX5_leafFor wsX5_leafFor) := goodIn_app (goodIn_of _ (by decide +kernel)) ggX5_leafOf_X5_leafFor
theorem dX5_leafOf_0 : decode cX5_leafOf 0 = .ok (.aload_n 0, 1) := by decide +kernel
theorem dX5_leafOf_1 : decode cX5_leafOf 1 = .ok (.aload_n 0, 1) := by decide +kernel
theorem dX5_leafOf_2 : decode cX5_leafOf 2 = .ok (.iload_n 1, 1) := by decide +kernel
theorem dX5_leafOf_3 : decode cX5_leafOf 3 = .ok (.invokevirtual 84, 3) := by decide +kernel
theorem dX5_leafOf_6 : decode cX5_leafOf 6 = .ok (.ifCond .eq 7, 3) := by decide +kernel
theorem dX5_leafOf_9 : decode cX5_leafOf 9 = .ok (.iconst 0, 1) := by decide +kernel
theorem dX5_leafOf_10 : decode cX5_leafOf 10 = .ok (.goto 4, 3) := by decide +kernel
theorem dX5_leafOf_13 : decode cX5_leafOf 13 = .ok (.iconst 1, 1) := by decide +kernel
theorem dX5_leafOf_14 : decode cX5_leafOf 14 = .ok (.invokevirtual 70, 3) := by decide +kernel
theorem dX5_leafOf_17 : decode cX5_leafOf 17 = .ok (.ifCond .eq 7, 3) := by decide +kernel
theorem dX5_leafOf_20 : decode cX5_leafOf 20 = .ok (.iconst 0, 1) := by decide +kernel
theorem dX5_leafOf_21 : decode cX5_leafOf 21 = .ok (.goto 12, 3) := by decide +kernel
theorem dX5_leafOf_24 : decode cX5_leafOf 24 = .ok (.aload_n 0, 1) := by decide +kernel
theorem dX5_leafOf_25 : decode cX5_leafOf 25 = .ok (.aload_n 0, 1) := by decide +kernel
theorem dX5_leafOf_26 : decode cX5_leafOf 26 = .ok (.iload_n 1, 1) := by decide +kernel
theorem dX5_leafOf_27 : decode cX5_leafOf 27 = .ok (.invokevirtual 87, 3) := by decide +kernel
theorem dX5_leafOf_30 : decode cX5_leafOf 30 = .ok (.invokevirtual 77, 3) := by decide +kernel
theorem dX5_leafOf_33 : decode cX5_leafOf 33 = .ok (.ireturn, 1) := by decide +kernel
set_option maxRecDepth 20000 in
theorem ggX5_boxAt_X5_fails : GoodIn wsX5_boxAt wsX5_fails := goodIn_r _ [7, 8, 9, 10, 11, 12, 13, 14, 15, 16, 17, 18, 19, 20, 21, 22, 23, 24] (by decide +kernel) (by decide +kernel)
set_option maxRecDepth 20000 in
theorem gX5_boxAt_X5_fails : GoodIn wsX5_boxAt (wsV RX5 70 RX5 yX5_fails wsX5_fails) := goodIn_app (goodIn_of _ (by decide +kernel)) ggX5_boxAt_X5_fails
theorem dX5_boxAt_0 : decode cX5_boxAt 0 = .ok (.aload_n 0, 1) := by decide +kernel
theorem dX5_boxAt_1 : decode cX5_boxAt 1 = .ok (.iload_n 1, 1) := by decide +kernel
theorem dX5_boxAt_2 : decode cX5_boxAt 2 = .ok (.ifCond .lt 15, 3) := by decide +kernel
theorem dX5_boxAt_5 : decode cX5_boxAt 5 = .ok (.iload_n 1, 1) := by decide +kernel
theorem dX5_boxAt_6 : decode cX5_boxAt 6 = .ok (.aload_n 0, 1) := by decide +kernel
theorem dX5_boxAt_7 : decode cX5_boxAt 7 = .ok (.getfield 63, 3) := by decide +kernel
theorem dX5_boxAt_10 : decode cX5_boxAt 10 = .ok (.if_icmp .ge 7, 3) := by decide +kernel
theorem dX5_boxAt_13 : decode cX5_boxAt 13 = .ok (.iconst 0, 1) := by decide +kernel
theorem dX5_boxAt_14 : decode cX5_boxAt 14 = .ok (.goto 4, 3) := by decide +kernel
theorem dX5_boxAt_17 : decode cX5_boxAt 17 = .ok (.iconst 1, 1) := by decide +kernel
theorem dX5_boxAt_18 : decode cX5_boxAt 18 = .ok (.invokevirtual 70, 3) := by decide +kernel
theorem dX5_boxAt_21 : decode cX5_boxAt 21 = .ok (.ifCond .eq 7, 3) := by decide +kernel
theorem dX5_boxAt_24 : decode cX5_boxAt 24 = .ok (.iconst 0, 1) := by decide +kernel
theorem dX5_boxAt_25 : decode cX5_boxAt 25 = .ok (.goto 9, 3) := by decide +kernel
theorem dX5_boxAt_28 : decode cX5_boxAt 28 = .ok (.aload_n 0, 1) := by decide +kernel
theorem dX5_boxAt_29 : decode cX5_boxAt 29 = .ok (.getfield 20, 3) := by decide +kernel
theorem dX5_boxAt_32 : decode cX5_boxAt 32 = .ok (.iload_n 1, 1) := by decide +kernel
theorem dX5_boxAt_33 : decode cX5_boxAt 33 = .ok (.iaload, 1) := by decide +kernel
theorem dX5_boxAt_34 : decode cX5_boxAt 34 = .ok (.ireturn, 1) := by decide +kernel
set_option maxRecDepth 20000 in
theorem ggX5_tightness_X5_fails : GoodIn wsX5_tightness wsX5_fails := goodIn_r _ [13, 14, 30, 31, 32, 33, 34, 35, 36, 37, 38, 39, 40, 41, 42, 43, 44, 45] (by decide +kernel) (by decide +kernel)
set_option maxRecDepth 20000 in
theorem gX5_tightness_X5_fails : GoodIn wsX5_tightness (wsV RX5 70 RX5 yX5_fails wsX5_fails) := goodIn_app (goodIn_of _ (by decide +kernel)) ggX5_tightness_X5_fails
set_option maxRecDepth 20000 in
theorem ggX5_tightness_X5_covers : GoodIn wsX5_tightness wsX5_covers := goodIn_r _ [18, 19, 20, 6, 8, 5, 7, 2, 3, 21, 22, 23, 12, 24, 25, 26, 27, 28, 29, 30, 31, 32, 33, 34, 35, 36, 37, 38, 39, 40, 41, 42, 43, 44, 45] (by decide +kernel) (by decide +kernel)
set_option maxRecDepth 20000 in
theorem gX5_tightness_X5_covers : GoodIn wsX5_tightness (wsV RX5 128 RX5 yX5_covers wsX5_covers) := goodIn_app (goodIn_of _ (by decide +kernel)) ggX5_tightness_X5_covers
theorem dX5_tightness_0 : decode cX5_tightness 0 = .ok (.aload_n 0, 1) := by decide +kernel
theorem dX5_tightness_1 : decode cX5_tightness 1 = .ok (.aload_n 0, 1) := by decide +kernel
theorem dX5_tightness_2 : decode cX5_tightness 2 = .ok (.getfield 63, 3) := by decide +kernel
theorem dX5_tightness_5 : decode cX5_tightness 5 = .ok (.ifCond .ne 7, 3) := by decide +kernel
theorem dX5_tightness_8 : decode cX5_tightness 8 = .ok (.iconst 1, 1) := by decide +kernel
theorem dX5_tightness_9 : decode cX5_tightness 9 = .ok (.goto 4, 3) := by decide +kernel
theorem dX5_tightness_12 : decode cX5_tightness 12 = .ok (.iconst 0, 1) := by decide +kernel
theorem dX5_tightness_13 : decode cX5_tightness 13 = .ok (.invokevirtual 70, 3) := by decide +kernel
theorem dX5_tightness_16 : decode cX5_tightness 16 = .ok (.ifCond .eq 5, 3) := by decide +kernel
theorem dX5_tightness_19 : decode cX5_tightness 19 = .ok (.fconst 0, 1) := by decide +kernel
theorem dX5_tightness_20 : decode cX5_tightness 20 = .ok (.freturn, 1) := by decide +kernel
theorem dX5_tightness_21 : decode cX5_tightness 21 = .ok (.iconst 0, 1) := by decide +kernel
theorem dX5_tightness_22 : decode cX5_tightness 22 = .ok (.istore_n 1, 1) := by decide +kernel
theorem dX5_tightness_23 : decode cX5_tightness 23 = .ok (.iconst 0, 1) := by decide +kernel
theorem dX5_tightness_24 : decode cX5_tightness 24 = .ok (.istore_n 2, 1) := by decide +kernel
theorem dX5_tightness_25 : decode cX5_tightness 25 = .ok (.iload_n 2, 1) := by decide +kernel
theorem dX5_tightness_26 : decode cX5_tightness 26 = .ok (.aload_n 0, 1) := by decide +kernel
theorem dX5_tightness_27 : decode cX5_tightness 27 = .ok (.getfield 63, 3) := by decide +kernel
theorem dX5_tightness_30 : decode cX5_tightness 30 = .ok (.if_icmp .ge 58, 3) := by decide +kernel
theorem dX5_tightness_33 : decode cX5_tightness 33 = .ok (.iconst 4, 1) := by decide +kernel
theorem dX5_tightness_34 : decode cX5_tightness 34 = .ok (.aload_n 0, 1) := by decide +kernel
theorem dX5_tightness_35 : decode cX5_tightness 35 = .ok (.getfield 20, 3) := by decide +kernel
theorem dX5_tightness_38 : decode cX5_tightness 38 = .ok (.iload_n 2, 1) := by decide +kernel
theorem dX5_tightness_39 : decode cX5_tightness 39 = .ok (.iaload, 1) := by decide +kernel
theorem dX5_tightness_40 : decode cX5_tightness 40 = .ok (.imul, 1) := by decide +kernel
theorem dX5_tightness_41 : decode cX5_tightness 41 = .ok (.istore_n 3, 1) := by decide +kernel
theorem dX5_tightness_42 : decode cX5_tightness 42 = .ok (.iload_n 1, 1) := by decide +kernel
theorem dX5_tightness_43 : decode cX5_tightness 43 = .ok (.aload_n 0, 1) := by decide +kernel
theorem dX5_tightness_44 : decode cX5_tightness 44 = .ok (.getfield 7, 3) := by decide +kernel
theorem dX5_tightness_47 : decode cX5_tightness 47 = .ok (.iload_n 3, 1) := by decide +kernel
theorem dX5_tightness_48 : decode cX5_tightness 48 = .ok (.iconst 2, 1) := by decide +kernel
theorem dX5_tightness_49 : decode cX5_tightness 49 = .ok (.iadd, 1) := by decide +kernel
theorem dX5_tightness_50 : decode cX5_tightness 50 = .ok (.iaload, 1) := by decide +kernel
theorem dX5_tightness_51 : decode cX5_tightness 51 = .ok (.aload_n 0, 1) := by decide +kernel
theorem dX5_tightness_52 : decode cX5_tightness 52 = .ok (.getfield 7, 3) := by decide +kernel
theorem dX5_tightness_55 : decode cX5_tightness 55 = .ok (.iload_n 3, 1) := by decide +kernel
theorem dX5_tightness_56 : decode cX5_tightness 56 = .ok (.iaload, 1) := by decide +kernel
theorem dX5_tightness_57 : decode cX5_tightness 57 = .ok (.isub, 1) := by decide +kernel
theorem dX5_tightness_58 : decode cX5_tightness 58 = .ok (.iconst 1, 1) := by decide +kernel
theorem dX5_tightness_59 : decode cX5_tightness 59 = .ok (.iadd, 1) := by decide +kernel
theorem dX5_tightness_60 : decode cX5_tightness 60 = .ok (.aload_n 0, 1) := by decide +kernel
theorem dX5_tightness_61 : decode cX5_tightness 61 = .ok (.getfield 7, 3) := by decide +kernel
theorem dX5_tightness_64 : decode cX5_tightness 64 = .ok (.iload_n 3, 1) := by decide +kernel
theorem dX5_tightness_65 : decode cX5_tightness 65 = .ok (.iconst 3, 1) := by decide +kernel
theorem dX5_tightness_66 : decode cX5_tightness 66 = .ok (.iadd, 1) := by decide +kernel
theorem dX5_tightness_67 : decode cX5_tightness 67 = .ok (.iaload, 1) := by decide +kernel
theorem dX5_tightness_68 : decode cX5_tightness 68 = .ok (.aload_n 0, 1) := by decide +kernel
theorem dX5_tightness_69 : decode cX5_tightness 69 = .ok (.getfield 7, 3) := by decide +kernel
theorem dX5_tightness_72 : decode cX5_tightness 72 = .ok (.iload_n 3, 1) := by decide +kernel
theorem dX5_tightness_73 : decode cX5_tightness 73 = .ok (.iconst 1, 1) := by decide +kernel
theorem dX5_tightness_74 : decode cX5_tightness 74 = .ok (.iadd, 1) := by decide +kernel
theorem dX5_tightness_75 : decode cX5_tightness 75 = .ok (.iaload, 1) := by decide +kernel
theorem dX5_tightness_76 : decode cX5_tightness 76 = .ok (.isub, 1) := by decide +kernel
theorem dX5_tightness_77 : decode cX5_tightness 77 = .ok (.iconst 1, 1) := by decide +kernel
theorem dX5_tightness_78 : decode cX5_tightness 78 = .ok (.iadd, 1) := by decide +kernel
theorem dX5_tightness_79 : decode cX5_tightness 79 = .ok (.imul, 1) := by decide +kernel
theorem dX5_tightness_80 : decode cX5_tightness 80 = .ok (.iadd, 1) := by decide +kernel
theorem dX5_tightness_81 : decode cX5_tightness 81 = .ok (.istore_n 1, 1) := by decide +kernel
theorem dX5_tightness_82 : decode cX5_tightness 82 = .ok (.iinc 2 1, 3) := by decide +kernel
theorem dX5_tightness_85 : decode cX5_tightness 85 = .ok (.goto (-60), 3) := by decide +kernel
theorem dX5_tightness_88 : decode cX5_tightness 88 = .ok (.iconst 0, 1) := by decide +kernel
theorem dX5_tightness_89 : decode cX5_tightness 89 = .ok (.istore_n 2, 1) := by decide +kernel
theorem dX5_tightness_90 : decode cX5_tightness 90 = .ok (.iconst 0, 1) := by decide +kernel
theorem dX5_tightness_91 : decode cX5_tightness 91 = .ok (.istore_n 3, 1) := by decide +kernel
theorem dX5_tightness_92 : decode cX5_tightness 92 = .ok (.iload_n 3, 1) := by decide +kernel
theorem dX5_tightness_93 : decode cX5_tightness 93 = .ok (.aload_n 0, 1) := by decide +kernel
theorem dX5_tightness_94 : decode cX5_tightness 94 = .ok (.getfield 23, 3) := by decide +kernel
theorem dX5_tightness_97 : decode cX5_tightness 97 = .ok (.iconst 0, 1) := by decide +kernel
theorem dX5_tightness_98 : decode cX5_tightness 98 = .ok (.iaload, 1) := by decide +kernel
theorem dX5_tightness_99 : decode cX5_tightness 99 = .ok (.if_icmp .ge 41, 3) := by decide +kernel
theorem dX5_tightness_102 : decode cX5_tightness 102 = .ok (.aload_n 0, 1) := by decide +kernel
theorem dX5_tightness_103 : decode cX5_tightness 103 = .ok (.iconst 0, 1) := by decide +kernel
theorem dX5_tightness_104 : decode cX5_tightness 104 = .ok (.iload_n 3, 1) := by decide +kernel
theorem dX5_tightness_105 : decode cX5_tightness 105 = .ok (.invokevirtual 128, 3) := by decide +kernel
theorem dX5_tightness_108 : decode cX5_tightness 108 = .ok (.iload_n 2, 1) := by decide +kernel
theorem dX5_tightness_109 : decode cX5_tightness 109 = .ok (.aload_n 0, 1) := by decide +kernel
theorem dX5_tightness_110 : decode cX5_tightness 110 = .ok (.getfield 122, 3) := by decide +kernel
theorem dX5_tightness_113 : decode cX5_tightness 113 = .ok (.aload_n 0, 1) := by decide +kernel
theorem dX5_tightness_114 : decode cX5_tightness 114 = .ok (.getfield 116, 3) := by decide +kernel
theorem dX5_tightness_117 : decode cX5_tightness 117 = .ok (.isub, 1) := by decide +kernel
theorem dX5_tightness_118 : decode cX5_tightness 118 = .ok (.iconst 1, 1) := by decide +kernel
theorem dX5_tightness_119 : decode cX5_tightness 119 = .ok (.iadd, 1) := by decide +kernel
theorem dX5_tightness_120 : decode cX5_tightness 120 = .ok (.aload_n 0, 1) := by decide +kernel
theorem dX5_tightness_121 : decode cX5_tightness 121 = .ok (.getfield 125, 3) := by decide +kernel
theorem dX5_tightness_124 : decode cX5_tightness 124 = .ok (.aload_n 0, 1) := by decide +kernel
theorem dX5_tightness_125 : decode cX5_tightness 125 = .ok (.getfield 119, 3) := by decide +kernel
theorem dX5_tightness_128 : decode cX5_tightness 128 = .ok (.isub, 1) := by decide +kernel
theorem dX5_tightness_129 : decode cX5_tightness 129 = .ok (.iconst 1, 1) := by decide +kernel
theorem dX5_tightness_130 : decode cX5_tightness 130 = .ok (.iadd, 1) := by decide +kernel
theorem dX5_tightness_131 : decode cX5_tightness 131 = .ok (.imul, 1) := by decide +kernel
theorem dX5_tightness_132 : decode cX5_tightness 132 = .ok (.iadd, 1) := by decide +kernel
theorem dX5_tightness_133 : decode cX5_tightness 133 = .ok (.istore_n 2, 1) := by decide +kernel
theorem dX5_tightness_134 : decode cX5_tightness 134 = .ok (.iinc 3 1, 3) := by decide +kernel
theorem dX5_tightness_137 : decode cX5_tightness 137 = .ok (.goto (-45), 3) := by decide +kernel
theorem dX5_tightness_140 : decode cX5_tightness 140 = .ok (.iload_n 1, 1) := by decide +kernel
theorem dX5_tightness_141 : decode cX5_tightness 141 = .ok (.i2f, 1) := by decide +kernel
theorem dX5_tightness_142 : decode cX5_tightness 142 = .ok (.iload_n 2, 1) := by decide +kernel
theorem dX5_tightness_143 : decode cX5_tightness 143 = .ok (.i2f, 1) := by decide +kernel
theorem dX5_tightness_144 : decode cX5_tightness 144 = .ok (.fdiv, 1) := by decide +kernel
theorem dX5_tightness_145 : decode cX5_tightness 145 = .ok (.freturn, 1) := by decide +kernel
theorem dX5_doesMeet_0 : decode cX5_doesMeet 0 = .ok (.iconst 4, 1) := by decide +kernel
theorem dX5_doesMeet_1 : decode cX5_doesMeet 1 = .ok (.iload_n 1, 1) := by decide +kernel
theorem dX5_doesMeet_2 : decode cX5_doesMeet 2 = .ok (.imul, 1) := by decide +kernel
theorem dX5_doesMeet_3 : decode cX5_doesMeet 3 = .ok (.istore 6, 2) := by decide +kernel
theorem dX5_doesMeet_5 : decode cX5_doesMeet 5 = .ok (.aload_n 0, 1) := by decide +kernel
theorem dX5_doesMeet_6 : decode cX5_doesMeet 6 = .ok (.getfield 7, 3) := by decide +kernel
theorem dX5_doesMeet_9 : decode cX5_doesMeet 9 = .ok (.iload 6, 2) := by decide +kernel
theorem dX5_doesMeet_11 : decode cX5_doesMeet 11 = .ok (.iaload, 1) := by decide +kernel
theorem dX5_doesMeet_12 : decode cX5_doesMeet 12 = .ok (.iload 4, 2) := by decide +kernel
theorem dX5_doesMeet_14 : decode cX5_doesMeet 14 = .ok (.if_icmp .gt 47, 3) := by decide +kernel
theorem dX5_doesMeet_17 : decode cX5_doesMeet 17 = .ok (.aload_n 0, 1) := by decide +kernel
theorem dX5_doesMeet_18 : decode cX5_doesMeet 18 = .ok (.getfield 7, 3) := by decide +kernel
theorem dX5_doesMeet_21 : decode cX5_doesMeet 21 = .ok (.iload 6, 2) := by decide +kernel
theorem dX5_doesMeet_23 : decode cX5_doesMeet 23 = .ok (.iconst 2, 1) := by decide +kernel
theorem dX5_doesMeet_24 : decode cX5_doesMeet 24 = .ok (.iadd, 1) := by decide +kernel
theorem dX5_doesMeet_25 : decode cX5_doesMeet 25 = .ok (.iaload, 1) := by decide +kernel
theorem dX5_doesMeet_26 : decode cX5_doesMeet 26 = .ok (.iload_n 2, 1) := by decide +kernel
theorem dX5_doesMeet_27 : decode cX5_doesMeet 27 = .ok (.if_icmp .lt 34, 3) := by decide +kernel
theorem dX5_doesMeet_30 : decode cX5_doesMeet 30 = .ok (.aload_n 0, 1) := by decide +kernel
theorem dX5_doesMeet_31 : decode cX5_doesMeet 31 = .ok (.getfield 7, 3) := by decide +kernel
theorem dX5_doesMeet_34 : decode cX5_doesMeet 34 = .ok (.iload 6, 2) := by decide +kernel
theorem dX5_doesMeet_36 : decode cX5_doesMeet 36 = .ok (.iconst 1, 1) := by decide +kernel
theorem dX5_doesMeet_37 : decode cX5_doesMeet 37 = .ok (.iadd, 1) := by decide +kernel
theorem dX5_doesMeet_38 : decode cX5_doesMeet 38 = .ok (.iaload, 1) := by decide +kernel
theorem dX5_doesMeet_39 : decode cX5_doesMeet 39 = .ok (.iload 5, 2) := by decide +kernel
theorem dX5_doesMeet_41 : decode cX5_doesMeet 41 = .ok (.if_icmp .gt 20, 3) := by decide +kernel
theorem dX5_doesMeet_44 : decode cX5_doesMeet 44 = .ok (.aload_n 0, 1) := by decide +kernel
theorem dX5_doesMeet_45 : decode cX5_doesMeet 45 = .ok (.getfield 7, 3) := by decide +kernel
theorem dX5_doesMeet_48 : decode cX5_doesMeet 48 = .ok (.iload 6, 2) := by decide +kernel
theorem dX5_doesMeet_50 : decode cX5_doesMeet 50 = .ok (.iconst 3, 1) := by decide +kernel
theorem dX5_doesMeet_51 : decode cX5_doesMeet 51 = .ok (.iadd, 1) := by decide +kernel
theorem dX5_doesMeet_52 : decode cX5_doesMeet 52 = .ok (.iaload, 1) := by decide +kernel
theorem dX5_doesMeet_53 : decode cX5_doesMeet 53 = .ok (.iload_n 3, 1) := by decide +kernel
theorem dX5_doesMeet_54 : decode cX5_doesMeet 54 = .ok (.if_icmp .lt 7, 3) := by decide +kernel
theorem dX5_doesMeet_57 : decode cX5_doesMeet 57 = .ok (.iconst 1, 1) := by decide +kernel
theorem dX5_doesMeet_58 : decode cX5_doesMeet 58 = .ok (.goto 4, 3) := by decide +kernel
theorem dX5_doesMeet_61 : decode cX5_doesMeet 61 = .ok (.iconst 0, 1) := by decide +kernel
theorem dX5_doesMeet_62 : decode cX5_doesMeet 62 = .ok (.ireturn, 1) := by decide +kernel
set_option maxRecDepth 20000 in
theorem ggX5_met_X5_doesMeet : GoodIn wsX5_met wsX5_doesMeet := goodIn_r _ [7, 8, 9, 10, 11, 12, 13, 14, 15, 16, 17, 18, 19, 20, 21, 22, 23, 24] (by decide +kernel) (by decide +kernel)
set_option maxRecDepth 20000 in
theorem gX5_met_X5_doesMeet : GoodIn wsX5_met (wsV RX5 131 RX5 yX5_doesMeet wsX5_doesMeet) := goodIn_app (goodIn_of _ (by decide +kernel)) ggX5_met_X5_doesMeet
theorem dX5_met_0 : decode cX5_met 0 = .ok (.iconst 0, 1) := by decide +kernel
theorem dX5_met_1 : decode cX5_met 1 = .ok (.istore 5, 2) := by decide +kernel
theorem dX5_met_3 : decode cX5_met 3 = .ok (.iconst 0, 1) := by decide +kernel
theorem dX5_met_4 : decode cX5_met 4 = .ok (.istore 6, 2) := by decide +kernel
theorem dX5_met_6 : decode cX5_met 6 = .ok (.iload 6, 2) := by decide +kernel
theorem dX5_met_8 : decode cX5_met 8 = .ok (.aload_n 0, 1) := by decide +kernel
theorem dX5_met_9 : decode cX5_met 9 = .ok (.getfield 63, 3) := by decide +kernel
theorem dX5_met_12 : decode cX5_met 12 = .ok (.if_icmp .ge 38, 3) := by decide +kernel
theorem dX5_met_15 : decode cX5_met 15 = .ok (.iload 5, 2) := by decide +kernel
theorem dX5_met_17 : decode cX5_met 17 = .ok (.aload_n 0, 1) := by decide +kernel
theorem dX5_met_18 : decode cX5_met 18 = .ok (.aload_n 0, 1) := by decide +kernel
theorem dX5_met_19 : decode cX5_met 19 = .ok (.getfield 20, 3) := by decide +kernel
theorem dX5_met_22 : decode cX5_met 22 = .ok (.iload 6, 2) := by decide +kernel
theorem dX5_met_24 : decode cX5_met 24 = .ok (.iaload, 1) := by decide +kernel
theorem dX5_met_25 : decode cX5_met 25 = .ok (.iload_n 1, 1) := by decide +kernel
theorem dX5_met_26 : decode cX5_met 26 = .ok (.iload_n 2, 1) := by decide +kernel
theorem dX5_met_27 : decode cX5_met 27 = .ok (.iload_n 3, 1) := by decide +kernel
theorem dX5_met_28 : decode cX5_met 28 = .ok (.iload 4, 2) := by decide +kernel
theorem dX5_met_30 : decode cX5_met 30 = .ok (.invokevirtual 131, 3) := by decide +kernel
theorem dX5_met_33 : decode cX5_met 33 = .ok (.ifCond .eq 7, 3) := by decide +kernel
theorem dX5_met_36 : decode cX5_met 36 = .ok (.iconst 1, 1) := by decide +kernel
theorem dX5_met_37 : decode cX5_met 37 = .ok (.goto 4, 3) := by decide +kernel
theorem dX5_met_40 : decode cX5_met 40 = .ok (.iconst 0, 1) := by decide +kernel
theorem dX5_met_41 : decode cX5_met 41 = .ok (.iadd, 1) := by decide +kernel
theorem dX5_met_42 : decode cX5_met 42 = .ok (.istore 5, 2) := by decide +kernel
theorem dX5_met_44 : decode cX5_met 44 = .ok (.iinc 6 1, 3) := by decide +kernel
theorem dX5_met_47 : decode cX5_met 47 = .ok (.goto (-41), 3) := by decide +kernel
theorem dX5_met_50 : decode cX5_met 50 = .ok (.iload 5, 2) := by decide +kernel
theorem dX5_met_52 : decode cX5_met 52 = .ok (.ireturn, 1) := by decide +kernel
set_option maxRecDepth 20000 in
theorem ggX5_count_X5_isArea : GoodIn wsX5_count wsX5_isArea := goodIn_r _ [4] (by decide +kernel) (by decide +kernel)
set_option maxRecDepth 20000 in
theorem gX5_count_X5_isArea : GoodIn wsX5_count (va_wsS RX5 66 yX5_isArea wsX5_isArea) := goodIn_app (goodIn_of _ (by decide +kernel)) ggX5_count_X5_isArea
set_option maxRecDepth 20000 in
theorem ggX5_count_X5_fails : GoodIn wsX5_count wsX5_fails := goodIn_r _ [8, 9, 21, 22, 23, 24, 25, 26, 27, 28, 29, 30, 31, 32, 33, 34, 35, 36] (by decide +kernel) (by decide +kernel)
set_option maxRecDepth 20000 in
theorem gX5_count_X5_fails : GoodIn wsX5_count (wsV RX5 70 RX5 yX5_fails wsX5_fails) := goodIn_app (goodIn_of _ (by decide +kernel)) ggX5_count_X5_fails
set_option maxRecDepth 20000 in
theorem ggX5_count_X5_met : GoodIn wsX5_count wsX5_met := goodIn_r _ [13, 14, 15, 16, 17, 18, 3, 19, 20, 21, 22, 23, 24, 25, 26, 27, 28, 29, 30, 31, 32, 33, 34, 35, 36] (by decide +kernel) (by decide +kernel)
set_option maxRecDepth 20000 in
theorem gX5_count_X5_met : GoodIn wsX5_count (wsV RX5 135 RX5 yX5_met wsX5_met) := goodIn_app (goodIn_of _ (by decide +kernel)) ggX5_count_X5_met
theorem dX5_count_0 : decode cX5_count 0 = .ok (.aload_n 0, 1) := by decide +kernel
theorem dX5_count_1 : decode cX5_count 1 = .ok (.iload_n 1, 1) := by decide +kernel
theorem dX5_count_2 : decode cX5_count 2 = .ok (.iload_n 2, 1) := by decide +kernel
theorem dX5_count_3 : decode cX5_count 3 = .ok (.iload_n 3, 1) := by decide +kernel
theorem dX5_count_4 : decode cX5_count 4 = .ok (.iload 4, 2) := by decide +kernel
theorem dX5_count_6 : decode cX5_count 6 = .ok (.invokestatic 66, 3) := by decide +kernel
theorem dX5_count_9 : decode cX5_count 9 = .ok (.ifCond .eq 7, 3) := by decide +kernel
theorem dX5_count_12 : decode cX5_count 12 = .ok (.iconst 0, 1) := by decide +kernel
theorem dX5_count_13 : decode cX5_count 13 = .ok (.goto 4, 3) := by decide +kernel
theorem dX5_count_16 : decode cX5_count 16 = .ok (.iconst 1, 1) := by decide +kernel
theorem dX5_count_17 : decode cX5_count 17 = .ok (.invokevirtual 70, 3) := by decide +kernel
theorem dX5_count_20 : decode cX5_count 20 = .ok (.ifCond .eq 7, 3) := by decide +kernel
theorem dX5_count_23 : decode cX5_count 23 = .ok (.iconst 0, 1) := by decide +kernel
theorem dX5_count_24 : decode cX5_count 24 = .ok (.goto 12, 3) := by decide +kernel
theorem dX5_count_27 : decode cX5_count 27 = .ok (.aload_n 0, 1) := by decide +kernel
theorem dX5_count_28 : decode cX5_count 28 = .ok (.iload_n 1, 1) := by decide +kernel
theorem dX5_count_29 : decode cX5_count 29 = .ok (.iload_n 2, 1) := by decide +kernel
theorem dX5_count_30 : decode cX5_count 30 = .ok (.iload_n 3, 1) := by decide +kernel
theorem dX5_count_31 : decode cX5_count 31 = .ok (.iload 4, 2) := by decide +kernel
theorem dX5_count_33 : decode cX5_count 33 = .ok (.invokevirtual 135, 3) := by decide +kernel
theorem dX5_count_36 : decode cX5_count 36 = .ok (.ireturn, 1) := by decide +kernel
set_option maxRecDepth 20000 in
theorem ggX5_found_X5_isArea : GoodIn wsX5_found wsX5_isArea := goodIn_r _ [5] (by decide +kernel) (by decide +kernel)
set_option maxRecDepth 20000 in
theorem gX5_found_X5_isArea : GoodIn wsX5_found (va_wsS RX5 66 yX5_isArea wsX5_isArea) := goodIn_app (goodIn_of _ (by decide +kernel)) ggX5_found_X5_isArea
set_option maxRecDepth 20000 in
theorem ggX5_found_X5_met : GoodIn wsX5_found wsX5_met := goodIn_r _ [9, 10, 1, 11, 12, 13, 4, 14, 15, 21, 22, 23, 24, 25, 26, 27, 28, 29, 30, 31, 32, 33, 34, 35, 36] (by decide +kernel) (by decide +kernel)
set_option maxRecDepth 20000 in
theorem gX5_found_X5_met : GoodIn wsX5_found (wsV RX5 135 RX5 yX5_met wsX5_met) := goodIn_app (goodIn_of _ (by decide +kernel)) ggX5_found_X5_met
set_option maxRecDepth 20000 in
theorem ggX5_found_X5_fails : GoodIn wsX5_found wsX5_fails := goodIn_r _ [19, 20, 21, 22, 23, 24, 25, 26, 27, 28, 29, 30, 31, 32, 33, 34, 35, 36] (by decide +kernel) (by decide +kernel)
set_option maxRecDepth 20000 in
theorem gX5_found_X5_fails : GoodIn wsX5_found (wsV RX5 70 RX5 yX5_fails wsX5_fails) := goodIn_app (goodIn_of _ (by decide +kernel)) ggX5_found_X5_fails
set_option maxRecDepth 20000 in
theorem ggX5_found_X5_doesMeet : GoodIn wsX5_found wsX5_doesMeet := goodIn_r _ [14, 15, 21, 22, 23, 24, 25, 26, 27, 28, 29, 30, 31, 32, 33, 34, 35, 36] (by decide +kernel) (by decide +kernel)
set_option maxRecDepth 20000 in
theorem gX5_found_X5_doesMeet : GoodIn wsX5_found (wsV RX5 131 RX5 yX5_doesMeet wsX5_doesMeet) := goodIn_app (goodIn_of _ (by decide +kernel)) ggX5_found_X5_doesMeet
theorem dX5_found_0 : decode cX5_found 0 = .ok (.iload_n 1, 1) := by decide +kernel
theorem dX5_found_1 : decode cX5_found 1 = .ok (.iload_n 2, 1) := by decide +kernel
theorem dX5_found_2 : decode cX5_found 2 = .ok (.iload_n 3, 1) := by decide +kernel
theorem dX5_found_3 : decode cX5_found 3 = .ok (.iload 4, 2) := by decide +kernel
theorem dX5_found_5 : decode cX5_found 5 = .ok (.invokestatic 66, 3) := by decide +kernel
theorem dX5_found_8 : decode cX5_found 8 = .ok (.istore 6, 2) := by decide +kernel
theorem dX5_found_10 : decode cX5_found 10 = .ok (.aload_n 0, 1) := by decide +kernel
theorem dX5_found_11 : decode cX5_found 11 = .ok (.iload 6, 2) := by decide +kernel
theorem dX5_found_13 : decode cX5_found 13 = .ok (.ifCond .ne 7, 3) := by decide +kernel
theorem dX5_found_16 : decode cX5_found 16 = .ok (.iconst 1, 1) := by decide +kernel
theorem dX5_found_17 : decode cX5_found 17 = .ok (.goto 27, 3) := by decide +kernel
theorem dX5_found_20 : decode cX5_found 20 = .ok (.iload 5, 2) := by decide +kernel
theorem dX5_found_22 : decode cX5_found 22 = .ok (.ifCond .lt 21, 3) := by decide +kernel
theorem dX5_found_25 : decode cX5_found 25 = .ok (.iload 5, 2) := by decide +kernel
theorem dX5_found_27 : decode cX5_found 27 = .ok (.aload_n 0, 1) := by decide +kernel
theorem dX5_found_28 : decode cX5_found 28 = .ok (.iload_n 1, 1) := by decide +kernel
theorem dX5_found_29 : decode cX5_found 29 = .ok (.iload_n 2, 1) := by decide +kernel
theorem dX5_found_30 : decode cX5_found 30 = .ok (.iload_n 3, 1) := by decide +kernel
theorem dX5_found_31 : decode cX5_found 31 = .ok (.iload 4, 2) := by decide +kernel
theorem dX5_found_33 : decode cX5_found 33 = .ok (.invokevirtual 135, 3) := by decide +kernel
theorem dX5_found_36 : decode cX5_found 36 = .ok (.if_icmp .ge 7, 3) := by decide +kernel
theorem dX5_found_39 : decode cX5_found 39 = .ok (.iconst 0, 1) := by decide +kernel
theorem dX5_found_40 : decode cX5_found 40 = .ok (.goto 4, 3) := by decide +kernel
theorem dX5_found_43 : decode cX5_found 43 = .ok (.iconst 2, 1) := by decide +kernel
theorem dX5_found_44 : decode cX5_found 44 = .ok (.invokevirtual 70, 3) := by decide +kernel
theorem dX5_found_47 : decode cX5_found 47 = .ok (.ifCond .eq 5, 3) := by decide +kernel
theorem dX5_found_50 : decode cX5_found 50 = .ok (.iconst 0, 1) := by decide +kernel
theorem dX5_found_51 : decode cX5_found 51 = .ok (.ireturn, 1) := by decide +kernel
theorem dX5_found_52 : decode cX5_found 52 = .ok (.iload 5, 2) := by decide +kernel
theorem dX5_found_54 : decode cX5_found 54 = .ok (.istore 7, 2) := by decide +kernel
theorem dX5_found_56 : decode cX5_found 56 = .ok (.iconst 0, 1) := by decide +kernel
theorem dX5_found_57 : decode cX5_found 57 = .ok (.istore 8, 2) := by decide +kernel
theorem dX5_found_59 : decode cX5_found 59 = .ok (.iload 7, 2) := by decide +kernel
theorem dX5_found_61 : decode cX5_found 61 = .ok (.ifCond .gt 22, 3) := by decide +kernel
theorem dX5_found_64 : decode cX5_found 64 = .ok (.aload_n 0, 1) := by decide +kernel
theorem dX5_found_65 : decode cX5_found 65 = .ok (.aload_n 0, 1) := by decide +kernel
theorem dX5_found_66 : decode cX5_found 66 = .ok (.getfield 20, 3) := by decide +kernel
theorem dX5_found_69 : decode cX5_found 69 = .ok (.iload 8, 2) := by decide +kernel
theorem dX5_found_71 : decode cX5_found 71 = .ok (.iaload, 1) := by decide +kernel
theorem dX5_found_72 : decode cX5_found 72 = .ok (.iload_n 1, 1) := by decide +kernel
theorem dX5_found_73 : decode cX5_found 73 = .ok (.iload_n 2, 1) := by decide +kernel
theorem dX5_found_74 : decode cX5_found 74 = .ok (.iload_n 3, 1) := by decide +kernel
theorem dX5_found_75 : decode cX5_found 75 = .ok (.iload 4, 2) := by decide +kernel
theorem dX5_found_77 : decode cX5_found 77 = .ok (.invokevirtual 131, 3) := by decide +kernel
theorem dX5_found_80 : decode cX5_found 80 = .ok (.ifCond .ne 38, 3) := by decide +kernel
theorem dX5_found_83 : decode cX5_found 83 = .ok (.iload 7, 2) := by decide +kernel
theorem dX5_found_85 : decode cX5_found 85 = .ok (.aload_n 0, 1) := by decide +kernel
theorem dX5_found_86 : decode cX5_found 86 = .ok (.aload_n 0, 1) := by decide +kernel
theorem dX5_found_87 : decode cX5_found 87 = .ok (.getfield 20, 3) := by decide +kernel
theorem dX5_found_90 : decode cX5_found 90 = .ok (.iload 8, 2) := by decide +kernel
theorem dX5_found_92 : decode cX5_found 92 = .ok (.iaload, 1) := by decide +kernel
theorem dX5_found_93 : decode cX5_found 93 = .ok (.iload_n 1, 1) := by decide +kernel
theorem dX5_found_94 : decode cX5_found 94 = .ok (.iload_n 2, 1) := by decide +kernel
theorem dX5_found_95 : decode cX5_found 95 = .ok (.iload_n 3, 1) := by decide +kernel
theorem dX5_found_96 : decode cX5_found 96 = .ok (.iload 4, 2) := by decide +kernel
theorem dX5_found_98 : decode cX5_found 98 = .ok (.invokevirtual 131, 3) := by decide +kernel
theorem dX5_found_101 : decode cX5_found 101 = .ok (.ifCond .eq 7, 3) := by decide +kernel
theorem dX5_found_104 : decode cX5_found 104 = .ok (.iconst 1, 1) := by decide +kernel
theorem dX5_found_105 : decode cX5_found 105 = .ok (.goto 4, 3) := by decide +kernel
theorem dX5_found_108 : decode cX5_found 108 = .ok (.iconst 0, 1) := by decide +kernel
theorem dX5_found_109 : decode cX5_found 109 = .ok (.isub, 1) := by decide +kernel
theorem dX5_found_110 : decode cX5_found 110 = .ok (.istore 7, 2) := by decide +kernel
theorem dX5_found_112 : decode cX5_found 112 = .ok (.iinc 8 1, 3) := by decide +kernel
theorem dX5_found_115 : decode cX5_found 115 = .ok (.goto (-56), 3) := by decide +kernel
theorem dX5_found_118 : decode cX5_found 118 = .ok (.aload_n 0, 1) := by decide +kernel
theorem dX5_found_119 : decode cX5_found 119 = .ok (.getfield 20, 3) := by decide +kernel
theorem dX5_found_122 : decode cX5_found 122 = .ok (.iload 8, 2) := by decide +kernel
theorem dX5_found_124 : decode cX5_found 124 = .ok (.iaload, 1) := by decide +kernel
theorem dX5_found_125 : decode cX5_found 125 = .ok (.ireturn, 1) := by decide +kernel
set_option maxRecDepth 20000 in
theorem ggX5_visits_X5_isArea : GoodIn wsX5_visits wsX5_isArea := goodIn_r _ [10] (by decide +kernel) (by decide +kernel)
set_option maxRecDepth 20000 in
theorem gX5_visits_X5_isArea : GoodIn wsX5_visits (va_wsS RX5 66 yX5_isArea wsX5_isArea) := goodIn_app (goodIn_of _ (by decide +kernel)) ggX5_visits_X5_isArea
set_option maxRecDepth 20000 in
theorem ggX5_visits_X5_fails : GoodIn wsX5_visits wsX5_fails := goodIn_r _ [14, 15, 33, 34, 35, 36, 37, 38, 39, 40, 41, 42, 43, 44, 45, 46, 47, 48] (by decide +kernel) (by decide +kernel)
set_option maxRecDepth 20000 in
theorem gX5_visits_X5_fails : GoodIn wsX5_visits (wsV RX5 70 RX5 yX5_fails wsX5_fails) := goodIn_app (goodIn_of _ (by decide +kernel)) ggX5_visits_X5_fails
set_option maxRecDepth 20000 in
theorem ggX5_visits_X5_covers : GoodIn wsX5_visits wsX5_covers := goodIn_r _ [19, 20, 21, 3, 5, 4, 6, 22, 23, 24, 25, 26, 9, 27, 28, 29, 30, 31, 32, 33, 34, 35, 36, 37, 38, 39, 40, 41, 42, 43, 44, 45, 46, 47, 48] (by decide +kernel) (by decide +kernel)
set_option maxRecDepth 20000 in
theorem gX5_visits_X5_covers : GoodIn wsX5_visits (wsV RX5 128 RX5 yX5_covers wsX5_covers) := goodIn_app (goodIn_of _ (by decide +kernel)) ggX5_visits_X5_covers
theorem dX5_visits_0 : decode cX5_visits 0 = .ok (.aload_n 0, 1) := by decide +kernel
theorem dX5_visits_1 : decode cX5_visits 1 = .ok (.iload_n 1, 1) := by decide +kernel
theorem dX5_visits_2 : decode cX5_visits 2 = .ok (.iload_n 2, 1) := by decide +kernel
theorem dX5_visits_3 : decode cX5_visits 3 = .ok (.iload_n 3, 1) := by decide +kernel
theorem dX5_visits_4 : decode cX5_visits 4 = .ok (.iload 4, 2) := by decide +kernel
theorem dX5_visits_6 : decode cX5_visits 6 = .ok (.invokestatic 66, 3) := by decide +kernel
theorem dX5_visits_9 : decode cX5_visits 9 = .ok (.ifCond .eq 7, 3) := by decide +kernel
theorem dX5_visits_12 : decode cX5_visits 12 = .ok (.iconst 0, 1) := by decide +kernel
theorem dX5_visits_13 : decode cX5_visits 13 = .ok (.goto 4, 3) := by decide +kernel
theorem dX5_visits_16 : decode cX5_visits 16 = .ok (.iconst 1, 1) := by decide +kernel
theorem dX5_visits_17 : decode cX5_visits 17 = .ok (.invokevirtual 70, 3) := by decide +kernel
theorem dX5_visits_20 : decode cX5_visits 20 = .ok (.ifCond .eq 5, 3) := by decide +kernel
theorem dX5_visits_23 : decode cX5_visits 23 = .ok (.iconst 0, 1) := by decide +kernel
theorem dX5_visits_24 : decode cX5_visits 24 = .ok (.ireturn, 1) := by decide +kernel
theorem dX5_visits_25 : decode cX5_visits 25 = .ok (.iconst 0, 1) := by decide +kernel
theorem dX5_visits_26 : decode cX5_visits 26 = .ok (.istore 5, 2) := by decide +kernel
theorem dX5_visits_28 : decode cX5_visits 28 = .ok (.iconst 0, 1) := by decide +kernel
theorem dX5_visits_29 : decode cX5_visits 29 = .ok (.istore 6, 2) := by decide +kernel
theorem dX5_visits_31 : decode cX5_visits 31 = .ok (.iload 6, 2) := by decide +kernel
theorem dX5_visits_33 : decode cX5_visits 33 = .ok (.aload_n 0, 1) := by decide +kernel
theorem dX5_visits_34 : decode cX5_visits 34 = .ok (.getfield 43, 3) := by decide +kernel
theorem dX5_visits_37 : decode cX5_visits 37 = .ok (.if_icmp .ge 81, 3) := by decide +kernel
theorem dX5_visits_40 : decode cX5_visits 40 = .ok (.iconst 0, 1) := by decide +kernel
theorem dX5_visits_41 : decode cX5_visits 41 = .ok (.istore 7, 2) := by decide +kernel
theorem dX5_visits_43 : decode cX5_visits 43 = .ok (.iload 7, 2) := by decide +kernel
theorem dX5_visits_45 : decode cX5_visits 45 = .ok (.aload_n 0, 1) := by decide +kernel
theorem dX5_visits_46 : decode cX5_visits 46 = .ok (.getfield 23, 3) := by decide +kernel
theorem dX5_visits_49 : decode cX5_visits 49 = .ok (.iload 6, 2) := by decide +kernel
theorem dX5_visits_51 : decode cX5_visits 51 = .ok (.iaload, 1) := by decide +kernel
theorem dX5_visits_52 : decode cX5_visits 52 = .ok (.if_icmp .ge 60, 3) := by decide +kernel
theorem dX5_visits_55 : decode cX5_visits 55 = .ok (.aload_n 0, 1) := by decide +kernel
theorem dX5_visits_56 : decode cX5_visits 56 = .ok (.iload 6, 2) := by decide +kernel
theorem dX5_visits_58 : decode cX5_visits 58 = .ok (.iload 7, 2) := by decide +kernel
theorem dX5_visits_60 : decode cX5_visits 60 = .ok (.invokevirtual 128, 3) := by decide +kernel
theorem dX5_visits_63 : decode cX5_visits 63 = .ok (.iload 5, 2) := by decide +kernel
theorem dX5_visits_65 : decode cX5_visits 65 = .ok (.aload_n 0, 1) := by decide +kernel
theorem dX5_visits_66 : decode cX5_visits 66 = .ok (.getfield 116, 3) := by decide +kernel
theorem dX5_visits_69 : decode cX5_visits 69 = .ok (.iload_n 3, 1) := by decide +kernel
theorem dX5_visits_70 : decode cX5_visits 70 = .ok (.if_icmp .gt 32, 3) := by decide +kernel
theorem dX5_visits_73 : decode cX5_visits 73 = .ok (.aload_n 0, 1) := by decide +kernel
theorem dX5_visits_74 : decode cX5_visits 74 = .ok (.getfield 122, 3) := by decide +kernel
theorem dX5_visits_77 : decode cX5_visits 77 = .ok (.iload_n 1, 1) := by decide +kernel
theorem dX5_visits_78 : decode cX5_visits 78 = .ok (.if_icmp .lt 24, 3) := by decide +kernel
theorem dX5_visits_81 : decode cX5_visits 81 = .ok (.aload_n 0, 1) := by decide +kernel
theorem dX5_visits_82 : decode cX5_visits 82 = .ok (.getfield 119, 3) := by decide +kernel
theorem dX5_visits_85 : decode cX5_visits 85 = .ok (.iload 4, 2) := by decide +kernel
theorem dX5_visits_87 : decode cX5_visits 87 = .ok (.if_icmp .gt 15, 3) := by decide +kernel
theorem dX5_visits_90 : decode cX5_visits 90 = .ok (.aload_n 0, 1) := by decide +kernel
theorem dX5_visits_91 : decode cX5_visits 91 = .ok (.getfield 125, 3) := by decide +kernel
theorem dX5_visits_94 : decode cX5_visits 94 = .ok (.iload_n 2, 1) := by decide +kernel
theorem dX5_visits_95 : decode cX5_visits 95 = .ok (.if_icmp .lt 7, 3) := by decide +kernel
theorem dX5_visits_98 : decode cX5_visits 98 = .ok (.iconst 1, 1) := by decide +kernel
theorem dX5_visits_99 : decode cX5_visits 99 = .ok (.goto 4, 3) := by decide +kernel
theorem dX5_visits_102 : decode cX5_visits 102 = .ok (.iconst 0, 1) := by decide +kernel
theorem dX5_visits_103 : decode cX5_visits 103 = .ok (.iadd, 1) := by decide +kernel
theorem dX5_visits_104 : decode cX5_visits 104 = .ok (.istore 5, 2) := by decide +kernel
theorem dX5_visits_106 : decode cX5_visits 106 = .ok (.iinc 7 1, 3) := by decide +kernel
theorem dX5_visits_109 : decode cX5_visits 109 = .ok (.goto (-66), 3) := by decide +kernel
theorem dX5_visits_112 : decode cX5_visits 112 = .ok (.iinc 6 1, 3) := by decide +kernel
theorem dX5_visits_115 : decode cX5_visits 115 = .ok (.goto (-84), 3) := by decide +kernel
theorem dX5_visits_118 : decode cX5_visits 118 = .ok (.iload 5, 2) := by decide +kernel
theorem dX5_visits_120 : decode cX5_visits 120 = .ok (.ireturn, 1) := by decide +kernel
theorem dX5_far_0 : decode cX5_far 0 = .ok (.iconst 4, 1) := by decide +kernel
theorem dX5_far_1 : decode cX5_far 1 = .ok (.iload_n 3, 1) := by decide +kernel
theorem dX5_far_2 : decode cX5_far 2 = .ok (.imul, 1) := by decide +kernel
theorem dX5_far_3 : decode cX5_far 3 = .ok (.istore 4, 2) := by decide +kernel
theorem dX5_far_5 : decode cX5_far 5 = .ok (.iload_n 1, 1) := by decide +kernel
theorem dX5_far_6 : decode cX5_far 6 = .ok (.aload_n 0, 1) := by decide +kernel
theorem dX5_far_7 : decode cX5_far 7 = .ok (.getfield 7, 3) := by decide +kernel
theorem dX5_far_10 : decode cX5_far 10 = .ok (.iload 4, 2) := by decide +kernel
theorem dX5_far_12 : decode cX5_far 12 = .ok (.iaload, 1) := by decide +kernel
theorem dX5_far_13 : decode cX5_far 13 = .ok (.if_icmp .ge 15, 3) := by decide +kernel
theorem dX5_far_16 : decode cX5_far 16 = .ok (.aload_n 0, 1) := by decide +kernel
theorem dX5_far_17 : decode cX5_far 17 = .ok (.getfield 7, 3) := by decide +kernel
theorem dX5_far_20 : decode cX5_far 20 = .ok (.iload 4, 2) := by decide +kernel
theorem dX5_far_22 : decode cX5_far 22 = .ok (.iaload, 1) := by decide +kernel
theorem dX5_far_23 : decode cX5_far 23 = .ok (.iload_n 1, 1) := by decide +kernel
theorem dX5_far_24 : decode cX5_far 24 = .ok (.isub, 1) := by decide +kernel
theorem dX5_far_25 : decode cX5_far 25 = .ok (.goto 31, 3) := by decide +kernel
theorem dX5_far_28 : decode cX5_far 28 = .ok (.iload_n 1, 1) := by decide +kernel
theorem dX5_far_29 : decode cX5_far 29 = .ok (.aload_n 0, 1) := by decide +kernel
theorem dX5_far_30 : decode cX5_far 30 = .ok (.getfield 7, 3) := by decide +kernel
theorem dX5_far_33 : decode cX5_far 33 = .ok (.iload 4, 2) := by decide +kernel
theorem dX5_far_35 : decode cX5_far 35 = .ok (.iconst 2, 1) := by decide +kernel
theorem dX5_far_36 : decode cX5_far 36 = .ok (.iadd, 1) := by decide +kernel
theorem dX5_far_37 : decode cX5_far 37 = .ok (.iaload, 1) := by decide +kernel
theorem dX5_far_38 : decode cX5_far 38 = .ok (.if_icmp .le 17, 3) := by decide +kernel
theorem dX5_far_41 : decode cX5_far 41 = .ok (.iload_n 1, 1) := by decide +kernel
theorem dX5_far_42 : decode cX5_far 42 = .ok (.aload_n 0, 1) := by decide +kernel
theorem dX5_far_43 : decode cX5_far 43 = .ok (.getfield 7, 3) := by decide +kernel
theorem dX5_far_46 : decode cX5_far 46 = .ok (.iload 4, 2) := by decide +kernel
theorem dX5_far_48 : decode cX5_far 48 = .ok (.iconst 2, 1) := by decide +kernel
theorem dX5_far_49 : decode cX5_far 49 = .ok (.iadd, 1) := by decide +kernel
theorem dX5_far_50 : decode cX5_far 50 = .ok (.iaload, 1) := by decide +kernel
theorem dX5_far_51 : decode cX5_far 51 = .ok (.isub, 1) := by decide +kernel
theorem dX5_far_52 : decode cX5_far 52 = .ok (.goto 4, 3) := by decide +kernel
theorem dX5_far_55 : decode cX5_far 55 = .ok (.iconst 0, 1) := by decide +kernel
theorem dX5_far_56 : decode cX5_far 56 = .ok (.istore 5, 2) := by decide +kernel
theorem dX5_far_58 : decode cX5_far 58 = .ok (.iload_n 2, 1) := by decide +kernel
theorem dX5_far_59 : decode cX5_far 59 = .ok (.aload_n 0, 1) := by decide +kernel
theorem dX5_far_60 : decode cX5_far 60 = .ok (.getfield 7, 3) := by decide +kernel
theorem dX5_far_63 : decode cX5_far 63 = .ok (.iload 4, 2) := by decide +kernel
theorem dX5_far_65 : decode cX5_far 65 = .ok (.iconst 1, 1) := by decide +kernel
theorem dX5_far_66 : decode cX5_far 66 = .ok (.iadd, 1) := by decide +kernel
theorem dX5_far_67 : decode cX5_far 67 = .ok (.iaload, 1) := by decide +kernel
theorem dX5_far_68 : decode cX5_far 68 = .ok (.if_icmp .ge 17, 3) := by decide +kernel
theorem dX5_far_71 : decode cX5_far 71 = .ok (.aload_n 0, 1) := by decide +kernel
theorem dX5_far_72 : decode cX5_far 72 = .ok (.getfield 7, 3) := by decide +kernel
theorem dX5_far_75 : decode cX5_far 75 = .ok (.iload 4, 2) := by decide +kernel
theorem dX5_far_77 : decode cX5_far 77 = .ok (.iconst 1, 1) := by decide +kernel
theorem dX5_far_78 : decode cX5_far 78 = .ok (.iadd, 1) := by decide +kernel
theorem dX5_far_79 : decode cX5_far 79 = .ok (.iaload, 1) := by decide +kernel
theorem dX5_far_80 : decode cX5_far 80 = .ok (.iload_n 2, 1) := by decide +kernel
theorem dX5_far_81 : decode cX5_far 81 = .ok (.isub, 1) := by decide +kernel
theorem dX5_far_82 : decode cX5_far 82 = .ok (.goto 31, 3) := by decide +kernel
theorem dX5_far_85 : decode cX5_far 85 = .ok (.iload_n 2, 1) := by decide +kernel
theorem dX5_far_86 : decode cX5_far 86 = .ok (.aload_n 0, 1) := by decide +kernel
theorem dX5_far_87 : decode cX5_far 87 = .ok (.getfield 7, 3) := by decide +kernel
theorem dX5_far_90 : decode cX5_far 90 = .ok (.iload 4, 2) := by decide +kernel
theorem dX5_far_92 : decode cX5_far 92 = .ok (.iconst 3, 1) := by decide +kernel
theorem dX5_far_93 : decode cX5_far 93 = .ok (.iadd, 1) := by decide +kernel
theorem dX5_far_94 : decode cX5_far 94 = .ok (.iaload, 1) := by decide +kernel
theorem dX5_far_95 : decode cX5_far 95 = .ok (.if_icmp .le 17, 3) := by decide +kernel
theorem dX5_far_98 : decode cX5_far 98 = .ok (.iload_n 2, 1) := by decide +kernel
theorem dX5_far_99 : decode cX5_far 99 = .ok (.aload_n 0, 1) := by decide +kernel
theorem dX5_far_100 : decode cX5_far 100 = .ok (.getfield 7, 3) := by decide +kernel
theorem dX5_far_103 : decode cX5_far 103 = .ok (.iload 4, 2) := by decide +kernel
theorem dX5_far_105 : decode cX5_far 105 = .ok (.iconst 3, 1) := by decide +kernel
theorem dX5_far_106 : decode cX5_far 106 = .ok (.iadd, 1) := by decide +kernel
theorem dX5_far_107 : decode cX5_far 107 = .ok (.iaload, 1) := by decide +kernel
theorem dX5_far_108 : decode cX5_far 108 = .ok (.isub, 1) := by decide +kernel
theorem dX5_far_109 : decode cX5_far 109 = .ok (.goto 4, 3) := by decide +kernel
theorem dX5_far_112 : decode cX5_far 112 = .ok (.iconst 0, 1) := by decide +kernel
theorem dX5_far_113 : decode cX5_far 113 = .ok (.istore 6, 2) := by decide +kernel
theorem dX5_far_115 : decode cX5_far 115 = .ok (.iload 5, 2) := by decide +kernel
theorem dX5_far_117 : decode cX5_far 117 = .ok (.iload 5, 2) := by decide +kernel
theorem dX5_far_119 : decode cX5_far 119 = .ok (.imul, 1) := by decide +kernel
theorem dX5_far_120 : decode cX5_far 120 = .ok (.iload 6, 2) := by decide +kernel
theorem dX5_far_122 : decode cX5_far 122 = .ok (.iload 6, 2) := by decide +kernel
theorem dX5_far_124 : decode cX5_far 124 = .ok (.imul, 1) := by decide +kernel
theorem dX5_far_125 : decode cX5_far 125 = .ok (.iadd, 1) := by decide +kernel
theorem dX5_far_126 : decode cX5_far 126 = .ok (.ireturn, 1) := by decide +kernel
set_option maxRecDepth 20000 in
theorem ggX5_nearer_X5_far : GoodIn wsX5_nearer wsX5_far := goodIn_r _ [7, 8, 9, 10, 11, 12, 13, 14, 15, 16, 17, 18, 19, 20, 21, 22, 23, 24] (by decide +kernel) (by decide +kernel)
set_option maxRecDepth 20000 in
theorem gX5_nearer_X5_far : GoodIn wsX5_nearer (wsV RX5 139 RX5 yX5_far wsX5_far) := goodIn_app (goodIn_of _ (by decide +kernel)) ggX5_nearer_X5_far
theorem dX5_nearer_0 : decode cX5_nearer 0 = .ok (.iconst 0, 1) := by decide +kernel
theorem dX5_nearer_1 : decode cX5_nearer 1 = .ok (.istore 4, 2) := by decide +kernel
theorem dX5_nearer_3 : decode cX5_nearer 3 = .ok (.iconst 0, 1) := by decide +kernel
theorem dX5_nearer_4 : decode cX5_nearer 4 = .ok (.istore 5, 2) := by decide +kernel
theorem dX5_nearer_6 : decode cX5_nearer 6 = .ok (.iload 5, 2) := by decide +kernel
theorem dX5_nearer_8 : decode cX5_nearer 8 = .ok (.aload_n 0, 1) := by decide +kernel
theorem dX5_nearer_9 : decode cX5_nearer 9 = .ok (.getfield 33, 3) := by decide +kernel
theorem dX5_nearer_12 : decode cX5_nearer 12 = .ok (.if_icmp .ge 83, 3) := by decide +kernel
theorem dX5_nearer_15 : decode cX5_nearer 15 = .ok (.aload_n 0, 1) := by decide +kernel
theorem dX5_nearer_16 : decode cX5_nearer 16 = .ok (.getfield 16, 3) := by decide +kernel
theorem dX5_nearer_19 : decode cX5_nearer 19 = .ok (.iload 5, 2) := by decide +kernel
theorem dX5_nearer_21 : decode cX5_nearer 21 = .ok (.baload, 1) := by decide +kernel
theorem dX5_nearer_22 : decode cX5_nearer 22 = .ok (.ifCond .eq 49, 3) := by decide +kernel
theorem dX5_nearer_25 : decode cX5_nearer 25 = .ok (.aload_n 0, 1) := by decide +kernel
theorem dX5_nearer_26 : decode cX5_nearer 26 = .ok (.iload_n 1, 1) := by decide +kernel
theorem dX5_nearer_27 : decode cX5_nearer 27 = .ok (.iload_n 2, 1) := by decide +kernel
theorem dX5_nearer_28 : decode cX5_nearer 28 = .ok (.iload 5, 2) := by decide +kernel
theorem dX5_nearer_30 : decode cX5_nearer 30 = .ok (.invokevirtual 139, 3) := by decide +kernel
theorem dX5_nearer_33 : decode cX5_nearer 33 = .ok (.aload_n 0, 1) := by decide +kernel
theorem dX5_nearer_34 : decode cX5_nearer 34 = .ok (.iload_n 1, 1) := by decide +kernel
theorem dX5_nearer_35 : decode cX5_nearer 35 = .ok (.iload_n 2, 1) := by decide +kernel
theorem dX5_nearer_36 : decode cX5_nearer 36 = .ok (.iload_n 3, 1) := by decide +kernel
theorem dX5_nearer_37 : decode cX5_nearer 37 = .ok (.invokevirtual 139, 3) := by decide +kernel
theorem dX5_nearer_40 : decode cX5_nearer 40 = .ok (.if_icmp .lt 27, 3) := by decide +kernel
theorem dX5_nearer_43 : decode cX5_nearer 43 = .ok (.aload_n 0, 1) := by decide +kernel
theorem dX5_nearer_44 : decode cX5_nearer 44 = .ok (.iload_n 1, 1) := by decide +kernel
theorem dX5_nearer_45 : decode cX5_nearer 45 = .ok (.iload_n 2, 1) := by decide +kernel
theorem dX5_nearer_46 : decode cX5_nearer 46 = .ok (.iload 5, 2) := by decide +kernel
theorem dX5_nearer_48 : decode cX5_nearer 48 = .ok (.invokevirtual 139, 3) := by decide +kernel
theorem dX5_nearer_51 : decode cX5_nearer 51 = .ok (.aload_n 0, 1) := by decide +kernel
theorem dX5_nearer_52 : decode cX5_nearer 52 = .ok (.iload_n 1, 1) := by decide +kernel
theorem dX5_nearer_53 : decode cX5_nearer 53 = .ok (.iload_n 2, 1) := by decide +kernel
theorem dX5_nearer_54 : decode cX5_nearer 54 = .ok (.iload_n 3, 1) := by decide +kernel
theorem dX5_nearer_55 : decode cX5_nearer 55 = .ok (.invokevirtual 139, 3) := by decide +kernel
theorem dX5_nearer_58 : decode cX5_nearer 58 = .ok (.if_icmp .ne 13, 3) := by decide +kernel
theorem dX5_nearer_61 : decode cX5_nearer 61 = .ok (.iload 5, 2) := by decide +kernel
theorem dX5_nearer_63 : decode cX5_nearer 63 = .ok (.iload_n 3, 1) := by decide +kernel
theorem dX5_nearer_64 : decode cX5_nearer 64 = .ok (.if_icmp .ge 7, 3) := by decide +kernel
theorem dX5_nearer_67 : decode cX5_nearer 67 = .ok (.iconst 1, 1) := by decide +kernel
theorem dX5_nearer_68 : decode cX5_nearer 68 = .ok (.goto 4, 3) := by decide +kernel
theorem dX5_nearer_71 : decode cX5_nearer 71 = .ok (.iconst 0, 1) := by decide +kernel
theorem dX5_nearer_72 : decode cX5_nearer 72 = .ok (.istore 6, 2) := by decide +kernel
theorem dX5_nearer_74 : decode cX5_nearer 74 = .ok (.iload 4, 2) := by decide +kernel
theorem dX5_nearer_76 : decode cX5_nearer 76 = .ok (.iload 6, 2) := by decide +kernel
theorem dX5_nearer_78 : decode cX5_nearer 78 = .ok (.ifCond .eq 7, 3) := by decide +kernel
theorem dX5_nearer_81 : decode cX5_nearer 81 = .ok (.iconst 1, 1) := by decide +kernel
theorem dX5_nearer_82 : decode cX5_nearer 82 = .ok (.goto 4, 3) := by decide +kernel
theorem dX5_nearer_85 : decode cX5_nearer 85 = .ok (.iconst 0, 1) := by decide +kernel
theorem dX5_nearer_86 : decode cX5_nearer 86 = .ok (.iadd, 1) := by decide +kernel
theorem dX5_nearer_87 : decode cX5_nearer 87 = .ok (.istore 4, 2) := by decide +kernel
theorem dX5_nearer_89 : decode cX5_nearer 89 = .ok (.iinc 5 1, 3) := by decide +kernel
theorem dX5_nearer_92 : decode cX5_nearer 92 = .ok (.goto (-86), 3) := by decide +kernel
theorem dX5_nearer_95 : decode cX5_nearer 95 = .ok (.iload 4, 2) := by decide +kernel
theorem dX5_nearer_97 : decode cX5_nearer 97 = .ok (.ireturn, 1) := by decide +kernel
set_option maxRecDepth 20000 in
theorem ggX5_nearest_X5_isPoint : GoodIn wsX5_nearest wsX5_isPoint := goodIn_r _ [6] (by decide +kernel) (by decide +kernel)
set_option maxRecDepth 20000 in
theorem gX5_nearest_X5_isPoint : GoodIn wsX5_nearest (va_wsS RX5 97 yX5_isPoint wsX5_isPoint) := goodIn_app (goodIn_of _ (by decide +kernel)) ggX5_nearest_X5_isPoint
set_option maxRecDepth 20000 in
theorem ggX5_nearest_X5_fails : GoodIn wsX5_nearest wsX5_fails := goodIn_r _ [10, 11, 22, 23, 24, 25, 26, 27, 28, 29, 30, 31, 32, 33, 34, 35, 36, 37] (by decide +kernel) (by decide +kernel)
set_option maxRecDepth 20000 in
theorem gX5_nearest_X5_fails : GoodIn wsX5_nearest (wsV RX5 70 RX5 yX5_fails wsX5_fails) := goodIn_app (goodIn_of _ (by decide +kernel)) ggX5_nearest_X5_fails
set_option maxRecDepth 20000 in
theorem ggX5_nearest_X5_nearer : GoodIn wsX5_nearest wsX5_nearer := goodIn_r _ [15, 16, 2, 17, 18, 19, 5, 20, 21, 22, 23, 24, 25, 26, 27, 28, 29, 30, 31, 32, 33, 34, 35, 36, 37] (by decide +kernel) (by decide +kernel)
set_option maxRecDepth 20000 in
theorem gX5_nearest_X5_nearer : GoodIn wsX5_nearest (wsV RX5 143 RX5 yX5_nearer wsX5_nearer) := goodIn_app (goodIn_of _ (by decide +kernel)) ggX5_nearest_X5_nearer
theorem dX5_nearest_0 : decode cX5_nearest 0 = .ok (.aload_n 0, 1) := by decide +kernel
theorem dX5_nearest_1 : decode cX5_nearest 1 = .ok (.iload_n 1, 1) := by decide +kernel
theorem dX5_nearest_2 : decode cX5_nearest 2 = .ok (.iload_n 2, 1) := by decide +kernel
theorem dX5_nearest_3 : decode cX5_nearest 3 = .ok (.invokestatic 97, 3) := by decide +kernel
theorem dX5_nearest_6 : decode cX5_nearest 6 = .ok (.ifCond .ne 7, 3) := by decide +kernel
theorem dX5_nearest_9 : decode cX5_nearest 9 = .ok (.iconst 1, 1) := by decide +kernel
theorem dX5_nearest_10 : decode cX5_nearest 10 = .ok (.goto 20, 3) := by decide +kernel
theorem dX5_nearest_13 : decode cX5_nearest 13 = .ok (.iload_n 3, 1) := by decide +kernel
theorem dX5_nearest_14 : decode cX5_nearest 14 = .ok (.ifCond .lt 15, 3) := by decide +kernel
theorem dX5_nearest_17 : decode cX5_nearest 17 = .ok (.iload_n 3, 1) := by decide +kernel
theorem dX5_nearest_18 : decode cX5_nearest 18 = .ok (.aload_n 0, 1) := by decide +kernel
theorem dX5_nearest_19 : decode cX5_nearest 19 = .ok (.getfield 63, 3) := by decide +kernel
theorem dX5_nearest_22 : decode cX5_nearest 22 = .ok (.if_icmp .ge 7, 3) := by decide +kernel
theorem dX5_nearest_25 : decode cX5_nearest 25 = .ok (.iconst 0, 1) := by decide +kernel
theorem dX5_nearest_26 : decode cX5_nearest 26 = .ok (.goto 4, 3) := by decide +kernel
theorem dX5_nearest_29 : decode cX5_nearest 29 = .ok (.iconst 2, 1) := by decide +kernel
theorem dX5_nearest_30 : decode cX5_nearest 30 = .ok (.invokevirtual 70, 3) := by decide +kernel
theorem dX5_nearest_33 : decode cX5_nearest 33 = .ok (.ifCond .eq 5, 3) := by decide +kernel
theorem dX5_nearest_36 : decode cX5_nearest 36 = .ok (.iconst 0, 1) := by decide +kernel
theorem dX5_nearest_37 : decode cX5_nearest 37 = .ok (.ireturn, 1) := by decide +kernel
theorem dX5_nearest_38 : decode cX5_nearest 38 = .ok (.iconst 0, 1) := by decide +kernel
theorem dX5_nearest_39 : decode cX5_nearest 39 = .ok (.istore 4, 2) := by decide +kernel
theorem dX5_nearest_41 : decode cX5_nearest 41 = .ok (.aload_n 0, 1) := by decide +kernel
theorem dX5_nearest_42 : decode cX5_nearest 42 = .ok (.getfield 16, 3) := by decide +kernel
theorem dX5_nearest_45 : decode cX5_nearest 45 = .ok (.iload 4, 2) := by decide +kernel
theorem dX5_nearest_47 : decode cX5_nearest 47 = .ok (.baload, 1) := by decide +kernel
theorem dX5_nearest_48 : decode cX5_nearest 48 = .ok (.ifCond .eq 15, 3) := by decide +kernel
theorem dX5_nearest_51 : decode cX5_nearest 51 = .ok (.aload_n 0, 1) := by decide +kernel
theorem dX5_nearest_52 : decode cX5_nearest 52 = .ok (.iload_n 1, 1) := by decide +kernel
theorem dX5_nearest_53 : decode cX5_nearest 53 = .ok (.iload_n 2, 1) := by decide +kernel
theorem dX5_nearest_54 : decode cX5_nearest 54 = .ok (.iload 4, 2) := by decide +kernel
theorem dX5_nearest_56 : decode cX5_nearest 56 = .ok (.invokevirtual 143, 3) := by decide +kernel
theorem dX5_nearest_59 : decode cX5_nearest 59 = .ok (.iload_n 3, 1) := by decide +kernel
theorem dX5_nearest_60 : decode cX5_nearest 60 = .ok (.if_icmp .eq 9, 3) := by decide +kernel
theorem dX5_nearest_63 : decode cX5_nearest 63 = .ok (.iinc 4 1, 3) := by decide +kernel
theorem dX5_nearest_66 : decode cX5_nearest 66 = .ok (.goto (-25), 3) := by decide +kernel
theorem dX5_nearest_69 : decode cX5_nearest 69 = .ok (.iload 4, 2) := by decide +kernel
