theorem dX3_halve_1 : decode cX3_halve 1 = .ok (.iload_n 1, 1) := by decide +kernel
theorem dX3_halve_2 : decode cX3_halve 2 = .ok (.iload_n 2, 1) := by decide +kernel
theorem dX3_halve_3 : decode cX3_halve 3 = .ok (.invokevirtual 30, 3) := by decide +kernel
theorem dX3_halve_6 : decode cX3_halve 6 = .ok (.aload_n 0, 1) := by decide +kernel
theorem dX3_halve_7 : decode cX3_halve 7 = .ok (.iload_n 1, 1) := by decide +kernel
theorem dX3_halve_8 : decode cX3_halve 8 = .ok (.iload_n 2, 1) := by decide +kernel
theorem dX3_halve_9 : decode cX3_halve 9 = .ok (.iconst 1, 1) := by decide +kernel
theorem dX3_halve_10 : decode cX3_halve 10 = .ok (.iadd, 1) := by decide +kernel
theorem dX3_halve_11 : decode cX3_halve 11 = .ok (.invokevirtual 30, 3) := by decide +kernel
theorem dX3_halve_14 : decode cX3_halve 14 = .ok (.iadd, 1) := by decide +kernel
theorem dX3_halve_15 : decode cX3_halve 15 = .ok (.istore_n 3, 1) := by decide +kernel
theorem dX3_halve_16 : decode cX3_halve 16 = .ok (.aload_n 0, 1) := by decide +kernel
theorem dX3_halve_17 : decode cX3_halve 17 = .ok (.iload_n 1, 1) := by decide +kernel
theorem dX3_halve_18 : decode cX3_halve 18 = .ok (.iload_n 2, 1) := by decide +kernel
theorem dX3_halve_19 : decode cX3_halve 19 = .ok (.iload_n 3, 1) := by decide +kernel
theorem dX3_halve_20 : decode cX3_halve 20 = .ok (.iconst 1, 1) := by decide +kernel
theorem dX3_halve_21 : decode cX3_halve 21 = .ok (.iadd, 1) := by decide +kernel
theorem dX3_halve_22 : decode cX3_halve 22 = .ok (.iconst 2, 1) := by decide +kernel
theorem dX3_halve_23 : decode cX3_halve 23 = .ok (.idiv, 1) := by decide +kernel
theorem dX3_halve_24 : decode cX3_halve 24 = .ok (.invokevirtual 48, 3) := by decide +kernel
theorem dX3_halve_27 : decode cX3_halve 27 = .ok (.aload_n 0, 1) := by decide +kernel
theorem dX3_halve_28 : decode cX3_halve 28 = .ok (.iload_n 1, 1) := by decide +kernel
theorem dX3_halve_29 : decode cX3_halve 29 = .ok (.iload_n 2, 1) := by decide +kernel
theorem dX3_halve_30 : decode cX3_halve 30 = .ok (.iconst 1, 1) := by decide +kernel
theorem dX3_halve_31 : decode cX3_halve 31 = .ok (.iadd, 1) := by decide +kernel
theorem dX3_halve_32 : decode cX3_halve 32 = .ok (.iload_n 3, 1) := by decide +kernel
theorem dX3_halve_33 : decode cX3_halve 33 = .ok (.iconst 2, 1) := by decide +kernel
theorem dX3_halve_34 : decode cX3_halve 34 = .ok (.idiv, 1) := by decide +kernel
theorem dX3_halve_35 : decode cX3_halve 35 = .ok (.invokevirtual 48, 3) := by decide +kernel
theorem dX3_halve_38 : decode cX3_halve 38 = .ok (.return_, 1) := by decide +kernel
set_option maxRecDepth 20000 in
theorem ggX3_shrink_X3_holder : GoodIn wsX3_shrink wsX3_holder := goodIn_r _ [6, 7, 8, 9, 5, 10, 1, 11, 12, 13, 14, 15, 16, 17, 18, 19, 20, 68, 69, 70] (by decide +kernel) (by decide +kernel)
set_option maxRecDepth 20000 in
theorem gX3_shrink_X3_holder : GoodIn wsX3_shrink (wsV RX3 41 RX3 yX3_holder wsX3_holder) := goodIn_app (goodIn_of _ (by decide +kernel)) ggX3_shrink_X3_holder
set_option maxRecDepth 20000 in
theorem ggX3_shrink_X3_load : GoodIn wsX3_shrink wsX3_load := goodIn_r _ [15, 16, 17, 18, 19, 5, 20, 1, 11, 68, 69, 70] (by decide +kernel) (by decide +kernel)
set_option maxRecDepth 20000 in
theorem gX3_shrink_X3_load : GoodIn wsX3_shrink (wsV RX3 30 RX3 yX3_load wsX3_load) := goodIn_app (goodIn_of _ (by decide +kernel)) ggX3_shrink_X3_load
set_option maxRecDepth 20000 in
theorem ggX3_shrink_X3_setLoad : GoodIn wsX3_shrink wsX3_setLoad := goodIn_r _ [24, 16, 17, 18, 19, 5, 20, 1, 11, 68, 69, 70] (by decide +kernel) (by decide +kernel)
set_option maxRecDepth 20000 in
theorem gX3_shrink_X3_setLoad : GoodIn wsX3_shrink (wsV RX3 48 RX3 yX3_setLoad wsX3_setLoad) := goodIn_app (goodIn_of _ (by decide +kernel)) ggX3_shrink_X3_setLoad
set_option maxRecDepth 20000 in
theorem ggX3_shrink_X3_parent : GoodIn wsX3_shrink wsX3_parent := goodIn_r _ [28, 29, 30, 31, 5, 32, 1, 2, 3, 4, 6, 7, 8, 9, 10, 11, 12, 13, 14, 15, 16, 17, 18, 19, 20, 68, 69, 70] (by decide +kernel) (by decide +kernel)
set_option maxRecDepth 20000 in
theorem gX3_shrink_X3_parent : GoodIn wsX3_shrink (wsV RX3 52 RX3 yX3_parent wsX3_parent) := goodIn_app (goodIn_of _ (by decide +kernel)) ggX3_shrink_X3_parent
set_option maxRecDepth 20000 in
theorem ggX3_shrink_X3_unite : GoodIn wsX3_shrink wsX3_unite := goodIn_r _ [36, 37, 38, 39, 40, 41, 42, 43, 5, 44, 45, 46, 47, 48, 7, 8, 9, 10, 1, 11, 12, 13, 14, 15, 16, 17, 18, 19, 20, 49, 50, 51, 52, 53, 54, 55, 21, 22, 23, 24, 56, 57, 58, 59, 60, 61, 62, 63, 68, 69, 70] (by decide +kernel) (by decide +kernel)
set_option maxRecDepth 20000 in
theorem gX3_shrink_X3_unite : GoodIn wsX3_shrink (wsV RX3 81 RX3 yX3_unite wsX3_unite) := goodIn_app (goodIn_of _ (by decide +kernel)) ggX3_shrink_X3_unite
set_option maxRecDepth 20000 in
theorem ggX3_shrink_X3_lowerRoot : GoodIn wsX3_shrink wsX3_lowerRoot := goodIn_r _ [67, 1, 12, 13, 14, 5, 15, 16, 17, 18, 19, 20, 11, 68, 69, 70] (by decide +kernel) (by decide +kernel)
set_option maxRecDepth 20000 in
theorem gX3_shrink_X3_lowerRoot : GoodIn wsX3_shrink (wsV RX3 84 RX3 yX3_lowerRoot wsX3_lowerRoot) := goodIn_app (goodIn_of _ (by decide +kernel)) ggX3_shrink_X3_lowerRoot
theorem dX3_shrink_0 : decode cX3_shrink 0 = .ok (.aload_n 0, 1) := by decide +kernel
theorem dX3_shrink_1 : decode cX3_shrink 1 = .ok (.iconst 0, 1) := by decide +kernel
theorem dX3_shrink_2 : decode cX3_shrink 2 = .ok (.iload_n 1, 1) := by decide +kernel
theorem dX3_shrink_3 : decode cX3_shrink 3 = .ok (.invokevirtual 41, 3) := by decide +kernel
theorem dX3_shrink_6 : decode cX3_shrink 6 = .ok (.istore_n 2, 1) := by decide +kernel
theorem dX3_shrink_7 : decode cX3_shrink 7 = .ok (.aload_n 0, 1) := by decide +kernel
theorem dX3_shrink_8 : decode cX3_shrink 8 = .ok (.iconst 0, 1) := by decide +kernel
theorem dX3_shrink_9 : decode cX3_shrink 9 = .ok (.iload_n 2, 1) := by decide +kernel
theorem dX3_shrink_10 : decode cX3_shrink 10 = .ok (.aload_n 0, 1) := by decide +kernel
theorem dX3_shrink_11 : decode cX3_shrink 11 = .ok (.iconst 0, 1) := by decide +kernel
theorem dX3_shrink_12 : decode cX3_shrink 12 = .ok (.iload_n 2, 1) := by decide +kernel
theorem dX3_shrink_13 : decode cX3_shrink 13 = .ok (.invokevirtual 30, 3) := by decide +kernel
theorem dX3_shrink_16 : decode cX3_shrink 16 = .ok (.iconst 1, 1) := by decide +kernel
theorem dX3_shrink_17 : decode cX3_shrink 17 = .ok (.isub, 1) := by decide +kernel
theorem dX3_shrink_18 : decode cX3_shrink 18 = .ok (.invokevirtual 48, 3) := by decide +kernel
theorem dX3_shrink_21 : decode cX3_shrink 21 = .ok (.iconst 1, 1) := by decide +kernel
theorem dX3_shrink_22 : decode cX3_shrink 22 = .ok (.istore_n 3, 1) := by decide +kernel
theorem dX3_shrink_23 : decode cX3_shrink 23 = .ok (.iconst 0, 1) := by decide +kernel
theorem dX3_shrink_24 : decode cX3_shrink 24 = .ok (.istore 4, 2) := by decide +kernel
theorem dX3_shrink_26 : decode cX3_shrink 26 = .ok (.iload_n 3, 1) := by decide +kernel
theorem dX3_shrink_27 : decode cX3_shrink 27 = .ok (.ifCond .eq 79, 3) := by decide +kernel
theorem dX3_shrink_30 : decode cX3_shrink 30 = .ok (.iload 4, 2) := by decide +kernel
theorem dX3_shrink_32 : decode cX3_shrink 32 = .ok (.aload_n 0, 1) := by decide +kernel
theorem dX3_shrink_33 : decode cX3_shrink 33 = .ok (.getfield 18, 3) := by decide +kernel
theorem dX3_shrink_36 : decode cX3_shrink 36 = .ok (.iconst 1, 1) := by decide +kernel
theorem dX3_shrink_37 : decode cX3_shrink 37 = .ok (.isub, 1) := by decide +kernel
theorem dX3_shrink_38 : decode cX3_shrink 38 = .ok (.if_icmp .ge 68, 3) := by decide +kernel
theorem dX3_shrink_41 : decode cX3_shrink 41 = .ok (.aload_n 0, 1) := by decide +kernel
theorem dX3_shrink_42 : decode cX3_shrink 42 = .ok (.iload 4, 2) := by decide +kernel
theorem dX3_shrink_44 : decode cX3_shrink 44 = .ok (.iload_n 2, 1) := by decide +kernel
theorem dX3_shrink_45 : decode cX3_shrink 45 = .ok (.invokevirtual 30, 3) := by decide +kernel
theorem dX3_shrink_48 : decode cX3_shrink 48 = .ok (.iconst 2, 1) := by decide +kernel
theorem dX3_shrink_49 : decode cX3_shrink 49 = .ok (.if_icmp .ge 57, 3) := by decide +kernel
theorem dX3_shrink_52 : decode cX3_shrink 52 = .ok (.aload_n 0, 1) := by decide +kernel
theorem dX3_shrink_53 : decode cX3_shrink 53 = .ok (.iload 4, 2) := by decide +kernel
theorem dX3_shrink_55 : decode cX3_shrink 55 = .ok (.iload_n 2, 1) := by decide +kernel
theorem dX3_shrink_56 : decode cX3_shrink 56 = .ok (.invokevirtual 52, 3) := by decide +kernel
theorem dX3_shrink_59 : decode cX3_shrink 59 = .ok (.istore 5, 2) := by decide +kernel
theorem dX3_shrink_61 : decode cX3_shrink 61 = .ok (.aload_n 0, 1) := by decide +kernel
theorem dX3_shrink_62 : decode cX3_shrink 62 = .ok (.iload 4, 2) := by decide +kernel
theorem dX3_shrink_64 : decode cX3_shrink 64 = .ok (.iload_n 2, 1) := by decide +kernel
theorem dX3_shrink_65 : decode cX3_shrink 65 = .ok (.iload 5, 2) := by decide +kernel
theorem dX3_shrink_67 : decode cX3_shrink 67 = .ok (.invokevirtual 81, 3) := by decide +kernel
theorem dX3_shrink_70 : decode cX3_shrink 70 = .ok (.istore_n 3, 1) := by decide +kernel
theorem dX3_shrink_71 : decode cX3_shrink 71 = .ok (.iload_n 3, 1) := by decide +kernel
theorem dX3_shrink_72 : decode cX3_shrink 72 = .ok (.ifCond .eq 25, 3) := by decide +kernel
theorem dX3_shrink_75 : decode cX3_shrink 75 = .ok (.aload_n 0, 1) := by decide +kernel
theorem dX3_shrink_76 : decode cX3_shrink 76 = .ok (.iload 4, 2) := by decide +kernel
theorem dX3_shrink_78 : decode cX3_shrink 78 = .ok (.iconst 1, 1) := by decide +kernel
theorem dX3_shrink_79 : decode cX3_shrink 79 = .ok (.iadd, 1) := by decide +kernel
theorem dX3_shrink_80 : decode cX3_shrink 80 = .ok (.iload 5, 2) := by decide +kernel
theorem dX3_shrink_82 : decode cX3_shrink 82 = .ok (.aload_n 0, 1) := by decide +kernel
theorem dX3_shrink_83 : decode cX3_shrink 83 = .ok (.iload 4, 2) := by decide +kernel
theorem dX3_shrink_85 : decode cX3_shrink 85 = .ok (.iconst 1, 1) := by decide +kernel
theorem dX3_shrink_86 : decode cX3_shrink 86 = .ok (.iadd, 1) := by decide +kernel
theorem dX3_shrink_87 : decode cX3_shrink 87 = .ok (.iload 5, 2) := by decide +kernel
theorem dX3_shrink_89 : decode cX3_shrink 89 = .ok (.invokevirtual 30, 3) := by decide +kernel
theorem dX3_shrink_92 : decode cX3_shrink 92 = .ok (.iconst 1, 1) := by decide +kernel
theorem dX3_shrink_93 : decode cX3_shrink 93 = .ok (.isub, 1) := by decide +kernel
theorem dX3_shrink_94 : decode cX3_shrink 94 = .ok (.invokevirtual 48, 3) := by decide +kernel
theorem dX3_shrink_97 : decode cX3_shrink 97 = .ok (.iload 5, 2) := by decide +kernel
theorem dX3_shrink_99 : decode cX3_shrink 99 = .ok (.istore_n 2, 1) := by decide +kernel
theorem dX3_shrink_100 : decode cX3_shrink 100 = .ok (.iinc 4 1, 3) := by decide +kernel
theorem dX3_shrink_103 : decode cX3_shrink 103 = .ok (.goto (-77), 3) := by decide +kernel
theorem dX3_shrink_106 : decode cX3_shrink 106 = .ok (.aload_n 0, 1) := by decide +kernel
theorem dX3_shrink_107 : decode cX3_shrink 107 = .ok (.invokevirtual 84, 3) := by decide +kernel
theorem dX3_shrink_110 : decode cX3_shrink 110 = .ok (.return_, 1) := by decide +kernel
set_option maxRecDepth 20000 in
theorem ggX3_unite_X3_partner : GoodIn wsX3_unite wsX3_partner := goodIn_r _ [9, 10, 11, 12, 8, 13, 14, 15, 16, 17, 18, 19, 20, 21, 22, 23, 24, 25, 26, 27, 28, 48, 49, 50] (by decide +kernel) (by decide +kernel)
set_option maxRecDepth 20000 in
theorem gX3_unite_X3_partner : GoodIn wsX3_unite (wsV RX3 66 RX3 yX3_partner wsX3_partner) := goodIn_app (goodIn_of _ (by decide +kernel)) ggX3_unite_X3_partner
set_option maxRecDepth 20000 in
theorem ggX3_unite_X3_load : GoodIn wsX3_unite wsX3_load := goodIn_r _ [23, 24, 25, 26, 27, 8, 28, 18, 19, 48, 49, 50] (by decide +kernel) (by decide +kernel)
set_option maxRecDepth 20000 in
theorem gX3_unite_X3_load : GoodIn wsX3_unite (wsV RX3 30 RX3 yX3_load wsX3_load) := goodIn_app (goodIn_of _ (by decide +kernel)) ggX3_unite_X3_load
set_option maxRecDepth 20000 in
theorem ggX3_unite_X3_deleteNode : GoodIn wsX3_unite wsX3_deleteNode := goodIn_r _ [32, 33, 34, 3, 35, 14, 15, 16, 8, 17, 18, 19, 20, 21, 22, 23, 24, 25, 26, 27, 28, 36, 37, 38, 39, 40, 41, 42, 43, 48, 49, 50] (by decide +kernel) (by decide +kernel)
set_option maxRecDepth 20000 in
theorem gX3_unite_X3_deleteNode : GoodIn wsX3_unite (wsV RX3 87 RX3 yX3_deleteNode wsX3_deleteNode) := goodIn_app (goodIn_of _ (by decide +kernel)) ggX3_unite_X3_deleteNode
set_option maxRecDepth 20000 in
theorem ggX3_unite_X3_halve : GoodIn wsX3_unite wsX3_halve := goodIn_r _ [47, 20, 21, 22, 8, 23, 24, 25, 26, 27, 28, 18, 19, 36, 37, 38, 39, 48, 49, 50] (by decide +kernel) (by decide +kernel)
set_option maxRecDepth 20000 in
theorem gX3_unite_X3_halve : GoodIn wsX3_unite (wsV RX3 78 RX3 yX3_halve wsX3_halve) := goodIn_app (goodIn_of _ (by decide +kernel)) ggX3_unite_X3_halve
set_option maxRecDepth 20000 in
theorem ggX3_unite_X3_setLoad : GoodIn wsX3_unite wsX3_setLoad := goodIn_r _ [39, 24, 25, 26, 27, 8, 28, 18, 19, 48, 49, 50] (by decide +kernel) (by decide +kernel)
set_option maxRecDepth 20000 in
theorem gX3_unite_X3_setLoad : GoodIn wsX3_unite (wsV RX3 48 RX3 yX3_setLoad wsX3_setLoad) := goodIn_app (goodIn_of _ (by decide +kernel)) ggX3_unite_X3_setLoad
theorem dX3_unite_0 : decode cX3_unite 0 = .ok (.aload_n 0, 1) := by decide +kernel
theorem dX3_unite_1 : decode cX3_unite 1 = .ok (.iload_n 1, 1) := by decide +kernel
theorem dX3_unite_2 : decode cX3_unite 2 = .ok (.iload_n 2, 1) := by decide +kernel
theorem dX3_unite_3 : decode cX3_unite 3 = .ok (.iload_n 3, 1) := by decide +kernel
theorem dX3_unite_4 : decode cX3_unite 4 = .ok (.invokevirtual 66, 3) := by decide +kernel
theorem dX3_unite_7 : decode cX3_unite 7 = .ok (.istore 4, 2) := by decide +kernel
theorem dX3_unite_9 : decode cX3_unite 9 = .ok (.iload 4, 2) := by decide +kernel
theorem dX3_unite_11 : decode cX3_unite 11 = .ok (.ifCond .ge 22, 3) := by decide +kernel
theorem dX3_unite_14 : decode cX3_unite 14 = .ok (.aload_n 0, 1) := by decide +kernel
theorem dX3_unite_15 : decode cX3_unite 15 = .ok (.iload_n 1, 1) := by decide +kernel
theorem dX3_unite_16 : decode cX3_unite 16 = .ok (.iload_n 2, 1) := by decide +kernel
theorem dX3_unite_17 : decode cX3_unite 17 = .ok (.invokevirtual 30, 3) := by decide +kernel
theorem dX3_unite_20 : decode cX3_unite 20 = .ok (.ifCond .le 5, 3) := by decide +kernel
theorem dX3_unite_23 : decode cX3_unite 23 = .ok (.iconst 0, 1) := by decide +kernel
theorem dX3_unite_24 : decode cX3_unite 24 = .ok (.ireturn, 1) := by decide +kernel
theorem dX3_unite_25 : decode cX3_unite 25 = .ok (.aload_n 0, 1) := by decide +kernel
theorem dX3_unite_26 : decode cX3_unite 26 = .ok (.iload_n 1, 1) := by decide +kernel
theorem dX3_unite_27 : decode cX3_unite 27 = .ok (.iload_n 2, 1) := by decide +kernel
theorem dX3_unite_28 : decode cX3_unite 28 = .ok (.invokevirtual 87, 3) := by decide +kernel
theorem dX3_unite_31 : decode cX3_unite 31 = .ok (.iconst 1, 1) := by decide +kernel
theorem dX3_unite_32 : decode cX3_unite 32 = .ok (.ireturn, 1) := by decide +kernel
theorem dX3_unite_33 : decode cX3_unite 33 = .ok (.iload_n 2, 1) := by decide +kernel
theorem dX3_unite_34 : decode cX3_unite 34 = .ok (.iload 4, 2) := by decide +kernel
theorem dX3_unite_36 : decode cX3_unite 36 = .ok (.invokestatic 73, 3) := by decide +kernel
theorem dX3_unite_39 : decode cX3_unite 39 = .ok (.istore 5, 2) := by decide +kernel
theorem dX3_unite_41 : decode cX3_unite 41 = .ok (.aload_n 0, 1) := by decide +kernel
theorem dX3_unite_42 : decode cX3_unite 42 = .ok (.iload_n 1, 1) := by decide +kernel
theorem dX3_unite_43 : decode cX3_unite 43 = .ok (.iload 5, 2) := by decide +kernel
theorem dX3_unite_45 : decode cX3_unite 45 = .ok (.invokevirtual 30, 3) := by decide +kernel
theorem dX3_unite_48 : decode cX3_unite 48 = .ok (.aload_n 0, 1) := by decide +kernel
theorem dX3_unite_49 : decode cX3_unite 49 = .ok (.iload_n 1, 1) := by decide +kernel
theorem dX3_unite_50 : decode cX3_unite 50 = .ok (.iload 5, 2) := by decide +kernel
theorem dX3_unite_52 : decode cX3_unite 52 = .ok (.iconst 1, 1) := by decide +kernel
theorem dX3_unite_53 : decode cX3_unite 53 = .ok (.iadd, 1) := by decide +kernel
theorem dX3_unite_54 : decode cX3_unite 54 = .ok (.invokevirtual 30, 3) := by decide +kernel
theorem dX3_unite_57 : decode cX3_unite 57 = .ok (.iadd, 1) := by decide +kernel
theorem dX3_unite_58 : decode cX3_unite 58 = .ok (.istore 6, 2) := by decide +kernel
theorem dX3_unite_60 : decode cX3_unite 60 = .ok (.iload 6, 2) := by decide +kernel
theorem dX3_unite_62 : decode cX3_unite 62 = .ok (.iconst 4, 1) := by decide +kernel
theorem dX3_unite_63 : decode cX3_unite 63 = .ok (.if_icmp .le 12, 3) := by decide +kernel
theorem dX3_unite_66 : decode cX3_unite 66 = .ok (.aload_n 0, 1) := by decide +kernel
theorem dX3_unite_67 : decode cX3_unite 67 = .ok (.iload_n 1, 1) := by decide +kernel
theorem dX3_unite_68 : decode cX3_unite 68 = .ok (.iload 5, 2) := by decide +kernel
theorem dX3_unite_70 : decode cX3_unite 70 = .ok (.invokevirtual 78, 3) := by decide +kernel
theorem dX3_unite_73 : decode cX3_unite 73 = .ok (.iconst 0, 1) := by decide +kernel
theorem dX3_unite_74 : decode cX3_unite 74 = .ok (.ireturn, 1) := by decide +kernel
theorem dX3_unite_75 : decode cX3_unite 75 = .ok (.aload_n 0, 1) := by decide +kernel
theorem dX3_unite_76 : decode cX3_unite 76 = .ok (.iload_n 1, 1) := by decide +kernel
theorem dX3_unite_77 : decode cX3_unite 77 = .ok (.iload 5, 2) := by decide +kernel
theorem dX3_unite_79 : decode cX3_unite 79 = .ok (.iload 6, 2) := by decide +kernel
theorem dX3_unite_81 : decode cX3_unite 81 = .ok (.invokevirtual 48, 3) := by decide +kernel
theorem dX3_unite_84 : decode cX3_unite 84 = .ok (.aload_n 0, 1) := by decide +kernel
theorem dX3_unite_85 : decode cX3_unite 85 = .ok (.iload_n 1, 1) := by decide +kernel
theorem dX3_unite_86 : decode cX3_unite 86 = .ok (.iload 5, 2) := by decide +kernel
theorem dX3_unite_88 : decode cX3_unite 88 = .ok (.iconst 1, 1) := by decide +kernel
theorem dX3_unite_89 : decode cX3_unite 89 = .ok (.iadd, 1) := by decide +kernel
theorem dX3_unite_90 : decode cX3_unite 90 = .ok (.invokevirtual 87, 3) := by decide +kernel
theorem dX3_unite_93 : decode cX3_unite 93 = .ok (.iconst 1, 1) := by decide +kernel
theorem dX3_unite_94 : decode cX3_unite 94 = .ok (.ireturn, 1) := by decide +kernel
set_option maxRecDepth 20000 in
theorem ggX3_lowerRoot_X3_load : GoodIn wsX3_lowerRoot wsX3_load := goodIn_r _ [6, 7, 8, 9, 10, 5, 11, 1, 12, 13, 14, 15] (by decide +kernel) (by decide +kernel)
set_option maxRecDepth 20000 in
theorem gX3_lowerRoot_X3_load : GoodIn wsX3_lowerRoot (wsV RX3 30 RX3 yX3_load wsX3_load) := goodIn_app (goodIn_of _ (by decide +kernel)) ggX3_lowerRoot_X3_load
theorem dX3_lowerRoot_0 : decode cX3_lowerRoot 0 = .ok (.aload_n 0, 1) := by decide +kernel
theorem dX3_lowerRoot_1 : decode cX3_lowerRoot 1 = .ok (.getfield 18, 3) := by decide +kernel
theorem dX3_lowerRoot_4 : decode cX3_lowerRoot 4 = .ok (.iconst 1, 1) := by decide +kernel
theorem dX3_lowerRoot_5 : decode cX3_lowerRoot 5 = .ok (.isub, 1) := by decide +kernel
theorem dX3_lowerRoot_6 : decode cX3_lowerRoot 6 = .ok (.istore_n 1, 1) := by decide +kernel
theorem dX3_lowerRoot_7 : decode cX3_lowerRoot 7 = .ok (.iload_n 1, 1) := by decide +kernel
theorem dX3_lowerRoot_8 : decode cX3_lowerRoot 8 = .ok (.ifCond .le 24, 3) := by decide +kernel
theorem dX3_lowerRoot_11 : decode cX3_lowerRoot 11 = .ok (.aload_n 0, 1) := by decide +kernel
theorem dX3_lowerRoot_12 : decode cX3_lowerRoot 12 = .ok (.iload_n 1, 1) := by decide +kernel
theorem dX3_lowerRoot_13 : decode cX3_lowerRoot 13 = .ok (.iconst 0, 1) := by decide +kernel
theorem dX3_lowerRoot_14 : decode cX3_lowerRoot 14 = .ok (.invokevirtual 30, 3) := by decide +kernel
theorem dX3_lowerRoot_17 : decode cX3_lowerRoot 17 = .ok (.iconst 1, 1) := by decide +kernel
theorem dX3_lowerRoot_18 : decode cX3_lowerRoot 18 = .ok (.if_icmp .ne 14, 3) := by decide +kernel
theorem dX3_lowerRoot_21 : decode cX3_lowerRoot 21 = .ok (.aload_n 0, 1) := by decide +kernel
theorem dX3_lowerRoot_22 : decode cX3_lowerRoot 22 = .ok (.iload_n 1, 1) := by decide +kernel
theorem dX3_lowerRoot_23 : decode cX3_lowerRoot 23 = .ok (.putfield 18, 3) := by decide +kernel
theorem dX3_lowerRoot_26 : decode cX3_lowerRoot 26 = .ok (.iinc 1 (-1), 3) := by decide +kernel
theorem dX3_lowerRoot_29 : decode cX3_lowerRoot 29 = .ok (.goto (-22), 3) := by decide +kernel
theorem dX3_lowerRoot_32 : decode cX3_lowerRoot 32 = .ok (.aload_n 0, 1) := by decide +kernel
theorem dX3_lowerRoot_33 : decode cX3_lowerRoot 33 = .ok (.aload_n 0, 1) := by decide +kernel
theorem dX3_lowerRoot_34 : decode cX3_lowerRoot 34 = .ok (.getfield 18, 3) := by decide +kernel
theorem dX3_lowerRoot_37 : decode cX3_lowerRoot 37 = .ok (.iconst 1, 1) := by decide +kernel
theorem dX3_lowerRoot_38 : decode cX3_lowerRoot 38 = .ok (.isub, 1) := by decide +kernel
theorem dX3_lowerRoot_39 : decode cX3_lowerRoot 39 = .ok (.iconst 0, 1) := by decide +kernel
theorem dX3_lowerRoot_40 : decode cX3_lowerRoot 40 = .ok (.invokevirtual 30, 3) := by decide +kernel
theorem dX3_lowerRoot_43 : decode cX3_lowerRoot 43 = .ok (.ifCond .ne 8, 3) := by decide +kernel
theorem dX3_lowerRoot_46 : decode cX3_lowerRoot 46 = .ok (.aload_n 0, 1) := by decide +kernel
theorem dX3_lowerRoot_47 : decode cX3_lowerRoot 47 = .ok (.iconst 0, 1) := by decide +kernel
theorem dX3_lowerRoot_48 : decode cX3_lowerRoot 48 = .ok (.putfield 18, 3) := by decide +kernel
theorem dX3_lowerRoot_51 : decode cX3_lowerRoot 51 = .ok (.return_, 1) := by decide +kernel
set_option maxRecDepth 20000 in
theorem ggX3_insertNode_X3_width : GoodIn wsX3_insertNode wsX3_width := goodIn_r _ [5, 6, 7, 25, 26, 27] (by decide +kernel) (by decide +kernel)
set_option maxRecDepth 20000 in
theorem gX3_insertNode_X3_width : GoodIn wsX3_insertNode (wsV RX3 26 RX3 yX3_width wsX3_width) := goodIn_app (goodIn_of _ (by decide +kernel)) ggX3_insertNode_X3_width
set_option maxRecDepth 20000 in
theorem ggX3_insertNode_X3_setWidth : GoodIn wsX3_insertNode wsX3_setWidth := goodIn_r _ [11, 7, 25, 26, 27] (by decide +kernel) (by decide +kernel)
set_option maxRecDepth 20000 in
theorem gX3_insertNode_X3_setWidth : GoodIn wsX3_insertNode (wsV RX3 63 RX3 yX3_setWidth wsX3_setWidth) := goodIn_app (goodIn_of _ (by decide +kernel)) ggX3_insertNode_X3_setWidth
set_option maxRecDepth 20000 in
theorem ggX3_insertNode_X3_load : GoodIn wsX3_insertNode wsX3_load := goodIn_r _ [15, 16, 17, 18, 19, 4, 20, 6, 7, 25, 26, 27] (by decide +kernel) (by decide +kernel)
set_option maxRecDepth 20000 in
theorem gX3_insertNode_X3_load : GoodIn wsX3_insertNode (wsV RX3 30 RX3 yX3_load wsX3_load) := goodIn_app (goodIn_of _ (by decide +kernel)) ggX3_insertNode_X3_load
set_option maxRecDepth 20000 in
theorem ggX3_insertNode_X3_setLoad : GoodIn wsX3_insertNode wsX3_setLoad := goodIn_r _ [24, 16, 17, 18, 19, 4, 20, 6, 7, 25, 26, 27] (by decide +kernel) (by decide +kernel)
set_option maxRecDepth 20000 in
theorem gX3_insertNode_X3_setLoad : GoodIn wsX3_insertNode (wsV RX3 48 RX3 yX3_setLoad wsX3_setLoad) := goodIn_app (goodIn_of _ (by decide +kernel)) ggX3_insertNode_X3_setLoad
theorem dX3_insertNode_0 : decode cX3_insertNode 0 = .ok (.aload_n 0, 1) := by decide +kernel
theorem dX3_insertNode_1 : decode cX3_insertNode 1 = .ok (.iload_n 1, 1) := by decide +kernel
theorem dX3_insertNode_2 : decode cX3_insertNode 2 = .ok (.invokevirtual 26, 3) := by decide +kernel
theorem dX3_insertNode_5 : decode cX3_insertNode 5 = .ok (.istore 4, 2) := by decide +kernel
theorem dX3_insertNode_7 : decode cX3_insertNode 7 = .ok (.iload 4, 2) := by decide +kernel
theorem dX3_insertNode_9 : decode cX3_insertNode 9 = .ok (.bipush 60, 2) := by decide +kernel
theorem dX3_insertNode_11 : decode cX3_insertNode 11 = .ok (.if_icmp .lt 4, 3) := by decide +kernel
theorem dX3_insertNode_14 : decode cX3_insertNode 14 = .ok (.return_, 1) := by decide +kernel
theorem dX3_insertNode_15 : decode cX3_insertNode 15 = .ok (.aload_n 0, 1) := by decide +kernel
theorem dX3_insertNode_16 : decode cX3_insertNode 16 = .ok (.iload_n 1, 1) := by decide +kernel
theorem dX3_insertNode_17 : decode cX3_insertNode 17 = .ok (.iload 4, 2) := by decide +kernel
theorem dX3_insertNode_19 : decode cX3_insertNode 19 = .ok (.iconst 1, 1) := by decide +kernel
theorem dX3_insertNode_20 : decode cX3_insertNode 20 = .ok (.iadd, 1) := by decide +kernel
theorem dX3_insertNode_21 : decode cX3_insertNode 21 = .ok (.invokevirtual 63, 3) := by decide +kernel
theorem dX3_insertNode_24 : decode cX3_insertNode 24 = .ok (.iload 4, 2) := by decide +kernel
theorem dX3_insertNode_26 : decode cX3_insertNode 26 = .ok (.istore 5, 2) := by decide +kernel
theorem dX3_insertNode_28 : decode cX3_insertNode 28 = .ok (.iload 5, 2) := by decide +kernel
theorem dX3_insertNode_30 : decode cX3_insertNode 30 = .ok (.iload_n 2, 1) := by decide +kernel
theorem dX3_insertNode_31 : decode cX3_insertNode 31 = .ok (.if_icmp .le 25, 3) := by decide +kernel
theorem dX3_insertNode_34 : decode cX3_insertNode 34 = .ok (.aload_n 0, 1) := by decide +kernel
theorem dX3_insertNode_35 : decode cX3_insertNode 35 = .ok (.iload_n 1, 1) := by decide +kernel
theorem dX3_insertNode_36 : decode cX3_insertNode 36 = .ok (.iload 5, 2) := by decide +kernel
theorem dX3_insertNode_38 : decode cX3_insertNode 38 = .ok (.aload_n 0, 1) := by decide +kernel
theorem dX3_insertNode_39 : decode cX3_insertNode 39 = .ok (.iload_n 1, 1) := by decide +kernel
theorem dX3_insertNode_40 : decode cX3_insertNode 40 = .ok (.iload 5, 2) := by decide +kernel
theorem dX3_insertNode_42 : decode cX3_insertNode 42 = .ok (.iconst 1, 1) := by decide +kernel
theorem dX3_insertNode_43 : decode cX3_insertNode 43 = .ok (.isub, 1) := by decide +kernel
theorem dX3_insertNode_44 : decode cX3_insertNode 44 = .ok (.invokevirtual 30, 3) := by decide +kernel
theorem dX3_insertNode_47 : decode cX3_insertNode 47 = .ok (.invokevirtual 48, 3) := by decide +kernel
theorem dX3_insertNode_50 : decode cX3_insertNode 50 = .ok (.iinc 5 (-1), 3) := by decide +kernel
theorem dX3_insertNode_53 : decode cX3_insertNode 53 = .ok (.goto (-25), 3) := by decide +kernel
theorem dX3_insertNode_56 : decode cX3_insertNode 56 = .ok (.aload_n 0, 1) := by decide +kernel
theorem dX3_insertNode_57 : decode cX3_insertNode 57 = .ok (.iload_n 1, 1) := by decide +kernel
theorem dX3_insertNode_58 : decode cX3_insertNode 58 = .ok (.iload_n 2, 1) := by decide +kernel
theorem dX3_insertNode_59 : decode cX3_insertNode 59 = .ok (.iload_n 3, 1) := by decide +kernel
theorem dX3_insertNode_60 : decode cX3_insertNode 60 = .ok (.invokevirtual 48, 3) := by decide +kernel
theorem dX3_insertNode_63 : decode cX3_insertNode 63 = .ok (.return_, 1) := by decide +kernel
set_option maxRecDepth 20000 in
theorem ggX3_deleteNode_X3_width : GoodIn wsX3_deleteNode wsX3_width := goodIn_r _ [9, 10, 11, 29, 30, 31] (by decide +kernel) (by decide +kernel)
set_option maxRecDepth 20000 in
theorem gX3_deleteNode_X3_width : GoodIn wsX3_deleteNode (wsV RX3 26 RX3 yX3_width wsX3_width) := goodIn_app (goodIn_of _ (by decide +kernel)) ggX3_deleteNode_X3_width
set_option maxRecDepth 20000 in
theorem ggX3_deleteNode_X3_load : GoodIn wsX3_deleteNode wsX3_load := goodIn_r _ [15, 16, 17, 18, 19, 8, 20, 10, 11, 29, 30, 31] (by decide +kernel) (by decide +kernel)
set_option maxRecDepth 20000 in
theorem gX3_deleteNode_X3_load : GoodIn wsX3_deleteNode (wsV RX3 30 RX3 yX3_load wsX3_load) := goodIn_app (goodIn_of _ (by decide +kernel)) ggX3_deleteNode_X3_load
set_option maxRecDepth 20000 in
theorem ggX3_deleteNode_X3_setLoad : GoodIn wsX3_deleteNode wsX3_setLoad := goodIn_r _ [24, 16, 17, 18, 19, 8, 20, 10, 11, 29, 30, 31] (by decide +kernel) (by decide +kernel)
set_option maxRecDepth 20000 in
theorem gX3_deleteNode_X3_setLoad : GoodIn wsX3_deleteNode (wsV RX3 48 RX3 yX3_setLoad wsX3_setLoad) := goodIn_app (goodIn_of _ (by decide +kernel)) ggX3_deleteNode_X3_setLoad
set_option maxRecDepth 20000 in
theorem ggX3_deleteNode_X3_setWidth : GoodIn wsX3_deleteNode wsX3_setWidth := goodIn_r _ [28, 11, 29, 30, 31] (by decide +kernel) (by decide +kernel)
set_option maxRecDepth 20000 in
theorem gX3_deleteNode_X3_setWidth : GoodIn wsX3_deleteNode (wsV RX3 63 RX3 yX3_setWidth wsX3_setWidth) := goodIn_app (goodIn_of _ (by decide +kernel)) ggX3_deleteNode_X3_setWidth
theorem dX3_deleteNode_0 : decode cX3_deleteNode 0 = .ok (.aload_n 0, 1) := by decide +kernel
theorem dX3_deleteNode_1 : decode cX3_deleteNode 1 = .ok (.iload_n 1, 1) := by decide +kernel
theorem dX3_deleteNode_2 : decode cX3_deleteNode 2 = .ok (.invokevirtual 26, 3) := by decide +kernel
theorem dX3_deleteNode_5 : decode cX3_deleteNode 5 = .ok (.istore_n 3, 1) := by decide +kernel
theorem dX3_deleteNode_6 : decode cX3_deleteNode 6 = .ok (.iload_n 2, 1) := by decide +kernel
theorem dX3_deleteNode_7 : decode cX3_deleteNode 7 = .ok (.istore 4, 2) := by decide +kernel
theorem dX3_deleteNode_9 : decode cX3_deleteNode 9 = .ok (.iload 4, 2) := by decide +kernel
theorem dX3_deleteNode_11 : decode cX3_deleteNode 11 = .ok (.iload_n 3, 1) := by decide +kernel
theorem dX3_deleteNode_12 : decode cX3_deleteNode 12 = .ok (.iconst 1, 1) := by decide +kernel
theorem dX3_deleteNode_13 : decode cX3_deleteNode 13 = .ok (.isub, 1) := by decide +kernel
theorem dX3_deleteNode_14 : decode cX3_deleteNode 14 = .ok (.if_icmp .ge 25, 3) := by decide +kernel
theorem dX3_deleteNode_17 : decode cX3_deleteNode 17 = .ok (.aload_n 0, 1) := by decide +kernel
theorem dX3_deleteNode_18 : decode cX3_deleteNode 18 = .ok (.iload_n 1, 1) := by decide +kernel
theorem dX3_deleteNode_19 : decode cX3_deleteNode 19 = .ok (.iload 4, 2) := by decide +kernel
theorem dX3_deleteNode_21 : decode cX3_deleteNode 21 = .ok (.aload_n 0, 1) := by decide +kernel
theorem dX3_deleteNode_22 : decode cX3_deleteNode 22 = .ok (.iload_n 1, 1) := by decide +kernel
theorem dX3_deleteNode_23 : decode cX3_deleteNode 23 = .ok (.iload 4, 2) := by decide +kernel
theorem dX3_deleteNode_25 : decode cX3_deleteNode 25 = .ok (.iconst 1, 1) := by decide +kernel
theorem dX3_deleteNode_26 : decode cX3_deleteNode 26 = .ok (.iadd, 1) := by decide +kernel
theorem dX3_deleteNode_27 : decode cX3_deleteNode 27 = .ok (.invokevirtual 30, 3) := by decide +kernel
theorem dX3_deleteNode_30 : decode cX3_deleteNode 30 = .ok (.invokevirtual 48, 3) := by decide +kernel
theorem dX3_deleteNode_33 : decode cX3_deleteNode 33 = .ok (.iinc 4 1, 3) := by decide +kernel
theorem dX3_deleteNode_36 : decode cX3_deleteNode 36 = .ok (.goto (-27), 3) := by decide +kernel
theorem dX3_deleteNode_39 : decode cX3_deleteNode 39 = .ok (.aload_n 0, 1) := by decide +kernel
theorem dX3_deleteNode_40 : decode cX3_deleteNode 40 = .ok (.iload_n 1, 1) := by decide +kernel
theorem dX3_deleteNode_41 : decode cX3_deleteNode 41 = .ok (.iconst 0, 1) := by decide +kernel
theorem dX3_deleteNode_42 : decode cX3_deleteNode 42 = .ok (.iload_n 3, 1) := by decide +kernel
theorem dX3_deleteNode_43 : decode cX3_deleteNode 43 = .ok (.iconst 1, 1) := by decide +kernel
theorem dX3_deleteNode_44 : decode cX3_deleteNode 44 = .ok (.isub, 1) := by decide +kernel
theorem dX3_deleteNode_45 : decode cX3_deleteNode 45 = .ok (.invokestatic 90, 3) := by decide +kernel
theorem dX3_deleteNode_48 : decode cX3_deleteNode 48 = .ok (.invokevirtual 63, 3) := by decide +kernel
theorem dX3_deleteNode_51 : decode cX3_deleteNode 51 = .ok (.return_, 1) := by decide +kernel
set_option maxRecDepth 20000 in
theorem ggX3_planAnew_X3_setWidth : GoodIn wsX3_planAnew wsX3_setWidth := goodIn_r _ [10, 11, 21, 22, 23] (by decide +kernel) (by decide +kernel)
set_option maxRecDepth 20000 in
theorem gX3_planAnew_X3_setWidth : GoodIn wsX3_planAnew (wsV RX3 63 RX3 yX3_setWidth wsX3_setWidth) := goodIn_app (goodIn_of _ (by decide +kernel)) ggX3_planAnew_X3_setWidth
set_option maxRecDepth 20000 in
theorem ggX3_planAnew_X3_setLoad : GoodIn wsX3_planAnew wsX3_setLoad := goodIn_r _ [15, 16, 17, 18, 19, 9, 20, 1, 11, 21, 22, 23] (by decide +kernel) (by decide +kernel)
set_option maxRecDepth 20000 in
theorem gX3_planAnew_X3_setLoad : GoodIn wsX3_planAnew (wsV RX3 48 RX3 yX3_setLoad wsX3_setLoad) := goodIn_app (goodIn_of _ (by decide +kernel)) ggX3_planAnew_X3_setLoad
theorem dX3_planAnew_0 : decode cX3_planAnew 0 = .ok (.aload_n 0, 1) := by decide +kernel
theorem dX3_planAnew_1 : decode cX3_planAnew 1 = .ok (.iconst 0, 1) := by decide +kernel
theorem dX3_planAnew_2 : decode cX3_planAnew 2 = .ok (.putfield 18, 3) := by decide +kernel
theorem dX3_planAnew_5 : decode cX3_planAnew 5 = .ok (.iload_n 1, 1) := by decide +kernel
theorem dX3_planAnew_6 : decode cX3_planAnew 6 = .ok (.istore_n 2, 1) := by decide +kernel
theorem dX3_planAnew_7 : decode cX3_planAnew 7 = .ok (.iconst 0, 1) := by decide +kernel
theorem dX3_planAnew_8 : decode cX3_planAnew 8 = .ok (.istore_n 3, 1) := by decide +kernel
theorem dX3_planAnew_9 : decode cX3_planAnew 9 = .ok (.iload_n 3, 1) := by decide +kernel
theorem dX3_planAnew_10 : decode cX3_planAnew 10 = .ok (.bipush 8, 2) := by decide +kernel
theorem dX3_planAnew_12 : decode cX3_planAnew 12 = .ok (.if_icmp .ge 82, 3) := by decide +kernel
theorem dX3_planAnew_15 : decode cX3_planAnew 15 = .ok (.iload_n 2, 1) := by decide +kernel
theorem dX3_planAnew_16 : decode cX3_planAnew 16 = .ok (.ifCond .le 78, 3) := by decide +kernel
theorem dX3_planAnew_19 : decode cX3_planAnew 19 = .ok (.iload_n 2, 1) := by decide +kernel
theorem dX3_planAnew_20 : decode cX3_planAnew 20 = .ok (.iconst 4, 1) := by decide +kernel
theorem dX3_planAnew_21 : decode cX3_planAnew 21 = .ok (.iadd, 1) := by decide +kernel
theorem dX3_planAnew_22 : decode cX3_planAnew 22 = .ok (.iconst 1, 1) := by decide +kernel
theorem dX3_planAnew_23 : decode cX3_planAnew 23 = .ok (.isub, 1) := by decide +kernel
theorem dX3_planAnew_24 : decode cX3_planAnew 24 = .ok (.iconst 4, 1) := by decide +kernel
theorem dX3_planAnew_25 : decode cX3_planAnew 25 = .ok (.idiv, 1) := by decide +kernel
theorem dX3_planAnew_26 : decode cX3_planAnew 26 = .ok (.istore 4, 2) := by decide +kernel
theorem dX3_planAnew_28 : decode cX3_planAnew 28 = .ok (.aload_n 0, 1) := by decide +kernel
theorem dX3_planAnew_29 : decode cX3_planAnew 29 = .ok (.iload_n 3, 1) := by decide +kernel
theorem dX3_planAnew_30 : decode cX3_planAnew 30 = .ok (.iconst 1, 1) := by decide +kernel
theorem dX3_planAnew_31 : decode cX3_planAnew 31 = .ok (.iadd, 1) := by decide +kernel
theorem dX3_planAnew_32 : decode cX3_planAnew 32 = .ok (.putfield 18, 3) := by decide +kernel
theorem dX3_planAnew_35 : decode cX3_planAnew 35 = .ok (.aload_n 0, 1) := by decide +kernel
theorem dX3_planAnew_36 : decode cX3_planAnew 36 = .ok (.iload_n 3, 1) := by decide +kernel
theorem dX3_planAnew_37 : decode cX3_planAnew 37 = .ok (.iload 4, 2) := by decide +kernel
theorem dX3_planAnew_39 : decode cX3_planAnew 39 = .ok (.invokevirtual 63, 3) := by decide +kernel
theorem dX3_planAnew_42 : decode cX3_planAnew 42 = .ok (.iconst 0, 1) := by decide +kernel
theorem dX3_planAnew_43 : decode cX3_planAnew 43 = .ok (.istore 5, 2) := by decide +kernel
theorem dX3_planAnew_45 : decode cX3_planAnew 45 = .ok (.iload 5, 2) := by decide +kernel
theorem dX3_planAnew_47 : decode cX3_planAnew 47 = .ok (.iload 4, 2) := by decide +kernel
theorem dX3_planAnew_49 : decode cX3_planAnew 49 = .ok (.if_icmp .ge 26, 3) := by decide +kernel
theorem dX3_planAnew_52 : decode cX3_planAnew 52 = .ok (.aload_n 0, 1) := by decide +kernel
theorem dX3_planAnew_53 : decode cX3_planAnew 53 = .ok (.iload_n 3, 1) := by decide +kernel
theorem dX3_planAnew_54 : decode cX3_planAnew 54 = .ok (.iload 5, 2) := by decide +kernel
theorem dX3_planAnew_56 : decode cX3_planAnew 56 = .ok (.iconst 4, 1) := by decide +kernel
theorem dX3_planAnew_57 : decode cX3_planAnew 57 = .ok (.iload_n 2, 1) := by decide +kernel
theorem dX3_planAnew_58 : decode cX3_planAnew 58 = .ok (.iload 5, 2) := by decide +kernel
theorem dX3_planAnew_60 : decode cX3_planAnew 60 = .ok (.iconst 4, 1) := by decide +kernel
theorem dX3_planAnew_61 : decode cX3_planAnew 61 = .ok (.imul, 1) := by decide +kernel
theorem dX3_planAnew_62 : decode cX3_planAnew 62 = .ok (.isub, 1) := by decide +kernel
theorem dX3_planAnew_63 : decode cX3_planAnew 63 = .ok (.invokestatic 73, 3) := by decide +kernel
theorem dX3_planAnew_66 : decode cX3_planAnew 66 = .ok (.invokevirtual 48, 3) := by decide +kernel
theorem dX3_planAnew_69 : decode cX3_planAnew 69 = .ok (.iinc 5 1, 3) := by decide +kernel
theorem dX3_planAnew_72 : decode cX3_planAnew 72 = .ok (.goto (-27), 3) := by decide +kernel
theorem dX3_planAnew_75 : decode cX3_planAnew 75 = .ok (.iload 4, 2) := by decide +kernel
theorem dX3_planAnew_77 : decode cX3_planAnew 77 = .ok (.iconst 1, 1) := by decide +kernel
theorem dX3_planAnew_78 : decode cX3_planAnew 78 = .ok (.if_icmp .le 8, 3) := by decide +kernel
theorem dX3_planAnew_81 : decode cX3_planAnew 81 = .ok (.iload 4, 2) := by decide +kernel
theorem dX3_planAnew_83 : decode cX3_planAnew 83 = .ok (.goto 4, 3) := by decide +kernel
theorem dX3_planAnew_86 : decode cX3_planAnew 86 = .ok (.iconst 0, 1) := by decide +kernel
theorem dX3_planAnew_87 : decode cX3_planAnew 87 = .ok (.istore_n 2, 1) := by decide +kernel
theorem dX3_planAnew_88 : decode cX3_planAnew 88 = .ok (.iinc 3 1, 3) := by decide +kernel
theorem dX3_planAnew_91 : decode cX3_planAnew 91 = .ok (.goto (-82), 3) := by decide +kernel
theorem dX3_planAnew_94 : decode cX3_planAnew 94 = .ok (.return_, 1) := by decide +kernel
set_option maxRecDepth 20000 in
theorem ggX4_init_X2_init : GoodIn wsX4_init wsX2_init := goodIn_r _ [15, 16, 2, 3, 4, 17, 18, 19, 20, 21, 30, 31, 32, 33, 34, 35] (by decide +kernel) (by decide +kernel)
set_option maxRecDepth 20000 in
theorem gX4_init_X2_init_n15 : GoodIn wsX4_init (wsX2_init) := ggX4_init_X2_init
set_option maxRecDepth 20000 in
theorem ggX4_init_X3_init : GoodIn wsX4_init wsX3_init := goodIn_r _ [23, 24, 2, 3, 4, 25, 26, 36, 37, 38] (by decide +kernel) (by decide +kernel)
set_option maxRecDepth 20000 in
theorem gX4_init_X3_init_n22 : GoodIn wsX4_init (wsX3_init) := ggX4_init_X3_init
theorem dX4_init_0 : decode cX4_init 0 = .ok (.aload_n 0, 1) := by decide +kernel
theorem dX4_init_1 : decode cX4_init 1 = .ok (.invokespecial 1, 3) := by decide +kernel
theorem dX4_init_4 : decode cX4_init 4 = .ok (.aload_n 0, 1) := by decide +kernel
theorem dX4_init_5 : decode cX4_init 5 = .ok (.bipush 60, 2) := by decide +kernel
theorem dX4_init_7 : decode cX4_init 7 = .ok (.newarray .int, 2) := by decide +kernel
theorem dX4_init_9 : decode cX4_init 9 = .ok (.putfield 9, 3) := by decide +kernel
theorem dX4_init_12 : decode cX4_init 12 = .ok (.aload_n 0, 1) := by decide +kernel
theorem dX4_init_13 : decode cX4_init 13 = .ok (.new 13, 3) := by decide +kernel
theorem dX4_init_16 : decode cX4_init 16 = .ok (.dup, 1) := by decide +kernel
theorem dX4_init_17 : decode cX4_init 17 = .ok (.invokespecial 15, 3) := by decide +kernel
theorem dX4_init_20 : decode cX4_init 20 = .ok (.putfield 16, 3) := by decide +kernel
theorem dX4_init_23 : decode cX4_init 23 = .ok (.aload_n 0, 1) := by decide +kernel
theorem dX4_init_24 : decode cX4_init 24 = .ok (.new 20, 3) := by decide +kernel
theorem dX4_init_27 : decode cX4_init 27 = .ok (.dup, 1) := by decide +kernel
theorem dX4_init_28 : decode cX4_init 28 = .ok (.invokespecial 22, 3) := by decide +kernel
theorem dX4_init_31 : decode cX4_init 31 = .ok (.putfield 23, 3) := by decide +kernel
theorem dX4_init_34 : decode cX4_init 34 = .ok (.return_, 1) := by decide +kernel
set_option maxRecDepth 20000 in
theorem ggX4_add_X4_checkSides : GoodIn wsX4_add wsX4_checkSides := goodIn_ca (goodIn_r _ [8, 9, 10, 11, 12, 7, 13] (by decide +kernel) (by decide +kernel)) (goodIn_sub (fun _ h => List.mem_cons_of_mem _ (List.mem_append_right _ h)) (by decide +kernel))
set_option maxRecDepth 20000 in
theorem gX4_add_X4_checkSides : GoodIn wsX4_add (va_wsS RX4 27 yX4_checkSides wsX4_checkSides) := goodIn_app (goodIn_of _ (by decide +kernel)) ggX4_add_X4_checkSides
set_option maxRecDepth 20000 in
theorem ggX4_add_X2_hasRoom : GoodIn wsX4_add wsX2_hasRoom := goodIn_r _ [18, 19, 20, 141, 142, 143, 144, 145, 146] (by decide +kernel) (by decide +kernel)
set_option maxRecDepth 20000 in
theorem gX4_add_X2_hasRoom : GoodIn wsX4_add (wsV RX4 31 RX2 yX2_hasRoom wsX2_hasRoom) := goodIn_app (goodIn_of _ (by decide +kernel)) ggX4_add_X2_hasRoom
set_option maxRecDepth 20000 in
theorem ggX4_add_X0_of : GoodIn wsX4_add wsX0_of := goodIn_r _ [24] (by decide +kernel) (by decide +kernel)
set_option maxRecDepth 20000 in
theorem gX4_add_X0_of : GoodIn wsX4_add (va_wsS RX4 42 yX0_of wsX0_of) := goodIn_app (goodIn_of _ (by decide +kernel)) ggX4_add_X0_of
set_option maxRecDepth 20000 in
theorem ggX4_add_X2_putIn : GoodIn wsX4_add wsX2_putIn := goodIn_r _ [28, 19, 29, 30, 31, 32, 33, 23, 34, 35, 36, 37, 38, 39, 40, 41, 42, 43, 44, 45, 46, 47, 17, 48, 20, 49, 50, 51, 52, 53, 54, 55, 56, 57, 58, 59, 60, 61, 141, 142, 143, 144, 145, 146] (by decide +kernel) (by decide +kernel)
set_option maxRecDepth 20000 in
theorem gX4_add_X2_putIn : GoodIn wsX4_add (wsV RX4 48 RX2 yX2_putIn wsX2_putIn) := goodIn_app (goodIn_of _ (by decide +kernel)) ggX4_add_X2_putIn
set_option maxRecDepth 20000 in
theorem ggX4_add_X2_placeOf : GoodIn wsX4_add wsX2_placeOf := goodIn_r _ [65, 20, 49, 50, 51, 17, 52, 53, 141, 142, 143, 144, 145, 146] (by decide +kernel) (by decide +kernel)
set_option maxRecDepth 20000 in
theorem gX4_add_X2_placeOf : GoodIn wsX4_add (wsV RX4 52 RX2 yX2_placeOf wsX2_placeOf) := goodIn_app (goodIn_of _ (by decide +kernel)) ggX4_add_X2_placeOf
set_option maxRecDepth 20000 in
theorem ggX4_add_X3_grow : GoodIn wsX4_add wsX3_grow := goodIn_r _ [70, 71, 72, 73, 74, 69, 75, 76, 77, 78, 79, 80, 81, 82, 83, 84, 85, 86, 87, 88, 89, 90, 91, 92, 93, 94, 95, 96, 97, 98, 99, 100, 101, 102, 103, 104, 105, 106, 107, 108, 109, 110, 111, 112, 113, 114, 115, 116, 117, 118, 119, 120, 121, 122, 123, 124, 125, 126, 127, 128, 129, 130, 131, 132, 133, 134, 135, 136, 137, 147, 148, 149] (by decide +kernel) (by decide +kernel)
set_option maxRecDepth 20000 in
theorem gX4_add_X3_grow : GoodIn wsX4_add (wsV RX4 55 RX3 yX3_grow wsX3_grow) := goodIn_app (goodIn_of _ (by decide +kernel)) ggX4_add_X3_grow
theorem dX4_add_0 : decode cX4_add 0 = .ok (.iload_n 1, 1) := by decide +kernel
theorem dX4_add_1 : decode cX4_add 1 = .ok (.iload_n 2, 1) := by decide +kernel
theorem dX4_add_2 : decode cX4_add 2 = .ok (.iload_n 3, 1) := by decide +kernel
theorem dX4_add_3 : decode cX4_add 3 = .ok (.iload 4, 2) := by decide +kernel
theorem dX4_add_5 : decode cX4_add 5 = .ok (.invokestatic 27, 3) := by decide +kernel
theorem dX4_add_8 : decode cX4_add 8 = .ok (.aload_n 0, 1) := by decide +kernel
theorem dX4_add_9 : decode cX4_add 9 = .ok (.getfield 16, 3) := by decide +kernel
theorem dX4_add_12 : decode cX4_add 12 = .ok (.invokevirtual 31, 3) := by decide +kernel
theorem dX4_add_15 : decode cX4_add 15 = .ok (.ifCond .ne 13, 3) := by decide +kernel
theorem dX4_add_18 : decode cX4_add 18 = .ok (.new 35, 3) := by decide +kernel
theorem dX4_add_21 : decode cX4_add 21 = .ok (.dup, 1) := by decide +kernel
theorem dX4_add_22 : decode cX4_add 22 = .ok (.ldc 37, 2) := by decide +kernel
theorem dX4_add_24 : decode cX4_add 24 = .ok (.invokespecial 39, 3) := by decide +kernel
theorem dX4_add_27 : decode cX4_add 27 = .ok (.athrow, 1) := by decide +kernel
theorem dX4_add_28 : decode cX4_add 28 = .ok (.aload_n 0, 1) := by decide +kernel
theorem dX4_add_29 : decode cX4_add 29 = .ok (.getfield 16, 3) := by decide +kernel
theorem dX4_add_32 : decode cX4_add 32 = .ok (.iload_n 1, 1) := by decide +kernel
theorem dX4_add_33 : decode cX4_add 33 = .ok (.iload_n 2, 1) := by decide +kernel
theorem dX4_add_34 : decode cX4_add 34 = .ok (.iload_n 3, 1) := by decide +kernel
theorem dX4_add_35 : decode cX4_add 35 = .ok (.iload 4, 2) := by decide +kernel
theorem dX4_add_37 : decode cX4_add 37 = .ok (.invokestatic 42, 3) := by decide +kernel
theorem dX4_add_40 : decode cX4_add 40 = .ok (.invokevirtual 48, 3) := by decide +kernel
theorem dX4_add_43 : decode cX4_add 43 = .ok (.istore 5, 2) := by decide +kernel
theorem dX4_add_45 : decode cX4_add 45 = .ok (.aload_n 0, 1) := by decide +kernel
theorem dX4_add_46 : decode cX4_add 46 = .ok (.getfield 23, 3) := by decide +kernel
theorem dX4_add_49 : decode cX4_add 49 = .ok (.aload_n 0, 1) := by decide +kernel
theorem dX4_add_50 : decode cX4_add 50 = .ok (.getfield 16, 3) := by decide +kernel
theorem dX4_add_53 : decode cX4_add 53 = .ok (.iload 5, 2) := by decide +kernel
theorem dX4_add_55 : decode cX4_add 55 = .ok (.invokevirtual 52, 3) := by decide +kernel
theorem dX4_add_58 : decode cX4_add 58 = .ok (.invokevirtual 55, 3) := by decide +kernel
theorem dX4_add_61 : decode cX4_add 61 = .ok (.iload 5, 2) := by decide +kernel
theorem dX4_add_63 : decode cX4_add 63 = .ok (.ireturn, 1) := by decide +kernel
set_option maxRecDepth 20000 in
theorem ggX4_remove_X4_checkBox : GoodIn wsX4_remove wsX4_checkBox := goodIn_ca (goodIn_r _ [7, 8, 9, 2, 10, 11, 12, 13, 14, 15, 111, 112, 113, 114, 115, 116, 117, 118, 119] (by decide +kernel) (by decide +kernel)) (goodIn_sub (fun _ h => List.mem_cons_of_mem _ (List.mem_append_right _ h)) (by decide +kernel))
set_option maxRecDepth 20000 in
theorem gX4_remove_X4_checkBox : GoodIn wsX4_remove (wsV RX4 59 RX4 yX4_checkBox wsX4_checkBox) := goodIn_app (goodIn_of _ (by decide +kernel)) ggX4_remove_X4_checkBox
set_option maxRecDepth 20000 in
theorem ggX4_remove_X2_placeOf : GoodIn wsX4_remove wsX2_placeOf := goodIn_r _ [19, 20, 21, 22, 23, 13, 24, 25, 114, 115, 116, 117, 118, 119] (by decide +kernel) (by decide +kernel)
set_option maxRecDepth 20000 in
theorem gX4_remove_X2_placeOf : GoodIn wsX4_remove (wsV RX4 52 RX2 yX2_placeOf wsX2_placeOf) := goodIn_app (goodIn_of _ (by decide +kernel)) ggX4_remove_X2_placeOf
set_option maxRecDepth 20000 in
theorem ggX4_remove_X3_shrink : GoodIn wsX4_remove wsX3_shrink := goodIn_r _ [30, 31, 32, 33, 34, 29, 35, 36, 37, 38, 39, 40, 41, 42, 43, 44, 45, 46, 47, 48, 49, 50, 51, 52, 53, 54, 55, 56, 57, 58, 59, 60, 61, 62, 63, 64, 65, 66, 67, 68, 69, 70, 71, 72, 73, 74, 75, 76, 77, 78, 79, 80, 81, 82, 83, 84, 85, 86, 87, 88, 89, 90, 91, 92, 93, 94, 95, 96, 120, 121, 122] (by decide +kernel) (by decide +kernel)
set_option maxRecDepth 20000 in
theorem gX4_remove_X3_shrink : GoodIn wsX4_remove (wsV RX4 62 RX3 yX3_shrink wsX3_shrink) := goodIn_app (goodIn_of _ (by decide +kernel)) ggX4_remove_X3_shrink
set_option maxRecDepth 20000 in
theorem ggX4_remove_X2_takeOut : GoodIn wsX4_remove wsX2_takeOut := goodIn_r _ [100, 15, 20, 101, 17, 18, 13, 19, 21, 22, 23, 24, 25, 102, 11, 12, 14, 103, 104, 105, 106, 114, 115, 116, 117, 118, 119] (by decide +kernel) (by decide +kernel)
set_option maxRecDepth 20000 in
theorem gX4_remove_X2_takeOut : GoodIn wsX4_remove (wsV RX4 65 RX2 yX2_takeOut wsX2_takeOut) := goodIn_app (goodIn_of _ (by decide +kernel)) ggX4_remove_X2_takeOut
set_option maxRecDepth 20000 in
theorem ggX4_remove_X2_size : GoodIn wsX4_remove wsX2_size := goodIn_r _ [110, 20, 114, 115, 116, 117, 118, 119] (by decide +kernel) (by decide +kernel)
set_option maxRecDepth 20000 in
theorem gX4_remove_X2_size : GoodIn wsX4_remove (wsV RX4 68 RX2 yX2_size wsX2_size) := goodIn_app (goodIn_of _ (by decide +kernel)) ggX4_remove_X2_size
theorem dX4_remove_0 : decode cX4_remove 0 = .ok (.aload_n 0, 1) := by decide +kernel
theorem dX4_remove_1 : decode cX4_remove 1 = .ok (.iload_n 1, 1) := by decide +kernel
theorem dX4_remove_2 : decode cX4_remove 2 = .ok (.invokevirtual 59, 3) := by decide +kernel
theorem dX4_remove_5 : decode cX4_remove 5 = .ok (.aload_n 0, 1) := by decide +kernel
theorem dX4_remove_6 : decode cX4_remove 6 = .ok (.getfield 23, 3) := by decide +kernel
theorem dX4_remove_9 : decode cX4_remove 9 = .ok (.aload_n 0, 1) := by decide +kernel
theorem dX4_remove_10 : decode cX4_remove 10 = .ok (.getfield 16, 3) := by decide +kernel
theorem dX4_remove_13 : decode cX4_remove 13 = .ok (.iload_n 1, 1) := by decide +kernel
theorem dX4_remove_14 : decode cX4_remove 14 = .ok (.invokevirtual 52, 3) := by decide +kernel
theorem dX4_remove_17 : decode cX4_remove 17 = .ok (.invokevirtual 62, 3) := by decide +kernel
theorem dX4_remove_20 : decode cX4_remove 20 = .ok (.aload_n 0, 1) := by decide +kernel
theorem dX4_remove_21 : decode cX4_remove 21 = .ok (.getfield 16, 3) := by decide +kernel
theorem dX4_remove_24 : decode cX4_remove 24 = .ok (.iload_n 1, 1) := by decide +kernel
theorem dX4_remove_25 : decode cX4_remove 25 = .ok (.invokevirtual 65, 3) := by decide +kernel
theorem dX4_remove_28 : decode cX4_remove 28 = .ok (.aload_n 0, 1) := by decide +kernel
theorem dX4_remove_29 : decode cX4_remove 29 = .ok (.getfield 16, 3) := by decide +kernel
theorem dX4_remove_32 : decode cX4_remove 32 = .ok (.invokevirtual 68, 3) := by decide +kernel
theorem dX4_remove_35 : decode cX4_remove 35 = .ok (.ireturn, 1) := by decide +kernel
set_option maxRecDepth 20000 in
theorem ggX4_pack_X2_size : GoodIn wsX4_pack wsX2_size := goodIn_r _ [7, 8, 40, 41, 42, 43, 44, 45] (by decide +kernel) (by decide +kernel)
set_option maxRecDepth 20000 in
theorem gX4_pack_X2_size : GoodIn wsX4_pack (wsV RX4 68 RX2 yX2_size wsX2_size) := goodIn_app (goodIn_of _ (by decide +kernel)) ggX4_pack_X2_size
set_option maxRecDepth 20000 in
theorem ggX4_pack_X3_planAnew : GoodIn wsX4_pack wsX3_planAnew := goodIn_r _ [13, 14, 15, 16, 17, 18, 19, 20, 21, 12, 22, 23, 24, 25, 26, 27, 28, 29, 30, 31, 32, 46, 47, 48] (by decide +kernel) (by decide +kernel)
set_option maxRecDepth 20000 in
theorem gX4_pack_X3_planAnew : GoodIn wsX4_pack (wsV RX4 72 RX3 yX3_planAnew wsX3_planAnew) := goodIn_app (goodIn_of _ (by decide +kernel)) ggX4_pack_X3_planAnew
set_option maxRecDepth 20000 in
theorem ggX4_pack_X3_width : GoodIn wsX4_pack wsX3_width := goodIn_r _ [36, 14, 23, 46, 47, 48] (by decide +kernel) (by decide +kernel)
set_option maxRecDepth 20000 in
theorem gX4_pack_X3_width : GoodIn wsX4_pack (wsV RX4 75 RX3 yX3_width wsX3_width) := goodIn_app (goodIn_of _ (by decide +kernel)) ggX4_pack_X3_width
theorem dX4_pack_0 : decode cX4_pack 0 = .ok (.aload_n 0, 1) := by decide +kernel
theorem dX4_pack_1 : decode cX4_pack 1 = .ok (.getfield 23, 3) := by decide +kernel
theorem dX4_pack_4 : decode cX4_pack 4 = .ok (.aload_n 0, 1) := by decide +kernel
theorem dX4_pack_5 : decode cX4_pack 5 = .ok (.getfield 16, 3) := by decide +kernel
theorem dX4_pack_8 : decode cX4_pack 8 = .ok (.invokevirtual 68, 3) := by decide +kernel
theorem dX4_pack_11 : decode cX4_pack 11 = .ok (.invokevirtual 72, 3) := by decide +kernel
theorem dX4_pack_14 : decode cX4_pack 14 = .ok (.aload_n 0, 1) := by decide +kernel
theorem dX4_pack_15 : decode cX4_pack 15 = .ok (.getfield 23, 3) := by decide +kernel
theorem dX4_pack_18 : decode cX4_pack 18 = .ok (.iconst 0, 1) := by decide +kernel
theorem dX4_pack_19 : decode cX4_pack 19 = .ok (.invokevirtual 75, 3) := by decide +kernel
theorem dX4_pack_22 : decode cX4_pack 22 = .ok (.ireturn, 1) := by decide +kernel
set_option maxRecDepth 20000 in
theorem ggX4_boxes_X2_size : GoodIn wsX4_boxes wsX2_size := goodIn_r _ [6, 7, 11, 12, 13, 14, 15, 16] (by decide +kernel) (by decide +kernel)
set_option maxRecDepth 20000 in
theorem gX4_boxes_X2_size : GoodIn wsX4_boxes (wsV RX4 68 RX2 yX2_size wsX2_size) := goodIn_app (goodIn_of _ (by decide +kernel)) ggX4_boxes_X2_size
theorem dX4_boxes_0 : decode cX4_boxes 0 = .ok (.aload_n 0, 1) := by decide +kernel
theorem dX4_boxes_1 : decode cX4_boxes 1 = .ok (.getfield 16, 3) := by decide +kernel
theorem dX4_boxes_4 : decode cX4_boxes 4 = .ok (.invokevirtual 68, 3) := by decide +kernel
theorem dX4_boxes_7 : decode cX4_boxes 7 = .ok (.ireturn, 1) := by decide +kernel
set_option maxRecDepth 20000 in
theorem ggX4_key_X4_checkPoint : GoodIn wsX4_key wsX4_checkPoint := goodIn_ca (goodIn_r _ [4, 5, 6, 7, 8, 3, 9] (by decide +kernel) (by decide +kernel)) (goodIn_sub (fun _ h => List.mem_cons_of_mem _ (List.mem_append_right _ h)) (by decide +kernel))
set_option maxRecDepth 20000 in
theorem gX4_key_X4_checkPoint : GoodIn wsX4_key (va_wsS RX4 78 yX4_checkPoint wsX4_checkPoint) := goodIn_app (goodIn_of _ (by decide +kernel)) ggX4_key_X4_checkPoint
set_option maxRecDepth 20000 in
theorem ggX4_key_X1_lengthTo : GoodIn wsX4_key wsX1_lengthTo := goodIn_r _ [13, 14, 15, 12, 16] (by decide +kernel) (by decide +kernel)
set_option maxRecDepth 20000 in
theorem gX4_key_X1_lengthTo : GoodIn wsX4_key (va_wsS RX4 82 yX1_lengthTo wsX1_lengthTo) := goodIn_app (goodIn_of _ (by decide +kernel)) ggX4_key_X1_lengthTo
theorem dX4_key_0 : decode cX4_key 0 = .ok (.iload_n 1, 1) := by decide +kernel
theorem dX4_key_1 : decode cX4_key 1 = .ok (.iload_n 2, 1) := by decide +kernel
theorem dX4_key_2 : decode cX4_key 2 = .ok (.invokestatic 78, 3) := by decide +kernel
theorem dX4_key_5 : decode cX4_key 5 = .ok (.iload_n 1, 1) := by decide +kernel
theorem dX4_key_6 : decode cX4_key 6 = .ok (.iload_n 2, 1) := by decide +kernel
theorem dX4_key_7 : decode cX4_key 7 = .ok (.invokestatic 82, 3) := by decide +kernel
theorem dX4_key_10 : decode cX4_key 10 = .ok (.ireturn, 1) := by decide +kernel
set_option maxRecDepth 20000 in
theorem ggX4_keyOf_X4_checkBox : GoodIn wsX4_keyOf wsX4_checkBox := goodIn_ca (goodIn_r _ [6, 7, 8, 1, 9, 10, 11, 12, 13, 14, 20, 21, 22, 23, 24, 25, 26, 27, 28] (by decide +kernel) (by decide +kernel)) (goodIn_sub (fun _ h => List.mem_cons_of_mem _ (List.mem_append_right _ h)) (by decide +kernel))
set_option maxRecDepth 20000 in
theorem gX4_keyOf_X4_checkBox : GoodIn wsX4_keyOf (wsV RX4 59 RX4 yX4_checkBox wsX4_checkBox) := goodIn_app (goodIn_of _ (by decide +kernel)) ggX4_keyOf_X4_checkBox
set_option maxRecDepth 20000 in
theorem ggX4_keyOf_X2_keyFor : GoodIn wsX4_keyOf wsX2_keyFor := goodIn_r _ [18, 19, 23, 24, 25, 26, 27, 28] (by decide +kernel) (by decide +kernel)
set_option maxRecDepth 20000 in
theorem gX4_keyOf_X2_keyFor : GoodIn wsX4_keyOf (wsV RX4 88 RX2 yX2_keyFor wsX2_keyFor) := goodIn_app (goodIn_of _ (by decide +kernel)) ggX4_keyOf_X2_keyFor
theorem dX4_keyOf_0 : decode cX4_keyOf 0 = .ok (.aload_n 0, 1) := by decide +kernel
theorem dX4_keyOf_1 : decode cX4_keyOf 1 = .ok (.iload_n 1, 1) := by decide +kernel
theorem dX4_keyOf_2 : decode cX4_keyOf 2 = .ok (.invokevirtual 59, 3) := by decide +kernel
theorem dX4_keyOf_5 : decode cX4_keyOf 5 = .ok (.aload_n 0, 1) := by decide +kernel
theorem dX4_keyOf_6 : decode cX4_keyOf 6 = .ok (.getfield 16, 3) := by decide +kernel
theorem dX4_keyOf_9 : decode cX4_keyOf 9 = .ok (.iload_n 1, 1) := by decide +kernel
theorem dX4_keyOf_10 : decode cX4_keyOf 10 = .ok (.invokevirtual 88, 3) := by decide +kernel
theorem dX4_keyOf_13 : decode cX4_keyOf 13 = .ok (.ireturn, 1) := by decide +kernel
set_option maxRecDepth 20000 in
theorem ggX4_sideOf_X4_checkSide : GoodIn wsX4_sideOf wsX4_checkSide := goodIn_ca (goodIn_r _ [5, 6, 7] (by decide +kernel) (by decide +kernel)) (goodIn_sub (fun _ h => List.mem_cons_of_mem _ (List.mem_append_left _ (List.mem_append_right _ h))) (by decide +kernel))
set_option maxRecDepth 20000 in
theorem gX4_sideOf_X4_checkSide : GoodIn wsX4_sideOf (va_wsS RX4 91 yX4_checkSide wsX4_checkSide) := goodIn_app (goodIn_of _ (by decide +kernel)) ggX4_sideOf_X4_checkSide
set_option maxRecDepth 20000 in
theorem ggX4_sideOf_X4_checkBox : GoodIn wsX4_sideOf wsX4_checkBox := goodIn_ca (goodIn_r _ [11, 12, 13, 1, 14, 15, 16, 17, 18, 19, 29, 30, 31, 32, 33, 34, 35, 36, 37] (by decide +kernel) (by decide +kernel)) (goodIn_sub (fun _ h => List.mem_cons_of_mem _ (List.mem_append_right _ h)) (by decide +kernel))
set_option maxRecDepth 20000 in
theorem gX4_sideOf_X4_checkBox : GoodIn wsX4_sideOf (wsV RX4 59 RX4 yX4_checkBox wsX4_checkBox) := goodIn_app (goodIn_of _ (by decide +kernel)) ggX4_sideOf_X4_checkBox
set_option maxRecDepth 20000 in
theorem ggX4_sideOf_X2_areaOf : GoodIn wsX4_sideOf wsX2_areaOf := goodIn_r _ [23, 24, 32, 33, 34, 35, 36, 37] (by decide +kernel) (by decide +kernel)
set_option maxRecDepth 20000 in
theorem gX4_sideOf_X2_areaOf : GoodIn wsX4_sideOf (wsV RX4 94 RX2 yX2_areaOf wsX2_areaOf) := goodIn_app (goodIn_of _ (by decide +kernel)) ggX4_sideOf_X2_areaOf
set_option maxRecDepth 20000 in
theorem ggX4_sideOf_X0_side : GoodIn wsX4_sideOf wsX0_side := goodIn_r _ [28] (by decide +kernel) (by decide +kernel)
set_option maxRecDepth 20000 in
theorem gX4_sideOf_X0_side : GoodIn wsX4_sideOf (va_wsS RX4 97 yX0_side wsX0_side) := goodIn_app (goodIn_of _ (by decide +kernel)) ggX4_sideOf_X0_side
theorem dX4_sideOf_0 : decode cX4_sideOf 0 = .ok (.iload_n 2, 1) := by decide +kernel
theorem dX4_sideOf_1 : decode cX4_sideOf 1 = .ok (.invokestatic 91, 3) := by decide +kernel
theorem dX4_sideOf_4 : decode cX4_sideOf 4 = .ok (.aload_n 0, 1) := by decide +kernel
theorem dX4_sideOf_5 : decode cX4_sideOf 5 = .ok (.iload_n 1, 1) := by decide +kernel
theorem dX4_sideOf_6 : decode cX4_sideOf 6 = .ok (.invokevirtual 59, 3) := by decide +kernel
theorem dX4_sideOf_9 : decode cX4_sideOf 9 = .ok (.aload_n 0, 1) := by decide +kernel
theorem dX4_sideOf_10 : decode cX4_sideOf 10 = .ok (.getfield 16, 3) := by decide +kernel
theorem dX4_sideOf_13 : decode cX4_sideOf 13 = .ok (.iload_n 1, 1) := by decide +kernel
theorem dX4_sideOf_14 : decode cX4_sideOf 14 = .ok (.invokevirtual 94, 3) := by decide +kernel
theorem dX4_sideOf_17 : decode cX4_sideOf 17 = .ok (.iload_n 2, 1) := by decide +kernel
theorem dX4_sideOf_18 : decode cX4_sideOf 18 = .ok (.invokestatic 97, 3) := by decide +kernel
theorem dX4_sideOf_21 : decode cX4_sideOf 21 = .ok (.ireturn, 1) := by decide +kernel
set_option maxRecDepth 20000 in
theorem ggX4_levels_X3_height : GoodIn wsX4_levels wsX3_height := goodIn_r _ [6, 7, 11, 12, 13] (by decide +kernel) (by decide +kernel)
set_option maxRecDepth 20000 in
theorem gX4_levels_X3_height : GoodIn wsX4_levels (wsV RX4 100 RX3 yX3_height wsX3_height) := goodIn_app (goodIn_of _ (by decide +kernel)) ggX4_levels_X3_height
theorem dX4_levels_0 : decode cX4_levels 0 = .ok (.aload_n 0, 1) := by decide +kernel
theorem dX4_levels_1 : decode cX4_levels 1 = .ok (.getfield 23, 3) := by decide +kernel
theorem dX4_levels_4 : decode cX4_levels 4 = .ok (.invokevirtual 100, 3) := by decide +kernel
theorem dX4_levels_7 : decode cX4_levels 7 = .ok (.ireturn, 1) := by decide +kernel
set_option maxRecDepth 20000 in
theorem ggX4_nodes_X3_hasLevel : GoodIn wsX4_nodes wsX3_hasLevel := goodIn_r _ [8, 9, 18, 19, 20] (by decide +kernel) (by decide +kernel)
set_option maxRecDepth 20000 in
theorem gX4_nodes_X3_hasLevel : GoodIn wsX4_nodes (wsV RX4 103 RX3 yX3_hasLevel wsX3_hasLevel) := goodIn_app (goodIn_of _ (by decide +kernel)) ggX4_nodes_X3_hasLevel
set_option maxRecDepth 20000 in
theorem ggX4_nodes_X3_width : GoodIn wsX4_nodes wsX3_width := goodIn_r _ [13, 9, 14, 18, 19, 20] (by decide +kernel) (by decide +kernel)
set_option maxRecDepth 20000 in
theorem gX4_nodes_X3_width : GoodIn wsX4_nodes (wsV RX4 75 RX3 yX3_width wsX3_width) := goodIn_app (goodIn_of _ (by decide +kernel)) ggX4_nodes_X3_width
theorem dX4_nodes_0 : decode cX4_nodes 0 = .ok (.aload_n 0, 1) := by decide +kernel
theorem dX4_nodes_1 : decode cX4_nodes 1 = .ok (.getfield 23, 3) := by decide +kernel
theorem dX4_nodes_4 : decode cX4_nodes 4 = .ok (.iload_n 1, 1) := by decide +kernel
theorem dX4_nodes_5 : decode cX4_nodes 5 = .ok (.invokevirtual 103, 3) := by decide +kernel
theorem dX4_nodes_8 : decode cX4_nodes 8 = .ok (.ifCond .ne 13, 3) := by decide +kernel
theorem dX4_nodes_11 : decode cX4_nodes 11 = .ok (.new 107, 3) := by decide +kernel
theorem dX4_nodes_14 : decode cX4_nodes 14 = .ok (.dup, 1) := by decide +kernel
theorem dX4_nodes_15 : decode cX4_nodes 15 = .ok (.ldc 109, 2) := by decide +kernel
theorem dX4_nodes_17 : decode cX4_nodes 17 = .ok (.invokespecial 111, 3) := by decide +kernel
theorem dX4_nodes_20 : decode cX4_nodes 20 = .ok (.athrow, 1) := by decide +kernel
theorem dX4_nodes_21 : decode cX4_nodes 21 = .ok (.aload_n 0, 1) := by decide +kernel
theorem dX4_nodes_22 : decode cX4_nodes 22 = .ok (.getfield 23, 3) := by decide +kernel
theorem dX4_nodes_25 : decode cX4_nodes 25 = .ok (.iload_n 1, 1) := by decide +kernel
theorem dX4_nodes_26 : decode cX4_nodes 26 = .ok (.invokevirtual 75, 3) := by decide +kernel
theorem dX4_nodes_29 : decode cX4_nodes 29 = .ok (.ireturn, 1) := by decide +kernel
set_option maxRecDepth 20000 in
theorem ggX4_entries_X4_checkNode : GoodIn wsX4_entries wsX4_checkNode := goodIn_ca (goodIn_r _ [6, 7, 8, 1, 9, 10, 11, 12, 13, 14, 15, 22, 23, 24, 25, 26, 27] (by decide +kernel) (by decide +kernel)) (goodIn_sub (fun _ h => List.mem_cons_of_mem _ (List.mem_append_right _ h)) (by decide +kernel))
set_option maxRecDepth 20000 in
theorem gX4_entries_X4_checkNode : GoodIn wsX4_entries (wsV RX4 112 RX4 yX4_checkNode wsX4_checkNode) := goodIn_app (goodIn_of _ (by decide +kernel)) ggX4_entries_X4_checkNode
set_option maxRecDepth 20000 in
theorem ggX4_entries_X3_load : GoodIn wsX4_entries wsX3_load := goodIn_r _ [19, 20, 21, 10, 11, 12, 13, 14, 15, 25, 26, 27] (by decide +kernel) (by decide +kernel)
set_option maxRecDepth 20000 in
theorem gX4_entries_X3_load : GoodIn wsX4_entries (wsV RX4 115 RX3 yX3_load wsX3_load) := goodIn_app (goodIn_of _ (by decide +kernel)) ggX4_entries_X3_load
theorem dX4_entries_0 : decode cX4_entries 0 = .ok (.aload_n 0, 1) := by decide +kernel
theorem dX4_entries_1 : decode cX4_entries 1 = .ok (.iload_n 1, 1) := by decide +kernel
theorem dX4_entries_2 : decode cX4_entries 2 = .ok (.iload_n 2, 1) := by decide +kernel
theorem dX4_entries_3 : decode cX4_entries 3 = .ok (.invokevirtual 112, 3) := by decide +kernel
theorem dX4_entries_6 : decode cX4_entries 6 = .ok (.aload_n 0, 1) := by decide +kernel
theorem dX4_entries_7 : decode cX4_entries 7 = .ok (.getfield 23, 3) := by decide +kernel
theorem dX4_entries_10 : decode cX4_entries 10 = .ok (.iload_n 1, 1) := by decide +kernel
theorem dX4_entries_11 : decode cX4_entries 11 = .ok (.iload_n 2, 1) := by decide +kernel
theorem dX4_entries_12 : decode cX4_entries 12 = .ok (.invokevirtual 115, 3) := by decide +kernel
theorem dX4_entries_15 : decode cX4_entries 15 = .ok (.ireturn, 1) := by decide +kernel
set_option maxRecDepth 20000 in
theorem ggX4_cover_X4_checkSide : GoodIn wsX4_cover wsX4_checkSide := goodIn_ca (goodIn_r _ [4, 5, 6] (by decide +kernel) (by decide +kernel)) (goodIn_sub (fun _ h => List.mem_cons_of_mem _ (List.mem_append_left _ (List.mem_append_right _ h))) (by decide +kernel))
set_option maxRecDepth 20000 in
theorem gX4_cover_X4_checkSide : GoodIn wsX4_cover (va_wsS RX4 91 yX4_checkSide wsX4_checkSide) := goodIn_app (goodIn_of _ (by decide +kernel)) ggX4_cover_X4_checkSide
set_option maxRecDepth 20000 in
theorem ggX4_cover_X4_checkNode : GoodIn wsX4_cover wsX4_checkNode := goodIn_ca (goodIn_r _ [10, 11, 12, 13, 14, 15, 16, 17, 18, 19, 20, 78, 79, 80, 81, 82, 83] (by decide +kernel) (by decide +kernel)) (goodIn_sub (fun _ h => List.mem_cons_of_mem _ (List.mem_append_right _ h)) (by decide +kernel))
set_option maxRecDepth 20000 in
theorem gX4_cover_X4_checkNode : GoodIn wsX4_cover (wsV RX4 112 RX4 yX4_checkNode wsX4_checkNode) := goodIn_app (goodIn_of _ (by decide +kernel)) ggX4_cover_X4_checkNode
set_option maxRecDepth 20000 in
theorem ggX4_cover_X4_coverOf : GoodIn wsX4_cover wsX4_coverOf := goodIn_r _ [24, 13, 25, 26, 27, 28, 17, 29, 30, 31, 32, 33, 34, 35, 36, 37, 19, 20, 38, 39, 40, 41, 42, 43, 15, 16, 18, 44, 45, 46, 47, 48, 49, 50, 51, 52, 53, 54, 55, 56, 57, 58, 59, 60, 61, 62, 63, 64, 65, 66, 67, 68, 69, 70, 71, 72, 73, 74, 75, 76, 78, 79, 80, 81, 82, 83, 84, 85, 86, 87, 88, 89] (by decide +kernel) (by decide +kernel)
set_option maxRecDepth 20000 in
theorem gX4_cover_X4_coverOf : GoodIn wsX4_cover (wsV RX4 118 RX4 yX4_coverOf wsX4_coverOf) := goodIn_app (goodIn_of _ (by decide +kernel)) ggX4_cover_X4_coverOf
set_option maxRecDepth 20000 in
theorem ggX4_cover_X0_side : GoodIn wsX4_cover wsX0_side := goodIn_r _ [73] (by decide +kernel) (by decide +kernel)
set_option maxRecDepth 20000 in
theorem gX4_cover_X0_side : GoodIn wsX4_cover (va_wsS RX4 97 yX0_side wsX0_side) := goodIn_app (goodIn_of _ (by decide +kernel)) ggX4_cover_X0_side
theorem dX4_cover_0 : decode cX4_cover 0 = .ok (.iload_n 3, 1) := by decide +kernel
theorem dX4_cover_1 : decode cX4_cover 1 = .ok (.invokestatic 91, 3) := by decide +kernel
theorem dX4_cover_4 : decode cX4_cover 4 = .ok (.aload_n 0, 1) := by decide +kernel
theorem dX4_cover_5 : decode cX4_cover 5 = .ok (.iload_n 1, 1) := by decide +kernel
theorem dX4_cover_6 : decode cX4_cover 6 = .ok (.iload_n 2, 1) := by decide +kernel
theorem dX4_cover_7 : decode cX4_cover 7 = .ok (.invokevirtual 112, 3) := by decide +kernel
theorem dX4_cover_10 : decode cX4_cover 10 = .ok (.aload_n 0, 1) := by decide +kernel
theorem dX4_cover_11 : decode cX4_cover 11 = .ok (.iload_n 1, 1) := by decide +kernel
theorem dX4_cover_12 : decode cX4_cover 12 = .ok (.iload_n 2, 1) := by decide +kernel
theorem dX4_cover_13 : decode cX4_cover 13 = .ok (.invokevirtual 118, 3) := by decide +kernel
theorem dX4_cover_16 : decode cX4_cover 16 = .ok (.iload_n 3, 1) := by decide +kernel
theorem dX4_cover_17 : decode cX4_cover 17 = .ok (.invokestatic 97, 3) := by decide +kernel
theorem dX4_cover_20 : decode cX4_cover 20 = .ok (.ireturn, 1) := by decide +kernel
set_option maxRecDepth 20000 in
theorem ggX4_leafOf_X4_checkBox : GoodIn wsX4_leafOf wsX4_checkBox := goodIn_ca (goodIn_r _ [7, 8, 9, 2, 10, 11, 12, 13, 14, 15, 46, 47, 48, 49, 50, 51, 52, 53, 54] (by decide +kernel) (by decide +kernel)) (goodIn_sub (fun _ h => List.mem_cons_of_mem _ (List.mem_append_right _ h)) (by decide +kernel))
set_option maxRecDepth 20000 in
theorem gX4_leafOf_X4_checkBox : GoodIn wsX4_leafOf (wsV RX4 59 RX4 yX4_checkBox wsX4_checkBox) := goodIn_app (goodIn_of _ (by decide +kernel)) ggX4_leafOf_X4_checkBox
set_option maxRecDepth 20000 in
theorem ggX4_leafOf_X2_placeOf : GoodIn wsX4_leafOf wsX2_placeOf := goodIn_r _ [19, 20, 21, 22, 23, 13, 24, 25, 49, 50, 51, 52, 53, 54] (by decide +kernel) (by decide +kernel)
set_option maxRecDepth 20000 in
theorem gX4_leafOf_X2_placeOf : GoodIn wsX4_leafOf (wsV RX4 52 RX2 yX2_placeOf wsX2_placeOf) := goodIn_app (goodIn_of _ (by decide +kernel)) ggX4_leafOf_X2_placeOf
set_option maxRecDepth 20000 in
theorem ggX4_leafOf_X3_holder : GoodIn wsX4_leafOf wsX3_holder := goodIn_r _ [30, 31, 32, 33, 29, 34, 35, 36, 37, 38, 39, 40, 41, 42, 43, 44, 45, 55, 56, 57] (by decide +kernel) (by decide +kernel)
set_option maxRecDepth 20000 in
theorem gX4_leafOf_X3_holder : GoodIn wsX4_leafOf (wsV RX4 121 RX3 yX3_holder wsX3_holder) := goodIn_app (goodIn_of _ (by decide +kernel)) ggX4_leafOf_X3_holder
theorem dX4_leafOf_0 : decode cX4_leafOf 0 = .ok (.aload_n 0, 1) := by decide +kernel
theorem dX4_leafOf_1 : decode cX4_leafOf 1 = .ok (.iload_n 1, 1) := by decide +kernel
theorem dX4_leafOf_2 : decode cX4_leafOf 2 = .ok (.invokevirtual 59, 3) := by decide +kernel
theorem dX4_leafOf_5 : decode cX4_leafOf 5 = .ok (.aload_n 0, 1) := by decide +kernel
theorem dX4_leafOf_6 : decode cX4_leafOf 6 = .ok (.getfield 23, 3) := by decide +kernel
theorem dX4_leafOf_9 : decode cX4_leafOf 9 = .ok (.iconst 0, 1) := by decide +kernel
theorem dX4_leafOf_10 : decode cX4_leafOf 10 = .ok (.aload_n 0, 1) := by decide +kernel
theorem dX4_leafOf_11 : decode cX4_leafOf 11 = .ok (.getfield 16, 3) := by decide +kernel
theorem dX4_leafOf_14 : decode cX4_leafOf 14 = .ok (.iload_n 1, 1) := by decide +kernel
theorem dX4_leafOf_15 : decode cX4_leafOf 15 = .ok (.invokevirtual 52, 3) := by decide +kernel
theorem dX4_leafOf_18 : decode cX4_leafOf 18 = .ok (.invokevirtual 121, 3) := by decide +kernel
theorem dX4_leafOf_21 : decode cX4_leafOf 21 = .ok (.ireturn, 1) := by decide +kernel
set_option maxRecDepth 20000 in
theorem ggX4_boxAt_X2_size : GoodIn wsX4_boxAt wsX2_size := goodIn_r _ [8, 9, 18, 19, 20, 21, 22, 23] (by decide +kernel) (by decide +kernel)
set_option maxRecDepth 20000 in
theorem gX4_boxAt_X2_size : GoodIn wsX4_boxAt (wsV RX4 68 RX2 yX2_size wsX2_size) := goodIn_app (goodIn_of _ (by decide +kernel)) ggX4_boxAt_X2_size
set_option maxRecDepth 20000 in
theorem ggX4_boxAt_X2_numberAt : GoodIn wsX4_boxAt wsX2_numberAt := goodIn_r _ [13, 14, 9, 18, 19, 20, 21, 22, 23] (by decide +kernel) (by decide +kernel)
set_option maxRecDepth 20000 in
theorem gX4_boxAt_X2_numberAt : GoodIn wsX4_boxAt (wsV RX4 126 RX2 yX2_numberAt wsX2_numberAt) := goodIn_app (goodIn_of _ (by decide +kernel)) ggX4_boxAt_X2_numberAt
theorem dX4_boxAt_0 : decode cX4_boxAt 0 = .ok (.iload_n 1, 1) := by decide +kernel
theorem dX4_boxAt_1 : decode cX4_boxAt 1 = .ok (.ifCond .lt 14, 3) := by decide +kernel
theorem dX4_boxAt_4 : decode cX4_boxAt 4 = .ok (.iload_n 1, 1) := by decide +kernel
theorem dX4_boxAt_5 : decode cX4_boxAt 5 = .ok (.aload_n 0, 1) := by decide +kernel
theorem dX4_boxAt_6 : decode cX4_boxAt 6 = .ok (.getfield 16, 3) := by decide +kernel
theorem dX4_boxAt_9 : decode cX4_boxAt 9 = .ok (.invokevirtual 68, 3) := by decide +kernel
theorem dX4_boxAt_12 : decode cX4_boxAt 12 = .ok (.if_icmp .lt 13, 3) := by decide +kernel
theorem dX4_boxAt_15 : decode cX4_boxAt 15 = .ok (.new 107, 3) := by decide +kernel
theorem dX4_boxAt_18 : decode cX4_boxAt 18 = .ok (.dup, 1) := by decide +kernel
theorem dX4_boxAt_19 : decode cX4_boxAt 19 = .ok (.ldc 124, 2) := by decide +kernel
theorem dX4_boxAt_21 : decode cX4_boxAt 21 = .ok (.invokespecial 111, 3) := by decide +kernel
theorem dX4_boxAt_24 : decode cX4_boxAt 24 = .ok (.athrow, 1) := by decide +kernel
theorem dX4_boxAt_25 : decode cX4_boxAt 25 = .ok (.aload_n 0, 1) := by decide +kernel
theorem dX4_boxAt_26 : decode cX4_boxAt 26 = .ok (.getfield 16, 3) := by decide +kernel
theorem dX4_boxAt_29 : decode cX4_boxAt 29 = .ok (.iload_n 1, 1) := by decide +kernel
theorem dX4_boxAt_30 : decode cX4_boxAt 30 = .ok (.invokevirtual 126, 3) := by decide +kernel
theorem dX4_boxAt_33 : decode cX4_boxAt 33 = .ok (.ireturn, 1) := by decide +kernel
set_option maxRecDepth 20000 in
theorem ggX4_tightness_X3_width : GoodIn wsX4_tightness wsX3_width := goodIn_r _ [9, 10, 11, 78, 79, 80] (by decide +kernel) (by decide +kernel)
set_option maxRecDepth 20000 in
theorem gX4_tightness_X3_width : GoodIn wsX4_tightness (wsV RX4 75 RX3 yX3_width wsX3_width) := goodIn_app (goodIn_of _ (by decide +kernel)) ggX4_tightness_X3_width
set_option maxRecDepth 20000 in
theorem ggX4_tightness_X4_coverOf : GoodIn wsX4_tightness wsX4_coverOf := goodIn_r _ [16, 3, 4, 17, 18, 19, 8, 20, 21, 22, 23, 24, 25, 6, 7, 9, 10, 11, 26, 27, 28, 29, 30, 31, 32, 33, 34, 35, 36, 37, 38, 39, 40, 41, 42, 43, 44, 45, 46, 47, 48, 49, 50, 51, 52, 53, 54, 55, 56, 57, 58, 59, 60, 61, 62, 63, 64, 65, 66, 67, 75, 76, 77, 78, 79, 80, 81, 82, 83, 84, 85, 86] (by decide +kernel) (by decide +kernel)
set_option maxRecDepth 20000 in
theorem gX4_tightness_X4_coverOf : GoodIn wsX4_tightness (wsV RX4 118 RX4 yX4_coverOf wsX4_coverOf) := goodIn_app (goodIn_of _ (by decide +kernel)) ggX4_tightness_X4_coverOf
set_option maxRecDepth 20000 in
theorem ggX4_tightness_X0_points : GoodIn wsX4_tightness wsX0_points := goodIn_r _ [70, 62, 63, 53, 64] (by decide +kernel) (by decide +kernel)
set_option maxRecDepth 20000 in
theorem gX4_tightness_X0_points : GoodIn wsX4_tightness (va_wsS RX4 129 yX0_points wsX0_points) := goodIn_app (goodIn_of _ (by decide +kernel)) ggX4_tightness_X0_points
set_option maxRecDepth 20000 in
theorem ggX4_tightness_X2_size : GoodIn wsX4_tightness wsX2_size := goodIn_r _ [74, 45, 81, 82, 83, 84, 85, 86] (by decide +kernel) (by decide +kernel)
set_option maxRecDepth 20000 in
theorem gX4_tightness_X2_size : GoodIn wsX4_tightness (wsV RX4 68 RX2 yX2_size wsX2_size) := goodIn_app (goodIn_of _ (by decide +kernel)) ggX4_tightness_X2_size
set_option maxRecDepth 20000 in
theorem ggX4_tightness_X2_areaAt : GoodIn wsX4_tightness wsX2_areaAt := goodIn_r _ [39, 40, 41, 42, 38, 43, 44, 45, 46, 47, 48, 49, 50, 81, 82, 83, 84, 85, 86] (by decide +kernel) (by decide +kernel)
set_option maxRecDepth 20000 in
theorem gX4_tightness_X2_areaAt : GoodIn wsX4_tightness (wsV RX4 134 RX2 yX2_areaAt wsX2_areaAt) := goodIn_app (goodIn_of _ (by decide +kernel)) ggX4_tightness_X2_areaAt
theorem dX4_tightness_0 : decode cX4_tightness 0 = .ok (.iconst 0, 1) := by decide +kernel
theorem dX4_tightness_1 : decode cX4_tightness 1 = .ok (.istore_n 1, 1) := by decide +kernel
theorem dX4_tightness_2 : decode cX4_tightness 2 = .ok (.iconst 0, 1) := by decide +kernel
theorem dX4_tightness_3 : decode cX4_tightness 3 = .ok (.istore_n 2, 1) := by decide +kernel
theorem dX4_tightness_4 : decode cX4_tightness 4 = .ok (.iload_n 2, 1) := by decide +kernel
theorem dX4_tightness_5 : decode cX4_tightness 5 = .ok (.aload_n 0, 1) := by decide +kernel
theorem dX4_tightness_6 : decode cX4_tightness 6 = .ok (.getfield 23, 3) := by decide +kernel
theorem dX4_tightness_9 : decode cX4_tightness 9 = .ok (.iconst 0, 1) := by decide +kernel
theorem dX4_tightness_10 : decode cX4_tightness 10 = .ok (.invokevirtual 75, 3) := by decide +kernel
theorem dX4_tightness_13 : decode cX4_tightness 13 = .ok (.if_icmp .ge 21, 3) := by decide +kernel
theorem dX4_tightness_16 : decode cX4_tightness 16 = .ok (.iload_n 1, 1) := by decide +kernel
theorem dX4_tightness_17 : decode cX4_tightness 17 = .ok (.aload_n 0, 1) := by decide +kernel
theorem dX4_tightness_18 : decode cX4_tightness 18 = .ok (.iconst 0, 1) := by decide +kernel
theorem dX4_tightness_19 : decode cX4_tightness 19 = .ok (.iload_n 2, 1) := by decide +kernel
theorem dX4_tightness_20 : decode cX4_tightness 20 = .ok (.invokevirtual 118, 3) := by decide +kernel
theorem dX4_tightness_23 : decode cX4_tightness 23 = .ok (.invokestatic 129, 3) := by decide +kernel
theorem dX4_tightness_26 : decode cX4_tightness 26 = .ok (.iadd, 1) := by decide +kernel
theorem dX4_tightness_27 : decode cX4_tightness 27 = .ok (.istore_n 1, 1) := by decide +kernel
theorem dX4_tightness_28 : decode cX4_tightness 28 = .ok (.iinc 2 1, 3) := by decide +kernel
theorem dX4_tightness_31 : decode cX4_tightness 31 = .ok (.goto (-27), 3) := by decide +kernel
theorem dX4_tightness_34 : decode cX4_tightness 34 = .ok (.iload_n 1, 1) := by decide +kernel
theorem dX4_tightness_35 : decode cX4_tightness 35 = .ok (.ifCond .gt 13, 3) := by decide +kernel
theorem dX4_tightness_38 : decode cX4_tightness 38 = .ok (.new 35, 3) := by decide +kernel
theorem dX4_tightness_41 : decode cX4_tightness 41 = .ok (.dup, 1) := by decide +kernel
theorem dX4_tightness_42 : decode cX4_tightness 42 = .ok (.ldc 132, 2) := by decide +kernel
theorem dX4_tightness_44 : decode cX4_tightness 44 = .ok (.invokespecial 39, 3) := by decide +kernel
theorem dX4_tightness_47 : decode cX4_tightness 47 = .ok (.athrow, 1) := by decide +kernel
theorem dX4_tightness_48 : decode cX4_tightness 48 = .ok (.iconst 0, 1) := by decide +kernel
theorem dX4_tightness_49 : decode cX4_tightness 49 = .ok (.istore_n 2, 1) := by decide +kernel
theorem dX4_tightness_50 : decode cX4_tightness 50 = .ok (.iconst 0, 1) := by decide +kernel
theorem dX4_tightness_51 : decode cX4_tightness 51 = .ok (.istore_n 3, 1) := by decide +kernel
theorem dX4_tightness_52 : decode cX4_tightness 52 = .ok (.iload_n 3, 1) := by decide +kernel
theorem dX4_tightness_53 : decode cX4_tightness 53 = .ok (.aload_n 0, 1) := by decide +kernel
theorem dX4_tightness_54 : decode cX4_tightness 54 = .ok (.getfield 16, 3) := by decide +kernel
theorem dX4_tightness_57 : decode cX4_tightness 57 = .ok (.invokevirtual 68, 3) := by decide +kernel
theorem dX4_tightness_60 : decode cX4_tightness 60 = .ok (.if_icmp .ge 23, 3) := by decide +kernel
theorem dX4_tightness_63 : decode cX4_tightness 63 = .ok (.iload_n 2, 1) := by decide +kernel
theorem dX4_tightness_64 : decode cX4_tightness 64 = .ok (.aload_n 0, 1) := by decide +kernel
theorem dX4_tightness_65 : decode cX4_tightness 65 = .ok (.getfield 16, 3) := by decide +kernel
theorem dX4_tightness_68 : decode cX4_tightness 68 = .ok (.iload_n 3, 1) := by decide +kernel
theorem dX4_tightness_69 : decode cX4_tightness 69 = .ok (.invokevirtual 134, 3) := by decide +kernel
theorem dX4_tightness_72 : decode cX4_tightness 72 = .ok (.invokestatic 129, 3) := by decide +kernel
theorem dX4_tightness_75 : decode cX4_tightness 75 = .ok (.iadd, 1) := by decide +kernel
theorem dX4_tightness_76 : decode cX4_tightness 76 = .ok (.istore_n 2, 1) := by decide +kernel
theorem dX4_tightness_77 : decode cX4_tightness 77 = .ok (.iinc 3 1, 3) := by decide +kernel
theorem dX4_tightness_80 : decode cX4_tightness 80 = .ok (.goto (-28), 3) := by decide +kernel
theorem dX4_tightness_83 : decode cX4_tightness 83 = .ok (.iload_n 2, 1) := by decide +kernel
theorem dX4_tightness_84 : decode cX4_tightness 84 = .ok (.i2f, 1) := by decide +kernel
theorem dX4_tightness_85 : decode cX4_tightness 85 = .ok (.iload_n 1, 1) := by decide +kernel
theorem dX4_tightness_86 : decode cX4_tightness 86 = .ok (.i2f, 1) := by decide +kernel
theorem dX4_tightness_87 : decode cX4_tightness 87 = .ok (.fdiv, 1) := by decide +kernel
theorem dX4_tightness_88 : decode cX4_tightness 88 = .ok (.freturn, 1) := by decide +kernel
set_option maxRecDepth 20000 in
theorem ggX4_count_X4_checkSides : GoodIn wsX4_count wsX4_checkSides := goodIn_ca (goodIn_r _ [5, 6, 7, 8, 9, 4, 10] (by decide +kernel) (by decide +kernel)) (goodIn_sub (fun _ h => List.mem_cons_of_mem _ (List.mem_append_right _ h)) (by decide +kernel))
set_option maxRecDepth 20000 in
theorem gX4_count_X4_checkSides : GoodIn wsX4_count (va_wsS RX4 27 yX4_checkSides wsX4_checkSides) := goodIn_app (goodIn_of _ (by decide +kernel)) ggX4_count_X4_checkSides
set_option maxRecDepth 20000 in
theorem ggX4_count_X0_of : GoodIn wsX4_count wsX0_of := goodIn_r _ [14] (by decide +kernel) (by decide +kernel)
set_option maxRecDepth 20000 in
theorem gX4_count_X0_of : GoodIn wsX4_count (va_wsS RX4 42 yX0_of wsX0_of) := goodIn_app (goodIn_of _ (by decide +kernel)) ggX4_count_X0_of
set_option maxRecDepth 20000 in
theorem ggX4_count_X2_size : GoodIn wsX4_count wsX2_size := goodIn_r _ [19, 20, 44, 45, 46, 47, 48, 49] (by decide +kernel) (by decide +kernel)
set_option maxRecDepth 20000 in
theorem gX4_count_X2_size : GoodIn wsX4_count (wsV RX4 68 RX2 yX2_size wsX2_size) := goodIn_app (goodIn_of _ (by decide +kernel)) ggX4_count_X2_size
set_option maxRecDepth 20000 in
theorem ggX4_count_X2_areaAt : GoodIn wsX4_count wsX2_areaAt := goodIn_r _ [24, 25, 26, 27, 18, 28, 29, 20, 30, 31, 32, 33, 34, 44, 45, 46, 47, 48, 49] (by decide +kernel) (by decide +kernel)
set_option maxRecDepth 20000 in
theorem gX4_count_X2_areaAt : GoodIn wsX4_count (wsV RX4 134 RX2 yX2_areaAt wsX2_areaAt) := goodIn_app (goodIn_of _ (by decide +kernel)) ggX4_count_X2_areaAt
set_option maxRecDepth 20000 in
theorem ggX4_count_X0_meet : GoodIn wsX4_count wsX0_meet := goodIn_r _ [37, 38, 39, 13, 40] (by decide +kernel) (by decide +kernel)
set_option maxRecDepth 20000 in
theorem gX4_count_X0_meet : GoodIn wsX4_count (va_wsS RX4 137 yX0_meet wsX0_meet) := goodIn_app (goodIn_of _ (by decide +kernel)) ggX4_count_X0_meet
theorem dX4_count_0 : decode cX4_count 0 = .ok (.iload_n 1, 1) := by decide +kernel
theorem dX4_count_1 : decode cX4_count 1 = .ok (.iload_n 2, 1) := by decide +kernel
theorem dX4_count_2 : decode cX4_count 2 = .ok (.iload_n 3, 1) := by decide +kernel
theorem dX4_count_3 : decode cX4_count 3 = .ok (.iload 4, 2) := by decide +kernel
theorem dX4_count_5 : decode cX4_count 5 = .ok (.invokestatic 27, 3) := by decide +kernel
theorem dX4_count_8 : decode cX4_count 8 = .ok (.iload_n 1, 1) := by decide +kernel
theorem dX4_count_9 : decode cX4_count 9 = .ok (.iload_n 2, 1) := by decide +kernel
theorem dX4_count_10 : decode cX4_count 10 = .ok (.iload_n 3, 1) := by decide +kernel
theorem dX4_count_11 : decode cX4_count 11 = .ok (.iload 4, 2) := by decide +kernel
theorem dX4_count_13 : decode cX4_count 13 = .ok (.invokestatic 42, 3) := by decide +kernel
theorem dX4_count_16 : decode cX4_count 16 = .ok (.istore 5, 2) := by decide +kernel
theorem dX4_count_18 : decode cX4_count 18 = .ok (.iconst 0, 1) := by decide +kernel
theorem dX4_count_19 : decode cX4_count 19 = .ok (.istore 6, 2) := by decide +kernel
theorem dX4_count_21 : decode cX4_count 21 = .ok (.iconst 0, 1) := by decide +kernel
theorem dX4_count_22 : decode cX4_count 22 = .ok (.istore 7, 2) := by decide +kernel
theorem dX4_count_24 : decode cX4_count 24 = .ok (.iload 7, 2) := by decide +kernel
theorem dX4_count_26 : decode cX4_count 26 = .ok (.aload_n 0, 1) := by decide +kernel
theorem dX4_count_27 : decode cX4_count 27 = .ok (.getfield 16, 3) := by decide +kernel
theorem dX4_count_30 : decode cX4_count 30 = .ok (.invokevirtual 68, 3) := by decide +kernel
theorem dX4_count_33 : decode cX4_count 33 = .ok (.if_icmp .ge 29, 3) := by decide +kernel
theorem dX4_count_36 : decode cX4_count 36 = .ok (.aload_n 0, 1) := by decide +kernel
theorem dX4_count_37 : decode cX4_count 37 = .ok (.getfield 16, 3) := by decide +kernel
theorem dX4_count_40 : decode cX4_count 40 = .ok (.iload 7, 2) := by decide +kernel
theorem dX4_count_42 : decode cX4_count 42 = .ok (.invokevirtual 134, 3) := by decide +kernel
theorem dX4_count_45 : decode cX4_count 45 = .ok (.iload 5, 2) := by decide +kernel
theorem dX4_count_47 : decode cX4_count 47 = .ok (.invokestatic 137, 3) := by decide +kernel
theorem dX4_count_50 : decode cX4_count 50 = .ok (.ifCond .eq 6, 3) := by decide +kernel
theorem dX4_count_53 : decode cX4_count 53 = .ok (.iinc 6 1, 3) := by decide +kernel
theorem dX4_count_56 : decode cX4_count 56 = .ok (.iinc 7 1, 3) := by decide +kernel
theorem dX4_count_59 : decode cX4_count 59 = .ok (.goto (-35), 3) := by decide +kernel
theorem dX4_count_62 : decode cX4_count 62 = .ok (.iload 6, 2) := by decide +kernel
theorem dX4_count_64 : decode cX4_count 64 = .ok (.ireturn, 1) := by decide +kernel
set_option maxRecDepth 20000 in
theorem ggX4_found_X4_checkSides : GoodIn wsX4_found wsX4_checkSides := goodIn_ca (goodIn_r _ [7, 8, 9, 10, 11, 6, 12] (by decide +kernel) (by decide +kernel)) (goodIn_sub (fun _ h => List.mem_cons_of_mem _ (List.mem_append_right _ h)) (by decide +kernel))
set_option maxRecDepth 20000 in
theorem gX4_found_X4_checkSides : GoodIn wsX4_found (va_wsS RX4 27 yX4_checkSides wsX4_checkSides) := goodIn_app (goodIn_of _ (by decide +kernel)) ggX4_found_X4_checkSides
set_option maxRecDepth 20000 in
theorem ggX4_found_X0_of : GoodIn wsX4_found wsX0_of := goodIn_r _ [16] (by decide +kernel) (by decide +kernel)
set_option maxRecDepth 20000 in
theorem gX4_found_X0_of : GoodIn wsX4_found (va_wsS RX4 42 yX0_of wsX0_of) := goodIn_app (goodIn_of _ (by decide +kernel)) ggX4_found_X0_of
set_option maxRecDepth 20000 in
theorem ggX4_found_X2_size : GoodIn wsX4_found wsX2_size := goodIn_r _ [21, 22, 47, 48, 49, 50, 51, 52] (by decide +kernel) (by decide +kernel)
set_option maxRecDepth 20000 in
theorem gX4_found_X2_size : GoodIn wsX4_found (wsV RX4 68 RX2 yX2_size wsX2_size) := goodIn_app (goodIn_of _ (by decide +kernel)) ggX4_found_X2_size
set_option maxRecDepth 20000 in
theorem ggX4_found_X2_areaAt : GoodIn wsX4_found wsX2_areaAt := goodIn_r _ [26, 27, 28, 29, 20, 30, 31, 22, 32, 33, 34, 35, 36, 47, 48, 49, 50, 51, 52] (by decide +kernel) (by decide +kernel)
set_option maxRecDepth 20000 in
theorem gX4_found_X2_areaAt : GoodIn wsX4_found (wsV RX4 134 RX2 yX2_areaAt wsX2_areaAt) := goodIn_app (goodIn_of _ (by decide +kernel)) ggX4_found_X2_areaAt
set_option maxRecDepth 20000 in
theorem ggX4_found_X0_meet : GoodIn wsX4_found wsX0_meet := goodIn_r _ [39, 40, 41, 15, 42] (by decide +kernel) (by decide +kernel)
set_option maxRecDepth 20000 in
theorem gX4_found_X0_meet : GoodIn wsX4_found (va_wsS RX4 137 yX0_meet wsX0_meet) := goodIn_app (goodIn_of _ (by decide +kernel)) ggX4_found_X0_meet
set_option maxRecDepth 20000 in
theorem ggX4_found_X2_numberAt : GoodIn wsX4_found wsX2_numberAt := goodIn_r _ [30, 31, 22, 47, 48, 49, 50, 51, 52] (by decide +kernel) (by decide +kernel)
set_option maxRecDepth 20000 in
theorem gX4_found_X2_numberAt : GoodIn wsX4_found (wsV RX4 126 RX2 yX2_numberAt wsX2_numberAt) := goodIn_app (goodIn_of _ (by decide +kernel)) ggX4_found_X2_numberAt
theorem dX4_found_0 : decode cX4_found 0 = .ok (.iload_n 1, 1) := by decide +kernel
theorem dX4_found_1 : decode cX4_found 1 = .ok (.iload_n 2, 1) := by decide +kernel
theorem dX4_found_2 : decode cX4_found 2 = .ok (.iload_n 3, 1) := by decide +kernel
theorem dX4_found_3 : decode cX4_found 3 = .ok (.iload 4, 2) := by decide +kernel
theorem dX4_found_5 : decode cX4_found 5 = .ok (.invokestatic 27, 3) := by decide +kernel
theorem dX4_found_8 : decode cX4_found 8 = .ok (.iload_n 1, 1) := by decide +kernel
theorem dX4_found_9 : decode cX4_found 9 = .ok (.iload_n 2, 1) := by decide +kernel
theorem dX4_found_10 : decode cX4_found 10 = .ok (.iload_n 3, 1) := by decide +kernel
theorem dX4_found_11 : decode cX4_found 11 = .ok (.iload 4, 2) := by decide +kernel
theorem dX4_found_13 : decode cX4_found 13 = .ok (.invokestatic 42, 3) := by decide +kernel
theorem dX4_found_16 : decode cX4_found 16 = .ok (.istore 6, 2) := by decide +kernel
theorem dX4_found_18 : decode cX4_found 18 = .ok (.iconst 0, 1) := by decide +kernel
theorem dX4_found_19 : decode cX4_found 19 = .ok (.istore 7, 2) := by decide +kernel
theorem dX4_found_21 : decode cX4_found 21 = .ok (.iconst 0, 1) := by decide +kernel
theorem dX4_found_22 : decode cX4_found 22 = .ok (.istore 8, 2) := by decide +kernel
theorem dX4_found_24 : decode cX4_found 24 = .ok (.iload 8, 2) := by decide +kernel
theorem dX4_found_26 : decode cX4_found 26 = .ok (.aload_n 0, 1) := by decide +kernel
theorem dX4_found_27 : decode cX4_found 27 = .ok (.getfield 16, 3) := by decide +kernel
theorem dX4_found_30 : decode cX4_found 30 = .ok (.invokevirtual 68, 3) := by decide +kernel
theorem dX4_found_33 : decode cX4_found 33 = .ok (.if_icmp .ge 46, 3) := by decide +kernel
theorem dX4_found_36 : decode cX4_found 36 = .ok (.aload_n 0, 1) := by decide +kernel
theorem dX4_found_37 : decode cX4_found 37 = .ok (.getfield 16, 3) := by decide +kernel
theorem dX4_found_40 : decode cX4_found 40 = .ok (.iload 8, 2) := by decide +kernel
theorem dX4_found_42 : decode cX4_found 42 = .ok (.invokevirtual 134, 3) := by decide +kernel
theorem dX4_found_45 : decode cX4_found 45 = .ok (.iload 6, 2) := by decide +kernel
theorem dX4_found_47 : decode cX4_found 47 = .ok (.invokestatic 137, 3) := by decide +kernel
theorem dX4_found_50 : decode cX4_found 50 = .ok (.ifCond .eq 23, 3) := by decide +kernel
theorem dX4_found_53 : decode cX4_found 53 = .ok (.iload 7, 2) := by decide +kernel
theorem dX4_found_55 : decode cX4_found 55 = .ok (.iload 5, 2) := by decide +kernel
theorem dX4_found_57 : decode cX4_found 57 = .ok (.if_icmp .ne 13, 3) := by decide +kernel
theorem dX4_found_60 : decode cX4_found 60 = .ok (.aload_n 0, 1) := by decide +kernel
theorem dX4_found_61 : decode cX4_found 61 = .ok (.getfield 16, 3) := by decide +kernel
theorem dX4_found_64 : decode cX4_found 64 = .ok (.iload 8, 2) := by decide +kernel
theorem dX4_found_66 : decode cX4_found 66 = .ok (.invokevirtual 126, 3) := by decide +kernel
theorem dX4_found_69 : decode cX4_found 69 = .ok (.ireturn, 1) := by decide +kernel
theorem dX4_found_70 : decode cX4_found 70 = .ok (.iinc 7 1, 3) := by decide +kernel
theorem dX4_found_73 : decode cX4_found 73 = .ok (.iinc 8 1, 3) := by decide +kernel
theorem dX4_found_76 : decode cX4_found 76 = .ok (.goto (-52), 3) := by decide +kernel
theorem dX4_found_79 : decode cX4_found 79 = .ok (.new 107, 3) := by decide +kernel
theorem dX4_found_82 : decode cX4_found 82 = .ok (.dup, 1) := by decide +kernel
theorem dX4_found_83 : decode cX4_found 83 = .ok (.ldc 124, 2) := by decide +kernel
theorem dX4_found_85 : decode cX4_found 85 = .ok (.invokespecial 111, 3) := by decide +kernel
theorem dX4_found_88 : decode cX4_found 88 = .ok (.athrow, 1) := by decide +kernel
set_option maxRecDepth 20000 in
theorem ggX4_visits_X4_checkSides : GoodIn wsX4_visits wsX4_checkSides := goodIn_ca (goodIn_r _ [5, 6, 7, 8, 9, 4, 10] (by decide +kernel) (by decide +kernel)) (goodIn_sub (fun _ h => List.mem_cons_of_mem _ (List.mem_append_right _ h)) (by decide +kernel))
set_option maxRecDepth 20000 in
theorem gX4_visits_X4_checkSides : GoodIn wsX4_visits (va_wsS RX4 27 yX4_checkSides wsX4_checkSides) := goodIn_app (goodIn_of _ (by decide +kernel)) ggX4_visits_X4_checkSides
set_option maxRecDepth 20000 in
theorem ggX4_visits_X0_of : GoodIn wsX4_visits wsX0_of := goodIn_r _ [14] (by decide +kernel) (by decide +kernel)
set_option maxRecDepth 20000 in
theorem gX4_visits_X0_of : GoodIn wsX4_visits (va_wsS RX4 42 yX0_of wsX0_of) := goodIn_app (goodIn_of _ (by decide +kernel)) ggX4_visits_X0_of
set_option maxRecDepth 20000 in
theorem ggX4_visits_X3_height : GoodIn wsX4_visits wsX3_height := goodIn_r _ [19, 20, 85, 86, 87] (by decide +kernel) (by decide +kernel)
set_option maxRecDepth 20000 in
theorem gX4_visits_X3_height : GoodIn wsX4_visits (wsV RX4 100 RX3 yX3_height wsX3_height) := goodIn_app (goodIn_of _ (by decide +kernel)) ggX4_visits_X3_height
set_option maxRecDepth 20000 in
theorem ggX4_visits_X3_width : GoodIn wsX4_visits wsX3_width := goodIn_r _ [24, 20, 25, 85, 86, 87] (by decide +kernel) (by decide +kernel)
set_option maxRecDepth 20000 in
theorem gX4_visits_X3_width : GoodIn wsX4_visits (wsV RX4 75 RX3 yX3_width wsX3_width) := goodIn_app (goodIn_of _ (by decide +kernel)) ggX4_visits_X3_width
set_option maxRecDepth 20000 in
theorem ggX4_visits_X4_coverOf : GoodIn wsX4_visits wsX4_coverOf := goodIn_r _ [29, 1, 30, 31, 32, 33, 18, 34, 35, 36, 37, 38, 39, 22, 23, 24, 20, 25, 40, 41, 42, 43, 44, 45, 46, 47, 48, 49, 50, 51, 52, 53, 54, 55, 56, 57, 58, 59, 60, 61, 62, 63, 64, 65, 66, 13, 67, 68, 69, 70, 71, 72, 73, 74, 75, 76, 77, 78, 12, 14, 82, 83, 84, 85, 86, 87, 88, 89, 90, 91, 92, 93] (by decide +kernel) (by decide +kernel)
set_option maxRecDepth 20000 in
theorem gX4_visits_X4_coverOf : GoodIn wsX4_visits (wsV RX4 118 RX4 yX4_coverOf wsX4_coverOf) := goodIn_app (goodIn_of _ (by decide +kernel)) ggX4_visits_X4_coverOf
set_option maxRecDepth 20000 in
theorem ggX4_visits_X0_meet : GoodIn wsX4_visits wsX0_meet := goodIn_r _ [81, 75, 76, 13, 77] (by decide +kernel) (by decide +kernel)
set_option maxRecDepth 20000 in
theorem gX4_visits_X0_meet : GoodIn wsX4_visits (va_wsS RX4 137 yX0_meet wsX0_meet) := goodIn_app (goodIn_of _ (by decide +kernel)) ggX4_visits_X0_meet
theorem dX4_visits_0 : decode cX4_visits 0 = .ok (.iload_n 1, 1) := by decide +kernel
theorem dX4_visits_1 : decode cX4_visits 1 = .ok (.iload_n 2, 1) := by decide +kernel
theorem dX4_visits_2 : decode cX4_visits 2 = .ok (.iload_n 3, 1) := by decide +kernel
theorem dX4_visits_3 : decode cX4_visits 3 = .ok (.iload 4, 2) := by decide +kernel
theorem dX4_visits_5 : decode cX4_visits 5 = .ok (.invokestatic 27, 3) := by decide +kernel
theorem dX4_visits_8 : decode cX4_visits 8 = .ok (.iload_n 1, 1) := by decide +kernel
theorem dX4_visits_9 : decode cX4_visits 9 = .ok (.iload_n 2, 1) := by decide +kernel
theorem dX4_visits_10 : decode cX4_visits 10 = .ok (.iload_n 3, 1) := by decide +kernel
theorem dX4_visits_11 : decode cX4_visits 11 = .ok (.iload 4, 2) := by decide +kernel
theorem dX4_visits_13 : decode cX4_visits 13 = .ok (.invokestatic 42, 3) := by decide +kernel
theorem dX4_visits_16 : decode cX4_visits 16 = .ok (.istore 5, 2) := by decide +kernel
theorem dX4_visits_18 : decode cX4_visits 18 = .ok (.iconst 0, 1) := by decide +kernel
theorem dX4_visits_19 : decode cX4_visits 19 = .ok (.istore 6, 2) := by decide +kernel
theorem dX4_visits_21 : decode cX4_visits 21 = .ok (.iconst 0, 1) := by decide +kernel
theorem dX4_visits_22 : decode cX4_visits 22 = .ok (.istore 7, 2) := by decide +kernel
theorem dX4_visits_24 : decode cX4_visits 24 = .ok (.iload 7, 2) := by decide +kernel
theorem dX4_visits_26 : decode cX4_visits 26 = .ok (.aload_n 0, 1) := by decide +kernel
theorem dX4_visits_27 : decode cX4_visits 27 = .ok (.getfield 23, 3) := by decide +kernel
theorem dX4_visits_30 : decode cX4_visits 30 = .ok (.invokevirtual 100, 3) := by decide +kernel
theorem dX4_visits_33 : decode cX4_visits 33 = .ok (.if_icmp .ge 51, 3) := by decide +kernel
theorem dX4_visits_36 : decode cX4_visits 36 = .ok (.iconst 0, 1) := by decide +kernel
theorem dX4_visits_37 : decode cX4_visits 37 = .ok (.istore 8, 2) := by decide +kernel
theorem dX4_visits_39 : decode cX4_visits 39 = .ok (.iload 8, 2) := by decide +kernel
theorem dX4_visits_41 : decode cX4_visits 41 = .ok (.aload_n 0, 1) := by decide +kernel
theorem dX4_visits_42 : decode cX4_visits 42 = .ok (.getfield 23, 3) := by decide +kernel
theorem dX4_visits_45 : decode cX4_visits 45 = .ok (.iload 7, 2) := by decide +kernel
theorem dX4_visits_47 : decode cX4_visits 47 = .ok (.invokevirtual 75, 3) := by decide +kernel
theorem dX4_visits_50 : decode cX4_visits 50 = .ok (.if_icmp .ge 28, 3) := by decide +kernel
theorem dX4_visits_53 : decode cX4_visits 53 = .ok (.aload_n 0, 1) := by decide +kernel
theorem dX4_visits_54 : decode cX4_visits 54 = .ok (.iload 7, 2) := by decide +kernel
theorem dX4_visits_56 : decode cX4_visits 56 = .ok (.iload 8, 2) := by decide +kernel
theorem dX4_visits_58 : decode cX4_visits 58 = .ok (.invokevirtual 118, 3) := by decide +kernel
theorem dX4_visits_61 : decode cX4_visits 61 = .ok (.iload 5, 2) := by decide +kernel
theorem dX4_visits_63 : decode cX4_visits 63 = .ok (.invokestatic 137, 3) := by decide +kernel
theorem dX4_visits_66 : decode cX4_visits 66 = .ok (.ifCond .eq 6, 3) := by decide +kernel
theorem dX4_visits_69 : decode cX4_visits 69 = .ok (.iinc 6 1, 3) := by decide +kernel
theorem dX4_visits_72 : decode cX4_visits 72 = .ok (.iinc 8 1, 3) := by decide +kernel
theorem dX4_visits_75 : decode cX4_visits 75 = .ok (.goto (-36), 3) := by decide +kernel
theorem dX4_visits_78 : decode cX4_visits 78 = .ok (.iinc 7 1, 3) := by decide +kernel
theorem dX4_visits_81 : decode cX4_visits 81 = .ok (.goto (-57), 3) := by decide +kernel
theorem dX4_visits_84 : decode cX4_visits 84 = .ok (.iload 6, 2) := by decide +kernel
theorem dX4_visits_86 : decode cX4_visits 86 = .ok (.ireturn, 1) := by decide +kernel
set_option maxRecDepth 20000 in
theorem ggX4_nearest_X4_checkPoint : GoodIn wsX4_nearest wsX4_checkPoint := goodIn_ca (goodIn_r _ [7, 8, 9, 10, 11, 6, 12] (by decide +kernel) (by decide +kernel)) (goodIn_sub (fun _ h => List.mem_cons_of_mem _ (List.mem_append_right _ h)) (by decide +kernel))
set_option maxRecDepth 20000 in
theorem gX4_nearest_X4_checkPoint : GoodIn wsX4_nearest (va_wsS RX4 78 yX4_checkPoint wsX4_checkPoint) := goodIn_app (goodIn_of _ (by decide +kernel)) ggX4_nearest_X4_checkPoint
set_option maxRecDepth 20000 in
theorem ggX4_nearest_X4_rankByDistance : GoodIn wsX4_nearest wsX4_rankByDistance := goodIn_r _ [16, 17, 3, 18, 19, 20, 21, 22, 23, 24, 25, 26, 27, 28, 29, 30, 31, 32, 33, 34, 35, 36, 37, 38, 39, 40, 41, 42, 43, 44, 45, 46, 47, 48, 49, 50, 51, 52, 57, 58, 59, 60, 61, 62, 63, 64, 65] (by decide +kernel) (by decide +kernel)
set_option maxRecDepth 20000 in
theorem gX4_nearest_X4_rankByDistance : GoodIn wsX4_nearest (wsV RX4 141 RX4 yX4_rankByDistance wsX4_rankByDistance) := goodIn_app (goodIn_of _ (by decide +kernel)) ggX4_nearest_X4_rankByDistance
set_option maxRecDepth 20000 in
theorem ggX4_nearest_X2_size : GoodIn wsX4_nearest wsX2_size := goodIn_r _ [22, 23, 60, 61, 62, 63, 64, 65] (by decide +kernel) (by decide +kernel)
set_option maxRecDepth 20000 in
theorem gX4_nearest_X2_size : GoodIn wsX4_nearest (wsV RX4 68 RX2 yX2_size wsX2_size) := goodIn_app (goodIn_of _ (by decide +kernel)) ggX4_nearest_X2_size
set_option maxRecDepth 20000 in
theorem ggX4_nearest_X4_ranksBefore : GoodIn wsX4_nearest wsX4_ranksBefore := goodIn_r _ [56, 17, 3, 18, 19, 20, 21, 22, 23, 57, 58, 59, 60, 61, 62, 63, 64, 65] (by decide +kernel) (by decide +kernel)
set_option maxRecDepth 20000 in
theorem gX4_nearest_X4_ranksBefore : GoodIn wsX4_nearest (wsV RX4 144 RX4 yX4_ranksBefore wsX4_ranksBefore) := goodIn_app (goodIn_of _ (by decide +kernel)) ggX4_nearest_X4_ranksBefore
set_option maxRecDepth 20000 in
theorem ggX4_nearest_X2_numberAt : GoodIn wsX4_nearest wsX2_numberAt := goodIn_r _ [31, 32, 23, 60, 61, 62, 63, 64, 65] (by decide +kernel) (by decide +kernel)
set_option maxRecDepth 20000 in
theorem gX4_nearest_X2_numberAt : GoodIn wsX4_nearest (wsV RX4 126 RX2 yX2_numberAt wsX2_numberAt) := goodIn_app (goodIn_of _ (by decide +kernel)) ggX4_nearest_X2_numberAt
theorem dX4_nearest_0 : decode cX4_nearest 0 = .ok (.iload_n 1, 1) := by decide +kernel
theorem dX4_nearest_1 : decode cX4_nearest 1 = .ok (.iload_n 2, 1) := by decide +kernel
theorem dX4_nearest_2 : decode cX4_nearest 2 = .ok (.invokestatic 78, 3) := by decide +kernel
theorem dX4_nearest_5 : decode cX4_nearest 5 = .ok (.aload_n 0, 1) := by decide +kernel
theorem dX4_nearest_6 : decode cX4_nearest 6 = .ok (.iload_n 1, 1) := by decide +kernel
theorem dX4_nearest_7 : decode cX4_nearest 7 = .ok (.iload_n 2, 1) := by decide +kernel
theorem dX4_nearest_8 : decode cX4_nearest 8 = .ok (.invokevirtual 141, 3) := by decide +kernel
theorem dX4_nearest_11 : decode cX4_nearest 11 = .ok (.iconst 0, 1) := by decide +kernel
theorem dX4_nearest_12 : decode cX4_nearest 12 = .ok (.istore 4, 2) := by decide +kernel
theorem dX4_nearest_14 : decode cX4_nearest 14 = .ok (.iload 4, 2) := by decide +kernel
theorem dX4_nearest_16 : decode cX4_nearest 16 = .ok (.aload_n 0, 1) := by decide +kernel
theorem dX4_nearest_17 : decode cX4_nearest 17 = .ok (.getfield 16, 3) := by decide +kernel
theorem dX4_nearest_20 : decode cX4_nearest 20 = .ok (.invokevirtual 68, 3) := by decide +kernel
theorem dX4_nearest_23 : decode cX4_nearest 23 = .ok (.if_icmp .ge 29, 3) := by decide +kernel
theorem dX4_nearest_26 : decode cX4_nearest 26 = .ok (.aload_n 0, 1) := by decide +kernel
theorem dX4_nearest_27 : decode cX4_nearest 27 = .ok (.iload 4, 2) := by decide +kernel
theorem dX4_nearest_29 : decode cX4_nearest 29 = .ok (.invokevirtual 144, 3) := by decide +kernel
theorem dX4_nearest_32 : decode cX4_nearest 32 = .ok (.iload_n 3, 1) := by decide +kernel
theorem dX4_nearest_33 : decode cX4_nearest 33 = .ok (.if_icmp .ne 13, 3) := by decide +kernel
theorem dX4_nearest_36 : decode cX4_nearest 36 = .ok (.aload_n 0, 1) := by decide +kernel
theorem dX4_nearest_37 : decode cX4_nearest 37 = .ok (.getfield 16, 3) := by decide +kernel
theorem dX4_nearest_40 : decode cX4_nearest 40 = .ok (.iload 4, 2) := by decide +kernel
theorem dX4_nearest_42 : decode cX4_nearest 42 = .ok (.invokevirtual 126, 3) := by decide +kernel
theorem dX4_nearest_45 : decode cX4_nearest 45 = .ok (.ireturn, 1) := by decide +kernel
theorem dX4_nearest_46 : decode cX4_nearest 46 = .ok (.iinc 4 1, 3) := by decide +kernel
theorem dX4_nearest_49 : decode cX4_nearest 49 = .ok (.goto (-35), 3) := by decide +kernel
theorem dX4_nearest_52 : decode cX4_nearest 52 = .ok (.new 107, 3) := by decide +kernel
theorem dX4_nearest_55 : decode cX4_nearest 55 = .ok (.dup, 1) := by decide +kernel
theorem dX4_nearest_56 : decode cX4_nearest 56 = .ok (.ldc 124, 2) := by decide +kernel
theorem dX4_nearest_58 : decode cX4_nearest 58 = .ok (.invokespecial 111, 3) := by decide +kernel
theorem dX4_nearest_61 : decode cX4_nearest 61 = .ok (.athrow, 1) := by decide +kernel
set_option maxRecDepth 20000 in
theorem ggX4_distance_X4_checkPoint : GoodIn wsX4_distance wsX4_checkPoint := goodIn_ca (goodIn_r _ [5, 6, 7, 8, 9, 4, 10] (by decide +kernel) (by decide +kernel)) (goodIn_sub (fun _ h => List.mem_cons_of_mem _ (List.mem_append_left _ (List.mem_append_right _ h))) (by decide +kernel))
set_option maxRecDepth 20000 in
theorem gX4_distance_X4_checkPoint : GoodIn wsX4_distance (va_wsS RX4 78 yX4_checkPoint wsX4_checkPoint) := goodIn_app (goodIn_of _ (by decide +kernel)) ggX4_distance_X4_checkPoint
set_option maxRecDepth 20000 in
theorem ggX4_distance_X4_checkBox : GoodIn wsX4_distance wsX4_checkBox := goodIn_ca (goodIn_r _ [14, 15, 16, 1, 17, 18, 19, 20, 21, 22, 42, 43, 44, 45, 46, 47, 48, 49, 50] (by decide +kernel) (by decide +kernel)) (goodIn_sub (fun _ h => List.mem_cons_of_mem _ (List.mem_append_right _ h)) (by decide +kernel))
set_option maxRecDepth 20000 in
theorem gX4_distance_X4_checkBox : GoodIn wsX4_distance (wsV RX4 59 RX4 yX4_checkBox wsX4_checkBox) := goodIn_app (goodIn_of _ (by decide +kernel)) ggX4_distance_X4_checkBox
set_option maxRecDepth 20000 in
theorem ggX4_distance_X2_areaOf : GoodIn wsX4_distance wsX2_areaOf := goodIn_r _ [26, 27, 45, 46, 47, 48, 49, 50] (by decide +kernel) (by decide +kernel)
set_option maxRecDepth 20000 in
theorem gX4_distance_X2_areaOf : GoodIn wsX4_distance (wsV RX4 94 RX2 yX2_areaOf wsX2_areaOf) := goodIn_app (goodIn_of _ (by decide +kernel)) ggX4_distance_X2_areaOf
set_option maxRecDepth 20000 in
theorem ggX4_distance_X0_distanceFrom : GoodIn wsX4_distance wsX0_distanceFrom := goodIn_r _ [31, 32, 33, 30, 34, 35, 36, 37, 38, 39, 40, 41] (by decide +kernel) (by decide +kernel)
set_option maxRecDepth 20000 in
theorem gX4_distance_X0_distanceFrom : GoodIn wsX4_distance (va_wsS RX4 147 yX0_distanceFrom wsX0_distanceFrom) := goodIn_app (goodIn_of _ (by decide +kernel)) ggX4_distance_X0_distanceFrom
theorem dX4_distance_0 : decode cX4_distance 0 = .ok (.iload_n 1, 1) := by decide +kernel
theorem dX4_distance_1 : decode cX4_distance 1 = .ok (.iload_n 2, 1) := by decide +kernel
theorem dX4_distance_2 : decode cX4_distance 2 = .ok (.invokestatic 78, 3) := by decide +kernel
theorem dX4_distance_5 : decode cX4_distance 5 = .ok (.aload_n 0, 1) := by decide +kernel
theorem dX4_distance_6 : decode cX4_distance 6 = .ok (.iload_n 3, 1) := by decide +kernel
theorem dX4_distance_7 : decode cX4_distance 7 = .ok (.invokevirtual 59, 3) := by decide +kernel
theorem dX4_distance_10 : decode cX4_distance 10 = .ok (.aload_n 0, 1) := by decide +kernel
theorem dX4_distance_11 : decode cX4_distance 11 = .ok (.getfield 16, 3) := by decide +kernel
theorem dX4_distance_14 : decode cX4_distance 14 = .ok (.iload_n 3, 1) := by decide +kernel
theorem dX4_distance_15 : decode cX4_distance 15 = .ok (.invokevirtual 94, 3) := by decide +kernel
theorem dX4_distance_18 : decode cX4_distance 18 = .ok (.iload_n 1, 1) := by decide +kernel
theorem dX4_distance_19 : decode cX4_distance 19 = .ok (.iload_n 2, 1) := by decide +kernel
theorem dX4_distance_20 : decode cX4_distance 20 = .ok (.invokestatic 147, 3) := by decide +kernel
theorem dX4_distance_23 : decode cX4_distance 23 = .ok (.ireturn, 1) := by decide +kernel
set_option maxRecDepth 20000 in
theorem ggX4_pairs_X2_added : GoodIn wsX4_pairs wsX2_added := goodIn_r _ [6, 7, 32, 33, 34, 35, 36, 37] (by decide +kernel) (by decide +kernel)
set_option maxRecDepth 20000 in
theorem gX4_pairs_X2_added : GoodIn wsX4_pairs (wsV RX4 151 RX2 yX2_added wsX2_added) := goodIn_app (goodIn_of _ (by decide +kernel)) ggX4_pairs_X2_added
set_option maxRecDepth 20000 in
theorem ggX4_pairs_X2_haveMet : GoodIn wsX4_pairs wsX2_haveMet := goodIn_r _ [11, 12, 13, 14, 5, 15, 16, 17, 18, 19, 20, 21, 22, 23, 24, 25, 26, 27, 28, 32, 33, 34, 35, 36, 37] (by decide +kernel) (by decide +kernel)
set_option maxRecDepth 20000 in
theorem gX4_pairs_X2_haveMet : GoodIn wsX4_pairs (wsV RX4 154 RX2 yX2_haveMet wsX2_haveMet) := goodIn_app (goodIn_of _ (by decide +kernel)) ggX4_pairs_X2_haveMet
theorem dX4_pairs_0 : decode cX4_pairs 0 = .ok (.iconst 0, 1) := by decide +kernel
theorem dX4_pairs_1 : decode cX4_pairs 1 = .ok (.istore_n 1, 1) := by decide +kernel
theorem dX4_pairs_2 : decode cX4_pairs 2 = .ok (.iconst 0, 1) := by decide +kernel
theorem dX4_pairs_3 : decode cX4_pairs 3 = .ok (.istore_n 2, 1) := by decide +kernel
theorem dX4_pairs_4 : decode cX4_pairs 4 = .ok (.iload_n 2, 1) := by decide +kernel
theorem dX4_pairs_5 : decode cX4_pairs 5 = .ok (.aload_n 0, 1) := by decide +kernel
theorem dX4_pairs_6 : decode cX4_pairs 6 = .ok (.getfield 16, 3) := by decide +kernel
theorem dX4_pairs_9 : decode cX4_pairs 9 = .ok (.invokevirtual 151, 3) := by decide +kernel
theorem dX4_pairs_12 : decode cX4_pairs 12 = .ok (.if_icmp .ge 45, 3) := by decide +kernel
theorem dX4_pairs_15 : decode cX4_pairs 15 = .ok (.iload_n 2, 1) := by decide +kernel
theorem dX4_pairs_16 : decode cX4_pairs 16 = .ok (.iconst 1, 1) := by decide +kernel
theorem dX4_pairs_17 : decode cX4_pairs 17 = .ok (.iadd, 1) := by decide +kernel
theorem dX4_pairs_18 : decode cX4_pairs 18 = .ok (.istore_n 3, 1) := by decide +kernel
theorem dX4_pairs_19 : decode cX4_pairs 19 = .ok (.iload_n 3, 1) := by decide +kernel
theorem dX4_pairs_20 : decode cX4_pairs 20 = .ok (.aload_n 0, 1) := by decide +kernel
theorem dX4_pairs_21 : decode cX4_pairs 21 = .ok (.getfield 16, 3) := by decide +kernel
theorem dX4_pairs_24 : decode cX4_pairs 24 = .ok (.invokevirtual 151, 3) := by decide +kernel
theorem dX4_pairs_27 : decode cX4_pairs 27 = .ok (.if_icmp .ge 24, 3) := by decide +kernel
theorem dX4_pairs_30 : decode cX4_pairs 30 = .ok (.aload_n 0, 1) := by decide +kernel
theorem dX4_pairs_31 : decode cX4_pairs 31 = .ok (.getfield 16, 3) := by decide +kernel
theorem dX4_pairs_34 : decode cX4_pairs 34 = .ok (.iload_n 2, 1) := by decide +kernel
theorem dX4_pairs_35 : decode cX4_pairs 35 = .ok (.iload_n 3, 1) := by decide +kernel
theorem dX4_pairs_36 : decode cX4_pairs 36 = .ok (.invokevirtual 154, 3) := by decide +kernel
theorem dX4_pairs_39 : decode cX4_pairs 39 = .ok (.ifCond .eq 6, 3) := by decide +kernel
theorem dX4_pairs_42 : decode cX4_pairs 42 = .ok (.iinc 1 1, 3) := by decide +kernel
theorem dX4_pairs_45 : decode cX4_pairs 45 = .ok (.iinc 3 1, 3) := by decide +kernel
theorem dX4_pairs_48 : decode cX4_pairs 48 = .ok (.goto (-29), 3) := by decide +kernel
theorem dX4_pairs_51 : decode cX4_pairs 51 = .ok (.iinc 2 1, 3) := by decide +kernel
theorem dX4_pairs_54 : decode cX4_pairs 54 = .ok (.goto (-50), 3) := by decide +kernel
theorem dX4_pairs_57 : decode cX4_pairs 57 = .ok (.iload_n 1, 1) := by decide +kernel
theorem dX4_pairs_58 : decode cX4_pairs 58 = .ok (.ireturn, 1) := by decide +kernel
set_option maxRecDepth 20000 in
theorem ggX4_pair_X2_added : GoodIn wsX4_pair wsX2_added := goodIn_r _ [8, 9, 34, 35, 36, 37, 38, 39] (by decide +kernel) (by decide +kernel)
set_option maxRecDepth 20000 in
theorem gX4_pair_X2_added : GoodIn wsX4_pair (wsV RX4 151 RX2 yX2_added wsX2_added) := goodIn_app (goodIn_of _ (by decide +kernel)) ggX4_pair_X2_added
set_option maxRecDepth 20000 in
theorem ggX4_pair_X2_haveMet : GoodIn wsX4_pair wsX2_haveMet := goodIn_r _ [13, 14, 15, 16, 7, 17, 18, 19, 20, 21, 22, 23, 24, 25, 26, 27, 28, 29, 30, 34, 35, 36, 37, 38, 39] (by decide +kernel) (by decide +kernel)
set_option maxRecDepth 20000 in
theorem gX4_pair_X2_haveMet : GoodIn wsX4_pair (wsV RX4 154 RX2 yX2_haveMet wsX2_haveMet) := goodIn_app (goodIn_of _ (by decide +kernel)) ggX4_pair_X2_haveMet
theorem dX4_pair_0 : decode cX4_pair 0 = .ok (.iconst 0, 1) := by decide +kernel
theorem dX4_pair_1 : decode cX4_pair 1 = .ok (.istore_n 2, 1) := by decide +kernel
theorem dX4_pair_2 : decode cX4_pair 2 = .ok (.iconst 0, 1) := by decide +kernel
theorem dX4_pair_3 : decode cX4_pair 3 = .ok (.istore_n 3, 1) := by decide +kernel
theorem dX4_pair_4 : decode cX4_pair 4 = .ok (.iload_n 3, 1) := by decide +kernel
theorem dX4_pair_5 : decode cX4_pair 5 = .ok (.aload_n 0, 1) := by decide +kernel
theorem dX4_pair_6 : decode cX4_pair 6 = .ok (.getfield 16, 3) := by decide +kernel
theorem dX4_pair_9 : decode cX4_pair 9 = .ok (.invokevirtual 151, 3) := by decide +kernel
theorem dX4_pair_12 : decode cX4_pair 12 = .ok (.if_icmp .ge 61, 3) := by decide +kernel
theorem dX4_pair_15 : decode cX4_pair 15 = .ok (.iload_n 3, 1) := by decide +kernel
theorem dX4_pair_16 : decode cX4_pair 16 = .ok (.iconst 1, 1) := by decide +kernel
theorem dX4_pair_17 : decode cX4_pair 17 = .ok (.iadd, 1) := by decide +kernel
theorem dX4_pair_18 : decode cX4_pair 18 = .ok (.istore 4, 2) := by decide +kernel
theorem dX4_pair_20 : decode cX4_pair 20 = .ok (.iload 4, 2) := by decide +kernel
theorem dX4_pair_22 : decode cX4_pair 22 = .ok (.aload_n 0, 1) := by decide +kernel
theorem dX4_pair_23 : decode cX4_pair 23 = .ok (.getfield 16, 3) := by decide +kernel
theorem dX4_pair_26 : decode cX4_pair 26 = .ok (.invokevirtual 151, 3) := by decide +kernel
theorem dX4_pair_29 : decode cX4_pair 29 = .ok (.if_icmp .ge 38, 3) := by decide +kernel
theorem dX4_pair_32 : decode cX4_pair 32 = .ok (.aload_n 0, 1) := by decide +kernel
theorem dX4_pair_33 : decode cX4_pair 33 = .ok (.getfield 16, 3) := by decide +kernel
theorem dX4_pair_36 : decode cX4_pair 36 = .ok (.iload_n 3, 1) := by decide +kernel
theorem dX4_pair_37 : decode cX4_pair 37 = .ok (.iload 4, 2) := by decide +kernel
theorem dX4_pair_39 : decode cX4_pair 39 = .ok (.invokevirtual 154, 3) := by decide +kernel
theorem dX4_pair_42 : decode cX4_pair 42 = .ok (.ifCond .eq 19, 3) := by decide +kernel
theorem dX4_pair_45 : decode cX4_pair 45 = .ok (.iload_n 2, 1) := by decide +kernel
theorem dX4_pair_46 : decode cX4_pair 46 = .ok (.iload_n 1, 1) := by decide +kernel
theorem dX4_pair_47 : decode cX4_pair 47 = .ok (.if_icmp .ne 11, 3) := by decide +kernel
theorem dX4_pair_50 : decode cX4_pair 50 = .ok (.bipush 100, 2) := by decide +kernel
theorem dX4_pair_52 : decode cX4_pair 52 = .ok (.iload_n 3, 1) := by decide +kernel
theorem dX4_pair_53 : decode cX4_pair 53 = .ok (.imul, 1) := by decide +kernel
theorem dX4_pair_54 : decode cX4_pair 54 = .ok (.iload 4, 2) := by decide +kernel
theorem dX4_pair_56 : decode cX4_pair 56 = .ok (.iadd, 1) := by decide +kernel
theorem dX4_pair_57 : decode cX4_pair 57 = .ok (.ireturn, 1) := by decide +kernel
theorem dX4_pair_58 : decode cX4_pair 58 = .ok (.iinc 2 1, 3) := by decide +kernel
theorem dX4_pair_61 : decode cX4_pair 61 = .ok (.iinc 4 1, 3) := by decide +kernel
theorem dX4_pair_64 : decode cX4_pair 64 = .ok (.goto (-44), 3) := by decide +kernel
theorem dX4_pair_67 : decode cX4_pair 67 = .ok (.iinc 3 1, 3) := by decide +kernel
theorem dX4_pair_70 : decode cX4_pair 70 = .ok (.goto (-66), 3) := by decide +kernel
theorem dX4_pair_73 : decode cX4_pair 73 = .ok (.new 107, 3) := by decide +kernel
theorem dX4_pair_76 : decode cX4_pair 76 = .ok (.dup, 1) := by decide +kernel
theorem dX4_pair_77 : decode cX4_pair 77 = .ok (.ldc 124, 2) := by decide +kernel
theorem dX4_pair_79 : decode cX4_pair 79 = .ok (.invokespecial 111, 3) := by decide +kernel
theorem dX4_pair_82 : decode cX4_pair 82 = .ok (.athrow, 1) := by decide +kernel
theorem dX4_isCoordinate_0 : decode cX4_isCoordinate 0 = .ok (.iload_n 0, 1) := by decide +kernel
theorem dX4_isCoordinate_1 : decode cX4_isCoordinate 1 = .ok (.ifCond .lt 14, 3) := by decide +kernel
theorem dX4_isCoordinate_4 : decode cX4_isCoordinate 4 = .ok (.iload_n 0, 1) := by decide +kernel
theorem dX4_isCoordinate_5 : decode cX4_isCoordinate 5 = .ok (.sipush 255, 3) := by decide +kernel
theorem dX4_isCoordinate_8 : decode cX4_isCoordinate 8 = .ok (.if_icmp .gt 7, 3) := by decide +kernel
theorem dX4_isCoordinate_11 : decode cX4_isCoordinate 11 = .ok (.iconst 1, 1) := by decide +kernel
theorem dX4_isCoordinate_12 : decode cX4_isCoordinate 12 = .ok (.goto 4, 3) := by decide +kernel
theorem dX4_isCoordinate_15 : decode cX4_isCoordinate 15 = .ok (.iconst 0, 1) := by decide +kernel
theorem dX4_isCoordinate_16 : decode cX4_isCoordinate 16 = .ok (.ireturn, 1) := by decide +kernel
set_option maxRecDepth 20000 in
theorem ggX4_checkPoint_X4_isCoordinate : GoodIn wsX4_checkPoint wsX4_isCoordinate := goodIn_r _ [6] (by decide +kernel) (by decide +kernel)
set_option maxRecDepth 20000 in
theorem gX4_checkPoint_X4_isCoordinate : GoodIn wsX4_checkPoint (va_wsS RX4 157 yX4_isCoordinate wsX4_isCoordinate) := goodIn_app (goodIn_of _ (by decide +kernel)) ggX4_checkPoint_X4_isCoordinate
theorem dX4_checkPoint_0 : decode cX4_checkPoint 0 = .ok (.iload_n 0, 1) := by decide +kernel
theorem dX4_checkPoint_1 : decode cX4_checkPoint 1 = .ok (.invokestatic 157, 3) := by decide +kernel
theorem dX4_checkPoint_4 : decode cX4_checkPoint 4 = .ok (.ifCond .eq 10, 3) := by decide +kernel
theorem dX4_checkPoint_7 : decode cX4_checkPoint 7 = .ok (.iload_n 1, 1) := by decide +kernel
theorem dX4_checkPoint_8 : decode cX4_checkPoint 8 = .ok (.invokestatic 157, 3) := by decide +kernel
theorem dX4_checkPoint_11 : decode cX4_checkPoint 11 = .ok (.ifCond .ne 13, 3) := by decide +kernel
theorem dX4_checkPoint_14 : decode cX4_checkPoint 14 = .ok (.new 160, 3) := by decide +kernel
theorem dX4_checkPoint_17 : decode cX4_checkPoint 17 = .ok (.dup, 1) := by decide +kernel
theorem dX4_checkPoint_18 : decode cX4_checkPoint 18 = .ok (.ldc 162, 2) := by decide +kernel
theorem dX4_checkPoint_20 : decode cX4_checkPoint 20 = .ok (.invokespecial 164, 3) := by decide +kernel
theorem dX4_checkPoint_23 : decode cX4_checkPoint 23 = .ok (.athrow, 1) := by decide +kernel
theorem dX4_checkPoint_24 : decode cX4_checkPoint 24 = .ok (.return_, 1) := by decide +kernel
set_option maxRecDepth 20000 in
theorem ggX4_checkSides_X4_isCoordinate : GoodIn wsX4_checkSides wsX4_isCoordinate := goodIn_r _ [6] (by decide +kernel) (by decide +kernel)
set_option maxRecDepth 20000 in
theorem gX4_checkSides_X4_isCoordinate : GoodIn wsX4_checkSides (va_wsS RX4 157 yX4_isCoordinate wsX4_isCoordinate) := goodIn_app (goodIn_of _ (by decide +kernel)) ggX4_checkSides_X4_isCoordinate
theorem dX4_checkSides_0 : decode cX4_checkSides 0 = .ok (.iload_n 0, 1) := by decide +kernel
theorem dX4_checkSides_1 : decode cX4_checkSides 1 = .ok (.invokestatic 157, 3) := by decide +kernel
theorem dX4_checkSides_4 : decode cX4_checkSides 4 = .ok (.ifCond .eq 34, 3) := by decide +kernel
theorem dX4_checkSides_7 : decode cX4_checkSides 7 = .ok (.iload_n 1, 1) := by decide +kernel
theorem dX4_checkSides_8 : decode cX4_checkSides 8 = .ok (.invokestatic 157, 3) := by decide +kernel
theorem dX4_checkSides_11 : decode cX4_checkSides 11 = .ok (.ifCond .eq 27, 3) := by decide +kernel
