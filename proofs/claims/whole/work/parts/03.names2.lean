theorem wsL_law_k1 : ∀ w ∈ wsL_law0_r1, w ∈ lw_tbl := fun w h => (goodIn_p wsL_law0_r1 [62, 65] (by decide +kernel) (by decide +kernel) w h).1
theorem wsL_law_k2 : ∀ w ∈ wsL_law0_r2, w ∈ lw_tbl := fun w h => (goodIn_p wsL_law0_r2 [70, 97, 599] (by decide +kernel) (by decide +kernel) w h).1
theorem wsL_law_k3 : ∀ w ∈ wsL_law0_r3, w ∈ lw_tbl := fun w h => (goodIn_p wsL_law0_r3 [196, 199, 202, 274] (by decide +kernel) (by decide +kernel) w h).1
theorem wsL_law_k4 : ∀ w ∈ wsL_law0_r4, w ∈ lw_tbl := fun w h => (goodIn_p wsL_law0_r4 [293, 297, 300, 187, 303, 306] (by decide +kernel) (by decide +kernel) w h).1
theorem wsL_law_k5 : ∀ w ∈ wsL_law0_r5, w ∈ lw_tbl := fun w h => (goodIn_p wsL_law0_r5 [310, 314, 318, 322, 326, 330] (by decide +kernel) (by decide +kernel) w h).1
theorem wsL_law_k6 : ∀ w ∈ wsL_law0_r6, w ∈ lw_tbl := fun w h => (goodIn_p wsL_law0_r6 [334, 134, 141, 145, 338, 149] (by decide +kernel) (by decide +kernel) w h).1
theorem wsL_law_k7 : ∀ w ∈ wsL_law0_r7, w ∈ lw_tbl := fun w h => (goodIn_p wsL_law0_r7 [343, 347, 351, 355, 137, 359] (by decide +kernel) (by decide +kernel) w h).1
theorem wsL_law_k8 : ∀ w ∈ wsL_law0_r8, w ∈ lw_tbl := fun w h => (goodIn_p wsL_law0_r8 [363, 367, 371, 375, 657] (by decide +kernel) (by decide +kernel) w h).1
theorem wsL_law_k9 : ∀ w ∈ wsL_law0_r9, w ∈ lw_tbl := fun w h => (goodIn_p wsL_law0_r9 [660, 664, 667, 671, 675, 679] (by decide +kernel) (by decide +kernel) w h).1
theorem wsL_law_k10 : ∀ w ∈ wsL_law0_r10, w ∈ lw_tbl := fun w h => (goodIn_p wsL_law0_r10 [683, 687, 691, 695, 699, 653] (by decide +kernel) (by decide +kernel) w h).1
theorem wsL_law_k11 : ∀ w ∈ wsL_law0_r11, w ∈ lw_tbl := fun w h => (goodIn_p wsL_law0_r11 [383, 387, 177, 408, 412] (by decide +kernel) (by decide +kernel) w h).1
theorem wsL_law_k12 : ∀ w ∈ wsL_law0_r12, w ∈ lw_tbl := fun w h => (goodIn_p wsL_law0_r12 [416, 419, 423, 427, 126, 703] (by decide +kernel) (by decide +kernel) w h).1
theorem wsL_law_k13 : ∀ w ∈ wsL_law0_r13, w ∈ lw_tbl := fun w h => (goodIn_p wsL_law0_r13 [707, 711, 715, 719, 122, 130] (by decide +kernel) (by decide +kernel) w h).1
theorem wsL_law_k14 : ∀ w ∈ wsL_law0_r14, w ∈ lw_tbl := fun w h => (goodIn_p wsL_law0_r14 [723, 153, 727, 731, 435] (by decide +kernel) (by decide +kernel) w h).1
theorem wsL_law_k15 : ∀ w ∈ wsL_law0_r15, w ∈ lw_tbl := fun w h => (goodIn_p wsL_law0_r15 [438, 735, 738, 447, 742] (by decide +kernel) (by decide +kernel) w h).1
theorem wsL_law_k16 : ∀ w ∈ wsL_law0_r16, w ∈ lw_tbl := fun w h => (goodIn_p wsL_law0_r16 [455, 458, 181, 746, 749] (by decide +kernel) (by decide +kernel) w h).1
theorem wsL_law_k17 : ∀ w ∈ wsL_law0_r17, w ∈ lw_tbl := fun w h => (goodIn_p wsL_law0_r17 [157, 161, 753, 468, 757] (by decide +kernel) (by decide +kernel) w h).1
theorem wsL_law_k18 : ∀ w ∈ wsL_law0_r18, w ∈ lw_tbl := fun w h => (goodIn_p wsL_law0_r18 [761, 477, 481, 765, 769] (by decide +kernel) (by decide +kernel) w h).1
theorem wsL_law_k19 : ∀ w ∈ wsL_law0_r19, w ∈ lw_tbl := fun w h => (goodIn_p wsL_law0_r19 [491, 495, 499, 503, 506] (by decide +kernel) (by decide +kernel) w h).1
theorem wsL_law_k20 : ∀ w ∈ wsL_law0_r20, w ∈ lw_tbl := fun w h => (goodIn_p wsL_law0_r20 [773, 777, 516] (by decide +kernel) (by decide +kernel) w h).1
theorem wsL_law_k21 : ∀ w ∈ wsL_law0_r21, w ∈ lw_tbl := fun w h => (goodIn_p wsL_law0_r21 [781, 524, 785, 533, 536] (by decide +kernel) (by decide +kernel) w h).1
theorem wsL_law_k22 : ∀ w ∈ wsL_law0_r22, w ∈ lw_tbl := fun w h => (goodIn_p wsL_law0_r22 [789, 544, 184, 793, 797] (by decide +kernel) (by decide +kernel) w h).1
theorem wsL_law_k23 : ∀ w ∈ wsL_law0_r23, w ∈ lw_tbl := fun w h => (goodIn_p wsL_law0_r23 [801, 552, 805, 559, 809] (by decide +kernel) (by decide +kernel) w h).1
theorem wsL_law_k24 : ∀ w ∈ wsL_law0_r24, w ∈ lw_tbl := fun w h => (goodIn_p wsL_law0_r24 [566, 570, 573, 576, 580] (by decide +kernel) (by decide +kernel) w h).1
theorem wsL_law_k25 : ∀ w ∈ wsL_law0_r25, w ∈ lw_tbl := fun w h => (goodIn_p wsL_law0_r25 [813, 817, 821, 587, 825, 165] (by decide +kernel) (by decide +kernel) w h).1
theorem wsL_law_k26 : ∀ w ∈ wsL_law0_r26, w ∈ lw_tbl := fun w h => (goodIn_p wsL_law0_r26 [169, 173, 829, 833, 837] (by decide +kernel) (by decide +kernel) w h).1
theorem wsL_law_k27 : ∀ w ∈ wsL_law0_r27, w ∈ lw_tbl := fun w h => (goodIn_p wsL_law0_r27 [594, 841] (by decide +kernel) (by decide +kernel) w h).1
theorem wsL_law_twsX40 : ∀ w ∈ wsX40, w ∈ lw_tbl := by decide +kernel
theorem wsL_law_twsX50 : ∀ w ∈ wsX50, w ∈ lw_tbl := by decide +kernel
theorem wsL_law_twsX20 : ∀ w ∈ wsX20, w ∈ lw_tbl := by decide +kernel
theorem wsL_law_twsX30 : ∀ w ∈ wsX30, w ∈ lw_tbl := by decide +kernel
theorem wsL_app {a b : List Cond} (ha : ∀ w ∈ a, w ∈ lw_tbl) (hb : ∀ w ∈ b, w ∈ lw_tbl) : ∀ w ∈ a ++ b, w ∈ lw_tbl := fun w h => (List.mem_append.mp h).elim (ha w) (hb w)
theorem wsL_law_in0 : ∀ w ∈ wsL_law0, w ∈ lw_tbl := (wsL_app (wsL_app (wsL_app (wsL_app (wsL_app (wsL_app wsL_law_k1 (wsL_app wsL_law_k2 (wsL_app wsL_law_k3 (wsL_app wsL_law_k4 (wsL_app wsL_law_k5 (wsL_app wsL_law_k6 (wsL_app wsL_law_k7 (wsL_app wsL_law_k8 (wsL_app wsL_law_k9 (wsL_app wsL_law_k10 (wsL_app wsL_law_k11 (wsL_app wsL_law_k12 (wsL_app wsL_law_k13 (wsL_app wsL_law_k14 (wsL_app wsL_law_k15 (wsL_app wsL_law_k16 (wsL_app wsL_law_k17 (wsL_app wsL_law_k18 (wsL_app wsL_law_k19 (wsL_app wsL_law_k20 (wsL_app wsL_law_k21 (wsL_app wsL_law_k22 (wsL_app wsL_law_k23 (wsL_app wsL_law_k24 (wsL_app wsL_law_k25 (wsL_app wsL_law_k26 wsL_law_k27)))))))))))))))))))))))))) wsL_law_twsX40) wsL_law_twsX50) wsL_law_twsX20) wsL_law_twsX30) (fun w h => absurd h List.not_mem_nil))
theorem wsL_law_x0 : ∀ w ∈ (vx_atS RX4 39 "java/lang/IllegalStateException" ["java/lang/RuntimeException", "java/lang/Exception"]).filter goodWord, w ∈ lw_tbl := by decide +kernel
theorem wsL_law_x1 : ∀ w ∈ (vx_atS RX4 164 "java/lang/IllegalArgumentException" ["java/lang/RuntimeException", "java/lang/Exception"]).filter goodWord, w ∈ lw_tbl := by decide +kernel
theorem wsL_law_x2 : ∀ w ∈ (vx_atS RX4 111 "java/lang/IndexOutOfBoundsException" ["java/lang/RuntimeException", "java/lang/Exception"]).filter goodWord, w ∈ lw_tbl := by decide +kernel
theorem wsL_law_in : ∀ w ∈ wsL_law, w ∈ lw_tbl := fun w h => (List.mem_append.mp h).elim (fun h => (List.mem_append.mp h).elim (fun h => (List.mem_append.mp h).elim (fun h => wsL_law_in0 w h) (fun h => wsL_law_x0 w h)) (fun h => wsL_law_x1 w h)) (fun h => wsL_law_x2 w h)
theorem inX0 : ∀ w ∈ wsX00, w ∈ lw_tbl := by decide +kernel
theorem inX1 : ∀ w ∈ wsX10, w ∈ lw_tbl := by decide +kernel
theorem inlX2 : ∀ w ∈ wsX20, w ∈ wsL_law := fun _ h => List.mem_append_left _ (List.mem_append_left _ (List.mem_append_left _ (List.mem_append_left _ (List.mem_append_left _ (List.mem_append_right _ h)))))
theorem inX2 : ∀ w ∈ wsX20, w ∈ lw_tbl := fun w h => wsL_law_in w (inlX2 w h)
theorem inlX3 : ∀ w ∈ wsX30, w ∈ wsL_law := fun _ h => List.mem_append_left _ (List.mem_append_left _ (List.mem_append_left _ (List.mem_append_left _ (List.mem_append_right _ h))))
theorem inX3 : ∀ w ∈ wsX30, w ∈ lw_tbl := fun w h => wsL_law_in w (inlX3 w h)
theorem inlX4 : ∀ w ∈ wsX40, w ∈ wsL_law := fun _ h => List.mem_append_left _ (List.mem_append_left _ (List.mem_append_left _ (List.mem_append_left _ (List.mem_append_left _ (List.mem_append_left _ (List.mem_append_left _ (List.mem_append_right _ h)))))))
theorem inX4 : ∀ w ∈ wsX40, w ∈ lw_tbl := fun w h => wsL_law_in w (inlX4 w h)
theorem inlX5 : ∀ w ∈ wsX50, w ∈ wsL_law := fun _ h => List.mem_append_left _ (List.mem_append_left _ (List.mem_append_left _ (List.mem_append_left _ (List.mem_append_left _ (List.mem_append_left _ (List.mem_append_right _ h))))))
theorem inX5 : ∀ w ∈ wsX50, w ∈ lw_tbl := fun w h => wsL_law_in w (inlX5 w h)
theorem inJ9 : ∀ w ∈ wsJ90, w ∈ lw_tbl := by decide +kernel
theorem inJ0 : ∀ w ∈ wsJ00, w ∈ lw_tbl := by decide +kernel
theorem dX0_of_0 : decode cX0_of 0 = .ok (.iload_n 0, 1) := by decide +kernel
theorem dX0_of_1 : decode cX0_of 1 = .ok (.iload_n 1, 1) := by decide +kernel
theorem dX0_of_2 : decode cX0_of 2 = .ok (.bipush 8, 2) := by decide +kernel
theorem dX0_of_4 : decode cX0_of 4 = .ok (.ishl, 1) := by decide +kernel
theorem dX0_of_5 : decode cX0_of 5 = .ok (.ior, 1) := by decide +kernel
theorem dX0_of_6 : decode cX0_of 6 = .ok (.iload_n 2, 1) := by decide +kernel
theorem dX0_of_7 : decode cX0_of 7 = .ok (.bipush 16, 2) := by decide +kernel
theorem dX0_of_9 : decode cX0_of 9 = .ok (.ishl, 1) := by decide +kernel
theorem dX0_of_10 : decode cX0_of 10 = .ok (.ior, 1) := by decide +kernel
theorem dX0_of_11 : decode cX0_of 11 = .ok (.iload_n 3, 1) := by decide +kernel
theorem dX0_of_12 : decode cX0_of 12 = .ok (.bipush 24, 2) := by decide +kernel
theorem dX0_of_14 : decode cX0_of 14 = .ok (.ishl, 1) := by decide +kernel
theorem dX0_of_15 : decode cX0_of 15 = .ok (.ior, 1) := by decide +kernel
theorem dX0_of_16 : decode cX0_of 16 = .ok (.ireturn, 1) := by decide +kernel
theorem dX0_side_0 : decode cX0_side 0 = .ok (.iload_n 0, 1) := by decide +kernel
theorem dX0_side_1 : decode cX0_side 1 = .ok (.bipush 8, 2) := by decide +kernel
theorem dX0_side_3 : decode cX0_side 3 = .ok (.iload_n 1, 1) := by decide +kernel
theorem dX0_side_4 : decode cX0_side 4 = .ok (.imul, 1) := by decide +kernel
theorem dX0_side_5 : decode cX0_side 5 = .ok (.iushr, 1) := by decide +kernel
theorem dX0_side_6 : decode cX0_side 6 = .ok (.sipush 255, 3) := by decide +kernel
theorem dX0_side_9 : decode cX0_side 9 = .ok (.iand, 1) := by decide +kernel
theorem dX0_side_10 : decode cX0_side 10 = .ok (.ireturn, 1) := by decide +kernel
set_option maxRecDepth 20000 in
theorem ggX0_meet_X0_side : GoodIn wsX0_meet wsX0_side := goodIn_r _ [4] (by decide +kernel) (by decide +kernel)
set_option maxRecDepth 20000 in
theorem gX0_meet_X0_side : GoodIn wsX0_meet (va_wsS RX0 9 yX0_side wsX0_side) := goodIn_app (goodIn_of _ (by decide +kernel)) ggX0_meet_X0_side
theorem dX0_meet_0 : decode cX0_meet 0 = .ok (.iload_n 0, 1) := by decide +kernel
theorem dX0_meet_1 : decode cX0_meet 1 = .ok (.iconst 0, 1) := by decide +kernel
theorem dX0_meet_2 : decode cX0_meet 2 = .ok (.invokestatic 9, 3) := by decide +kernel
theorem dX0_meet_5 : decode cX0_meet 5 = .ok (.iload_n 1, 1) := by decide +kernel
theorem dX0_meet_6 : decode cX0_meet 6 = .ok (.iconst 2, 1) := by decide +kernel
theorem dX0_meet_7 : decode cX0_meet 7 = .ok (.invokestatic 9, 3) := by decide +kernel
theorem dX0_meet_10 : decode cX0_meet 10 = .ok (.if_icmp .gt 46, 3) := by decide +kernel
theorem dX0_meet_13 : decode cX0_meet 13 = .ok (.iload_n 1, 1) := by decide +kernel
theorem dX0_meet_14 : decode cX0_meet 14 = .ok (.iconst 0, 1) := by decide +kernel
theorem dX0_meet_15 : decode cX0_meet 15 = .ok (.invokestatic 9, 3) := by decide +kernel
theorem dX0_meet_18 : decode cX0_meet 18 = .ok (.iload_n 0, 1) := by decide +kernel
theorem dX0_meet_19 : decode cX0_meet 19 = .ok (.iconst 2, 1) := by decide +kernel
theorem dX0_meet_20 : decode cX0_meet 20 = .ok (.invokestatic 9, 3) := by decide +kernel
theorem dX0_meet_23 : decode cX0_meet 23 = .ok (.if_icmp .gt 33, 3) := by decide +kernel
theorem dX0_meet_26 : decode cX0_meet 26 = .ok (.iload_n 0, 1) := by decide +kernel
theorem dX0_meet_27 : decode cX0_meet 27 = .ok (.iconst 1, 1) := by decide +kernel
theorem dX0_meet_28 : decode cX0_meet 28 = .ok (.invokestatic 9, 3) := by decide +kernel
theorem dX0_meet_31 : decode cX0_meet 31 = .ok (.iload_n 1, 1) := by decide +kernel
theorem dX0_meet_32 : decode cX0_meet 32 = .ok (.iconst 3, 1) := by decide +kernel
theorem dX0_meet_33 : decode cX0_meet 33 = .ok (.invokestatic 9, 3) := by decide +kernel
theorem dX0_meet_36 : decode cX0_meet 36 = .ok (.if_icmp .gt 20, 3) := by decide +kernel
theorem dX0_meet_39 : decode cX0_meet 39 = .ok (.iload_n 1, 1) := by decide +kernel
theorem dX0_meet_40 : decode cX0_meet 40 = .ok (.iconst 1, 1) := by decide +kernel
theorem dX0_meet_41 : decode cX0_meet 41 = .ok (.invokestatic 9, 3) := by decide +kernel
theorem dX0_meet_44 : decode cX0_meet 44 = .ok (.iload_n 0, 1) := by decide +kernel
theorem dX0_meet_45 : decode cX0_meet 45 = .ok (.iconst 3, 1) := by decide +kernel
theorem dX0_meet_46 : decode cX0_meet 46 = .ok (.invokestatic 9, 3) := by decide +kernel
theorem dX0_meet_49 : decode cX0_meet 49 = .ok (.if_icmp .gt 7, 3) := by decide +kernel
theorem dX0_meet_52 : decode cX0_meet 52 = .ok (.iconst 1, 1) := by decide +kernel
theorem dX0_meet_53 : decode cX0_meet 53 = .ok (.goto 4, 3) := by decide +kernel
theorem dX0_meet_56 : decode cX0_meet 56 = .ok (.iconst 0, 1) := by decide +kernel
theorem dX0_meet_57 : decode cX0_meet 57 = .ok (.ireturn, 1) := by decide +kernel
set_option maxRecDepth 20000 in
theorem ggX0_around_X0_side : GoodIn wsX0_around wsX0_side := goodIn_r _ [11] (by decide +kernel) (by decide +kernel)
set_option maxRecDepth 20000 in
theorem gX0_around_X0_side : GoodIn wsX0_around (va_wsS RX0 9 yX0_side wsX0_side) := goodIn_app (goodIn_of _ (by decide +kernel)) ggX0_around_X0_side
set_option maxRecDepth 20000 in
theorem ggX0_around_X0_of : GoodIn wsX0_around wsX0_of := goodIn_r _ [14] (by decide +kernel) (by decide +kernel)
set_option maxRecDepth 20000 in
theorem gX0_around_X0_of : GoodIn wsX0_around (va_wsS RX0 23 yX0_of wsX0_of) := goodIn_app (goodIn_of _ (by decide +kernel)) ggX0_around_X0_of
theorem dX0_around_0 : decode cX0_around 0 = .ok (.iload_n 0, 1) := by decide +kernel
theorem dX0_around_1 : decode cX0_around 1 = .ok (.iconst 0, 1) := by decide +kernel
theorem dX0_around_2 : decode cX0_around 2 = .ok (.invokestatic 9, 3) := by decide +kernel
theorem dX0_around_5 : decode cX0_around 5 = .ok (.iload_n 1, 1) := by decide +kernel
theorem dX0_around_6 : decode cX0_around 6 = .ok (.iconst 0, 1) := by decide +kernel
theorem dX0_around_7 : decode cX0_around 7 = .ok (.invokestatic 9, 3) := by decide +kernel
theorem dX0_around_10 : decode cX0_around 10 = .ok (.invokestatic 15, 3) := by decide +kernel
theorem dX0_around_13 : decode cX0_around 13 = .ok (.iload_n 0, 1) := by decide +kernel
theorem dX0_around_14 : decode cX0_around 14 = .ok (.iconst 1, 1) := by decide +kernel
theorem dX0_around_15 : decode cX0_around 15 = .ok (.invokestatic 9, 3) := by decide +kernel
theorem dX0_around_18 : decode cX0_around 18 = .ok (.iload_n 1, 1) := by decide +kernel
theorem dX0_around_19 : decode cX0_around 19 = .ok (.iconst 1, 1) := by decide +kernel
theorem dX0_around_20 : decode cX0_around 20 = .ok (.invokestatic 9, 3) := by decide +kernel
theorem dX0_around_23 : decode cX0_around 23 = .ok (.invokestatic 15, 3) := by decide +kernel
theorem dX0_around_26 : decode cX0_around 26 = .ok (.iload_n 0, 1) := by decide +kernel
theorem dX0_around_27 : decode cX0_around 27 = .ok (.iconst 2, 1) := by decide +kernel
theorem dX0_around_28 : decode cX0_around 28 = .ok (.invokestatic 9, 3) := by decide +kernel
theorem dX0_around_31 : decode cX0_around 31 = .ok (.iload_n 1, 1) := by decide +kernel
theorem dX0_around_32 : decode cX0_around 32 = .ok (.iconst 2, 1) := by decide +kernel
theorem dX0_around_33 : decode cX0_around 33 = .ok (.invokestatic 9, 3) := by decide +kernel
theorem dX0_around_36 : decode cX0_around 36 = .ok (.invokestatic 20, 3) := by decide +kernel
theorem dX0_around_39 : decode cX0_around 39 = .ok (.iload_n 0, 1) := by decide +kernel
theorem dX0_around_40 : decode cX0_around 40 = .ok (.iconst 3, 1) := by decide +kernel
theorem dX0_around_41 : decode cX0_around 41 = .ok (.invokestatic 9, 3) := by decide +kernel
theorem dX0_around_44 : decode cX0_around 44 = .ok (.iload_n 1, 1) := by decide +kernel
theorem dX0_around_45 : decode cX0_around 45 = .ok (.iconst 3, 1) := by decide +kernel
theorem dX0_around_46 : decode cX0_around 46 = .ok (.invokestatic 9, 3) := by decide +kernel
theorem dX0_around_49 : decode cX0_around 49 = .ok (.invokestatic 20, 3) := by decide +kernel
theorem dX0_around_52 : decode cX0_around 52 = .ok (.invokestatic 23, 3) := by decide +kernel
theorem dX0_around_55 : decode cX0_around 55 = .ok (.ireturn, 1) := by decide +kernel
set_option maxRecDepth 20000 in
theorem ggX0_points_X0_side : GoodIn wsX0_points wsX0_side := goodIn_r _ [4] (by decide +kernel) (by decide +kernel)
set_option maxRecDepth 20000 in
theorem gX0_points_X0_side : GoodIn wsX0_points (va_wsS RX0 9 yX0_side wsX0_side) := goodIn_app (goodIn_of _ (by decide +kernel)) ggX0_points_X0_side
theorem dX0_points_0 : decode cX0_points 0 = .ok (.iload_n 0, 1) := by decide +kernel
theorem dX0_points_1 : decode cX0_points 1 = .ok (.iconst 2, 1) := by decide +kernel
theorem dX0_points_2 : decode cX0_points 2 = .ok (.invokestatic 9, 3) := by decide +kernel
theorem dX0_points_5 : decode cX0_points 5 = .ok (.iload_n 0, 1) := by decide +kernel
theorem dX0_points_6 : decode cX0_points 6 = .ok (.iconst 0, 1) := by decide +kernel
theorem dX0_points_7 : decode cX0_points 7 = .ok (.invokestatic 9, 3) := by decide +kernel
theorem dX0_points_10 : decode cX0_points 10 = .ok (.isub, 1) := by decide +kernel
theorem dX0_points_11 : decode cX0_points 11 = .ok (.iconst 1, 1) := by decide +kernel
theorem dX0_points_12 : decode cX0_points 12 = .ok (.iadd, 1) := by decide +kernel
theorem dX0_points_13 : decode cX0_points 13 = .ok (.iload_n 0, 1) := by decide +kernel
theorem dX0_points_14 : decode cX0_points 14 = .ok (.iconst 3, 1) := by decide +kernel
theorem dX0_points_15 : decode cX0_points 15 = .ok (.invokestatic 9, 3) := by decide +kernel
theorem dX0_points_18 : decode cX0_points 18 = .ok (.iload_n 0, 1) := by decide +kernel
theorem dX0_points_19 : decode cX0_points 19 = .ok (.iconst 1, 1) := by decide +kernel
theorem dX0_points_20 : decode cX0_points 20 = .ok (.invokestatic 9, 3) := by decide +kernel
theorem dX0_points_23 : decode cX0_points 23 = .ok (.isub, 1) := by decide +kernel
theorem dX0_points_24 : decode cX0_points 24 = .ok (.iconst 1, 1) := by decide +kernel
theorem dX0_points_25 : decode cX0_points 25 = .ok (.iadd, 1) := by decide +kernel
theorem dX0_points_26 : decode cX0_points 26 = .ok (.imul, 1) := by decide +kernel
theorem dX0_points_27 : decode cX0_points 27 = .ok (.ireturn, 1) := by decide +kernel
set_option maxRecDepth 20000 in
theorem ggX0_distanceFrom_X0_side : GoodIn wsX0_distanceFrom wsX0_side := goodIn_r _ [4] (by decide +kernel) (by decide +kernel)
set_option maxRecDepth 20000 in
theorem gX0_distanceFrom_X0_side : GoodIn wsX0_distanceFrom (va_wsS RX0 9 yX0_side wsX0_side) := goodIn_app (goodIn_of _ (by decide +kernel)) ggX0_distanceFrom_X0_side
set_option maxRecDepth 20000 in
theorem ggX0_distanceFrom_X0_gap : GoodIn wsX0_distanceFrom wsX0_gap := goodIn_r _ [7, 8, 9, 10, 11] (by decide +kernel) (by decide +kernel)
set_option maxRecDepth 20000 in
theorem gX0_distanceFrom_X0_gap : GoodIn wsX0_distanceFrom (va_wsS RX0 27 yX0_gap wsX0_gap) := goodIn_app (goodIn_of _ (by decide +kernel)) ggX0_distanceFrom_X0_gap
theorem dX0_distanceFrom_0 : decode cX0_distanceFrom 0 = .ok (.iload_n 0, 1) := by decide +kernel
theorem dX0_distanceFrom_1 : decode cX0_distanceFrom 1 = .ok (.iconst 0, 1) := by decide +kernel
theorem dX0_distanceFrom_2 : decode cX0_distanceFrom 2 = .ok (.invokestatic 9, 3) := by decide +kernel
theorem dX0_distanceFrom_5 : decode cX0_distanceFrom 5 = .ok (.iload_n 0, 1) := by decide +kernel
theorem dX0_distanceFrom_6 : decode cX0_distanceFrom 6 = .ok (.iconst 2, 1) := by decide +kernel
theorem dX0_distanceFrom_7 : decode cX0_distanceFrom 7 = .ok (.invokestatic 9, 3) := by decide +kernel
theorem dX0_distanceFrom_10 : decode cX0_distanceFrom 10 = .ok (.iload_n 1, 1) := by decide +kernel
theorem dX0_distanceFrom_11 : decode cX0_distanceFrom 11 = .ok (.invokestatic 27, 3) := by decide +kernel
theorem dX0_distanceFrom_14 : decode cX0_distanceFrom 14 = .ok (.istore_n 3, 1) := by decide +kernel
theorem dX0_distanceFrom_15 : decode cX0_distanceFrom 15 = .ok (.iload_n 0, 1) := by decide +kernel
theorem dX0_distanceFrom_16 : decode cX0_distanceFrom 16 = .ok (.iconst 1, 1) := by decide +kernel
theorem dX0_distanceFrom_17 : decode cX0_distanceFrom 17 = .ok (.invokestatic 9, 3) := by decide +kernel
theorem dX0_distanceFrom_20 : decode cX0_distanceFrom 20 = .ok (.iload_n 0, 1) := by decide +kernel
theorem dX0_distanceFrom_21 : decode cX0_distanceFrom 21 = .ok (.iconst 3, 1) := by decide +kernel
theorem dX0_distanceFrom_22 : decode cX0_distanceFrom 22 = .ok (.invokestatic 9, 3) := by decide +kernel
theorem dX0_distanceFrom_25 : decode cX0_distanceFrom 25 = .ok (.iload_n 2, 1) := by decide +kernel
theorem dX0_distanceFrom_26 : decode cX0_distanceFrom 26 = .ok (.invokestatic 27, 3) := by decide +kernel
theorem dX0_distanceFrom_29 : decode cX0_distanceFrom 29 = .ok (.istore 4, 2) := by decide +kernel
theorem dX0_distanceFrom_31 : decode cX0_distanceFrom 31 = .ok (.iload_n 3, 1) := by decide +kernel
theorem dX0_distanceFrom_32 : decode cX0_distanceFrom 32 = .ok (.iload_n 3, 1) := by decide +kernel
theorem dX0_distanceFrom_33 : decode cX0_distanceFrom 33 = .ok (.imul, 1) := by decide +kernel
theorem dX0_distanceFrom_34 : decode cX0_distanceFrom 34 = .ok (.iload 4, 2) := by decide +kernel
theorem dX0_distanceFrom_36 : decode cX0_distanceFrom 36 = .ok (.iload 4, 2) := by decide +kernel
theorem dX0_distanceFrom_38 : decode cX0_distanceFrom 38 = .ok (.imul, 1) := by decide +kernel
theorem dX0_distanceFrom_39 : decode cX0_distanceFrom 39 = .ok (.iadd, 1) := by decide +kernel
theorem dX0_distanceFrom_40 : decode cX0_distanceFrom 40 = .ok (.ireturn, 1) := by decide +kernel
theorem dX0_gap_0 : decode cX0_gap 0 = .ok (.iconst 0, 1) := by decide +kernel
theorem dX0_gap_1 : decode cX0_gap 1 = .ok (.iload_n 0, 1) := by decide +kernel
theorem dX0_gap_2 : decode cX0_gap 2 = .ok (.iload_n 2, 1) := by decide +kernel
theorem dX0_gap_3 : decode cX0_gap 3 = .ok (.isub, 1) := by decide +kernel
theorem dX0_gap_4 : decode cX0_gap 4 = .ok (.iload_n 2, 1) := by decide +kernel
theorem dX0_gap_5 : decode cX0_gap 5 = .ok (.iload_n 1, 1) := by decide +kernel
theorem dX0_gap_6 : decode cX0_gap 6 = .ok (.isub, 1) := by decide +kernel
theorem dX0_gap_7 : decode cX0_gap 7 = .ok (.invokestatic 20, 3) := by decide +kernel
theorem dX0_gap_10 : decode cX0_gap 10 = .ok (.invokestatic 20, 3) := by decide +kernel
theorem dX0_gap_13 : decode cX0_gap 13 = .ok (.ireturn, 1) := by decide +kernel
set_option maxRecDepth 20000 in
theorem ggX0_middleKey_X0_side : GoodIn wsX0_middleKey wsX0_side := goodIn_r _ [4] (by decide +kernel) (by decide +kernel)
set_option maxRecDepth 20000 in
theorem gX0_middleKey_X0_side : GoodIn wsX0_middleKey (va_wsS RX0 9 yX0_side wsX0_side) := goodIn_app (goodIn_of _ (by decide +kernel)) ggX0_middleKey_X0_side
set_option maxRecDepth 20000 in
theorem ggX0_middleKey_X1_lengthTo : GoodIn wsX0_middleKey wsX1_lengthTo := goodIn_r _ [8, 9, 10, 7, 11] (by decide +kernel) (by decide +kernel)
set_option maxRecDepth 20000 in
theorem gX0_middleKey_X1_lengthTo : GoodIn wsX0_middleKey (va_wsS RX0 31 yX1_lengthTo wsX1_lengthTo) := goodIn_app (goodIn_of _ (by decide +kernel)) ggX0_middleKey_X1_lengthTo
theorem dX0_middleKey_0 : decode cX0_middleKey 0 = .ok (.iload_n 0, 1) := by decide +kernel
theorem dX0_middleKey_1 : decode cX0_middleKey 1 = .ok (.iconst 0, 1) := by decide +kernel
theorem dX0_middleKey_2 : decode cX0_middleKey 2 = .ok (.invokestatic 9, 3) := by decide +kernel
theorem dX0_middleKey_5 : decode cX0_middleKey 5 = .ok (.iload_n 0, 1) := by decide +kernel
theorem dX0_middleKey_6 : decode cX0_middleKey 6 = .ok (.iconst 2, 1) := by decide +kernel
theorem dX0_middleKey_7 : decode cX0_middleKey 7 = .ok (.invokestatic 9, 3) := by decide +kernel
theorem dX0_middleKey_10 : decode cX0_middleKey 10 = .ok (.iadd, 1) := by decide +kernel
theorem dX0_middleKey_11 : decode cX0_middleKey 11 = .ok (.iconst 2, 1) := by decide +kernel
theorem dX0_middleKey_12 : decode cX0_middleKey 12 = .ok (.idiv, 1) := by decide +kernel
theorem dX0_middleKey_13 : decode cX0_middleKey 13 = .ok (.istore_n 1, 1) := by decide +kernel
theorem dX0_middleKey_14 : decode cX0_middleKey 14 = .ok (.iload_n 0, 1) := by decide +kernel
theorem dX0_middleKey_15 : decode cX0_middleKey 15 = .ok (.iconst 1, 1) := by decide +kernel
theorem dX0_middleKey_16 : decode cX0_middleKey 16 = .ok (.invokestatic 9, 3) := by decide +kernel
theorem dX0_middleKey_19 : decode cX0_middleKey 19 = .ok (.iload_n 0, 1) := by decide +kernel
theorem dX0_middleKey_20 : decode cX0_middleKey 20 = .ok (.iconst 3, 1) := by decide +kernel
theorem dX0_middleKey_21 : decode cX0_middleKey 21 = .ok (.invokestatic 9, 3) := by decide +kernel
theorem dX0_middleKey_24 : decode cX0_middleKey 24 = .ok (.iadd, 1) := by decide +kernel
theorem dX0_middleKey_25 : decode cX0_middleKey 25 = .ok (.iconst 2, 1) := by decide +kernel
theorem dX0_middleKey_26 : decode cX0_middleKey 26 = .ok (.idiv, 1) := by decide +kernel
theorem dX0_middleKey_27 : decode cX0_middleKey 27 = .ok (.istore_n 2, 1) := by decide +kernel
theorem dX0_middleKey_28 : decode cX0_middleKey 28 = .ok (.iload_n 1, 1) := by decide +kernel
theorem dX0_middleKey_29 : decode cX0_middleKey 29 = .ok (.iload_n 2, 1) := by decide +kernel
theorem dX0_middleKey_30 : decode cX0_middleKey 30 = .ok (.invokestatic 31, 3) := by decide +kernel
theorem dX0_middleKey_33 : decode cX0_middleKey 33 = .ok (.ireturn, 1) := by decide +kernel
set_option maxRecDepth 20000 in
theorem ggX1_lengthTo_X1_quarter : GoodIn wsX1_lengthTo wsX1_quarter := goodIn_r _ [4] (by decide +kernel) (by decide +kernel)
set_option maxRecDepth 20000 in
theorem gX1_lengthTo_X1_quarter : GoodIn wsX1_lengthTo (va_wsS RX1 9 yX1_quarter wsX1_quarter) := goodIn_app (goodIn_of _ (by decide +kernel)) ggX1_lengthTo_X1_quarter
theorem dX1_lengthTo_0 : decode cX1_lengthTo 0 = .ok (.iload_n 0, 1) := by decide +kernel
theorem dX1_lengthTo_1 : decode cX1_lengthTo 1 = .ok (.istore_n 2, 1) := by decide +kernel
theorem dX1_lengthTo_2 : decode cX1_lengthTo 2 = .ok (.iload_n 1, 1) := by decide +kernel
theorem dX1_lengthTo_3 : decode cX1_lengthTo 3 = .ok (.istore_n 3, 1) := by decide +kernel
theorem dX1_lengthTo_4 : decode cX1_lengthTo 4 = .ok (.iconst 0, 1) := by decide +kernel
theorem dX1_lengthTo_5 : decode cX1_lengthTo 5 = .ok (.istore 4, 2) := by decide +kernel
theorem dX1_lengthTo_7 : decode cX1_lengthTo 7 = .ok (.sipush 128, 3) := by decide +kernel
theorem dX1_lengthTo_10 : decode cX1_lengthTo 10 = .ok (.istore 5, 2) := by decide +kernel
theorem dX1_lengthTo_12 : decode cX1_lengthTo 12 = .ok (.iload 5, 2) := by decide +kernel
theorem dX1_lengthTo_14 : decode cX1_lengthTo 14 = .ok (.ifCond .le 98, 3) := by decide +kernel
theorem dX1_lengthTo_17 : decode cX1_lengthTo 17 = .ok (.iload_n 2, 1) := by decide +kernel
theorem dX1_lengthTo_18 : decode cX1_lengthTo 18 = .ok (.iload 5, 2) := by decide +kernel
theorem dX1_lengthTo_20 : decode cX1_lengthTo 20 = .ok (.iand, 1) := by decide +kernel
theorem dX1_lengthTo_21 : decode cX1_lengthTo 21 = .ok (.ifCond .eq 7, 3) := by decide +kernel
theorem dX1_lengthTo_24 : decode cX1_lengthTo 24 = .ok (.iconst 1, 1) := by decide +kernel
theorem dX1_lengthTo_25 : decode cX1_lengthTo 25 = .ok (.goto 4, 3) := by decide +kernel
theorem dX1_lengthTo_28 : decode cX1_lengthTo 28 = .ok (.iconst 0, 1) := by decide +kernel
theorem dX1_lengthTo_29 : decode cX1_lengthTo 29 = .ok (.istore 6, 2) := by decide +kernel
theorem dX1_lengthTo_31 : decode cX1_lengthTo 31 = .ok (.iload_n 3, 1) := by decide +kernel
theorem dX1_lengthTo_32 : decode cX1_lengthTo 32 = .ok (.iload 5, 2) := by decide +kernel
theorem dX1_lengthTo_34 : decode cX1_lengthTo 34 = .ok (.iand, 1) := by decide +kernel
theorem dX1_lengthTo_35 : decode cX1_lengthTo 35 = .ok (.ifCond .eq 7, 3) := by decide +kernel
theorem dX1_lengthTo_38 : decode cX1_lengthTo 38 = .ok (.iconst 1, 1) := by decide +kernel
theorem dX1_lengthTo_39 : decode cX1_lengthTo 39 = .ok (.goto 4, 3) := by decide +kernel
theorem dX1_lengthTo_42 : decode cX1_lengthTo 42 = .ok (.iconst 0, 1) := by decide +kernel
theorem dX1_lengthTo_43 : decode cX1_lengthTo 43 = .ok (.istore 7, 2) := by decide +kernel
theorem dX1_lengthTo_45 : decode cX1_lengthTo 45 = .ok (.iload 4, 2) := by decide +kernel
theorem dX1_lengthTo_47 : decode cX1_lengthTo 47 = .ok (.iload 5, 2) := by decide +kernel
theorem dX1_lengthTo_49 : decode cX1_lengthTo 49 = .ok (.iload 5, 2) := by decide +kernel
theorem dX1_lengthTo_51 : decode cX1_lengthTo 51 = .ok (.imul, 1) := by decide +kernel
theorem dX1_lengthTo_52 : decode cX1_lengthTo 52 = .ok (.iload 6, 2) := by decide +kernel
theorem dX1_lengthTo_54 : decode cX1_lengthTo 54 = .ok (.iload 7, 2) := by decide +kernel
theorem dX1_lengthTo_56 : decode cX1_lengthTo 56 = .ok (.invokestatic 9, 3) := by decide +kernel
theorem dX1_lengthTo_59 : decode cX1_lengthTo 59 = .ok (.imul, 1) := by decide +kernel
theorem dX1_lengthTo_60 : decode cX1_lengthTo 60 = .ok (.iadd, 1) := by decide +kernel
theorem dX1_lengthTo_61 : decode cX1_lengthTo 61 = .ok (.istore 4, 2) := by decide +kernel
theorem dX1_lengthTo_63 : decode cX1_lengthTo 63 = .ok (.iload 7, 2) := by decide +kernel
theorem dX1_lengthTo_65 : decode cX1_lengthTo 65 = .ok (.ifCond .ne 38, 3) := by decide +kernel
theorem dX1_lengthTo_68 : decode cX1_lengthTo 68 = .ok (.iload_n 2, 1) := by decide +kernel
theorem dX1_lengthTo_69 : decode cX1_lengthTo 69 = .ok (.istore 8, 2) := by decide +kernel
theorem dX1_lengthTo_71 : decode cX1_lengthTo 71 = .ok (.iload 6, 2) := by decide +kernel
theorem dX1_lengthTo_73 : decode cX1_lengthTo 73 = .ok (.ifCond .eq 11, 3) := by decide +kernel
theorem dX1_lengthTo_76 : decode cX1_lengthTo 76 = .ok (.sipush 255, 3) := by decide +kernel
theorem dX1_lengthTo_79 : decode cX1_lengthTo 79 = .ok (.iload_n 3, 1) := by decide +kernel
theorem dX1_lengthTo_80 : decode cX1_lengthTo 80 = .ok (.isub, 1) := by decide +kernel
theorem dX1_lengthTo_81 : decode cX1_lengthTo 81 = .ok (.goto 4, 3) := by decide +kernel
theorem dX1_lengthTo_84 : decode cX1_lengthTo 84 = .ok (.iload_n 3, 1) := by decide +kernel
theorem dX1_lengthTo_85 : decode cX1_lengthTo 85 = .ok (.istore_n 2, 1) := by decide +kernel
theorem dX1_lengthTo_86 : decode cX1_lengthTo 86 = .ok (.iload 6, 2) := by decide +kernel
theorem dX1_lengthTo_88 : decode cX1_lengthTo 88 = .ok (.ifCond .eq 12, 3) := by decide +kernel
theorem dX1_lengthTo_91 : decode cX1_lengthTo 91 = .ok (.sipush 255, 3) := by decide +kernel
theorem dX1_lengthTo_94 : decode cX1_lengthTo 94 = .ok (.iload 8, 2) := by decide +kernel
theorem dX1_lengthTo_96 : decode cX1_lengthTo 96 = .ok (.isub, 1) := by decide +kernel
theorem dX1_lengthTo_97 : decode cX1_lengthTo 97 = .ok (.goto 5, 3) := by decide +kernel
theorem dX1_lengthTo_100 : decode cX1_lengthTo 100 = .ok (.iload 8, 2) := by decide +kernel
theorem dX1_lengthTo_102 : decode cX1_lengthTo 102 = .ok (.istore_n 3, 1) := by decide +kernel
theorem dX1_lengthTo_103 : decode cX1_lengthTo 103 = .ok (.iload 5, 2) := by decide +kernel
theorem dX1_lengthTo_105 : decode cX1_lengthTo 105 = .ok (.iconst 2, 1) := by decide +kernel
theorem dX1_lengthTo_106 : decode cX1_lengthTo 106 = .ok (.idiv, 1) := by decide +kernel
theorem dX1_lengthTo_107 : decode cX1_lengthTo 107 = .ok (.istore 5, 2) := by decide +kernel
theorem dX1_lengthTo_109 : decode cX1_lengthTo 109 = .ok (.goto (-97), 3) := by decide +kernel
theorem dX1_lengthTo_112 : decode cX1_lengthTo 112 = .ok (.iload 4, 2) := by decide +kernel
theorem dX1_lengthTo_114 : decode cX1_lengthTo 114 = .ok (.ireturn, 1) := by decide +kernel
theorem dX1_quarter_0 : decode cX1_quarter 0 = .ok (.iload_n 0, 1) := by decide +kernel
theorem dX1_quarter_1 : decode cX1_quarter 1 = .ok (.ifCond .eq 13, 3) := by decide +kernel
theorem dX1_quarter_4 : decode cX1_quarter 4 = .ok (.iload_n 1, 1) := by decide +kernel
theorem dX1_quarter_5 : decode cX1_quarter 5 = .ok (.ifCond .eq 7, 3) := by decide +kernel
theorem dX1_quarter_8 : decode cX1_quarter 8 = .ok (.iconst 2, 1) := by decide +kernel
theorem dX1_quarter_9 : decode cX1_quarter 9 = .ok (.goto 4, 3) := by decide +kernel
theorem dX1_quarter_12 : decode cX1_quarter 12 = .ok (.iconst 3, 1) := by decide +kernel
theorem dX1_quarter_13 : decode cX1_quarter 13 = .ok (.ireturn, 1) := by decide +kernel
theorem dX1_quarter_14 : decode cX1_quarter 14 = .ok (.iload_n 1, 1) := by decide +kernel
theorem dX1_quarter_15 : decode cX1_quarter 15 = .ok (.ifCond .eq 7, 3) := by decide +kernel
theorem dX1_quarter_18 : decode cX1_quarter 18 = .ok (.iconst 1, 1) := by decide +kernel
theorem dX1_quarter_19 : decode cX1_quarter 19 = .ok (.goto 4, 3) := by decide +kernel
theorem dX1_quarter_22 : decode cX1_quarter 22 = .ok (.iconst 0, 1) := by decide +kernel
theorem dX1_quarter_23 : decode cX1_quarter 23 = .ok (.ireturn, 1) := by decide +kernel
theorem dX2_init_0 : decode cX2_init 0 = .ok (.aload_n 0, 1) := by decide +kernel
theorem dX2_init_1 : decode cX2_init 1 = .ok (.invokespecial 3, 3) := by decide +kernel
theorem dX2_init_4 : decode cX2_init 4 = .ok (.aload_n 0, 1) := by decide +kernel
theorem dX2_init_5 : decode cX2_init 5 = .ok (.bipush 100, 2) := by decide +kernel
theorem dX2_init_7 : decode cX2_init 7 = .ok (.newarray .int, 2) := by decide +kernel
theorem dX2_init_9 : decode cX2_init 9 = .ok (.putfield 9, 3) := by decide +kernel
theorem dX2_init_12 : decode cX2_init 12 = .ok (.aload_n 0, 1) := by decide +kernel
theorem dX2_init_13 : decode cX2_init 13 = .ok (.bipush 100, 2) := by decide +kernel
theorem dX2_init_15 : decode cX2_init 15 = .ok (.newarray .int, 2) := by decide +kernel
theorem dX2_init_17 : decode cX2_init 17 = .ok (.putfield 15, 3) := by decide +kernel
theorem dX2_init_20 : decode cX2_init 20 = .ok (.aload_n 0, 1) := by decide +kernel
theorem dX2_init_21 : decode cX2_init 21 = .ok (.bipush 100, 2) := by decide +kernel
theorem dX2_init_23 : decode cX2_init 23 = .ok (.newarray .boolean, 2) := by decide +kernel
theorem dX2_init_25 : decode cX2_init 25 = .ok (.putfield 18, 3) := by decide +kernel
theorem dX2_init_28 : decode cX2_init 28 = .ok (.aload_n 0, 1) := by decide +kernel
theorem dX2_init_29 : decode cX2_init 29 = .ok (.bipush 60, 2) := by decide +kernel
theorem dX2_init_31 : decode cX2_init 31 = .ok (.newarray .int, 2) := by decide +kernel
theorem dX2_init_33 : decode cX2_init 33 = .ok (.putfield 22, 3) := by decide +kernel
theorem dX2_init_36 : decode cX2_init 36 = .ok (.return_, 1) := by decide +kernel
theorem dX2_size_0 : decode cX2_size 0 = .ok (.aload_n 0, 1) := by decide +kernel
theorem dX2_size_1 : decode cX2_size 1 = .ok (.getfield 25, 3) := by decide +kernel
theorem dX2_size_4 : decode cX2_size 4 = .ok (.ireturn, 1) := by decide +kernel
theorem dX2_added_0 : decode cX2_added 0 = .ok (.aload_n 0, 1) := by decide +kernel
theorem dX2_added_1 : decode cX2_added 1 = .ok (.getfield 29, 3) := by decide +kernel
theorem dX2_added_4 : decode cX2_added 4 = .ok (.ireturn, 1) := by decide +kernel
theorem dX2_hasRoom_0 : decode cX2_hasRoom 0 = .ok (.aload_n 0, 1) := by decide +kernel
theorem dX2_hasRoom_1 : decode cX2_hasRoom 1 = .ok (.getfield 29, 3) := by decide +kernel
theorem dX2_hasRoom_4 : decode cX2_hasRoom 4 = .ok (.bipush 100, 2) := by decide +kernel
theorem dX2_hasRoom_6 : decode cX2_hasRoom 6 = .ok (.if_icmp .ge 16, 3) := by decide +kernel
theorem dX2_hasRoom_9 : decode cX2_hasRoom 9 = .ok (.aload_n 0, 1) := by decide +kernel
theorem dX2_hasRoom_10 : decode cX2_hasRoom 10 = .ok (.getfield 25, 3) := by decide +kernel
theorem dX2_hasRoom_13 : decode cX2_hasRoom 13 = .ok (.bipush 60, 2) := by decide +kernel
theorem dX2_hasRoom_15 : decode cX2_hasRoom 15 = .ok (.if_icmp .ge 7, 3) := by decide +kernel
theorem dX2_hasRoom_18 : decode cX2_hasRoom 18 = .ok (.iconst 1, 1) := by decide +kernel
theorem dX2_hasRoom_19 : decode cX2_hasRoom 19 = .ok (.goto 4, 3) := by decide +kernel
theorem dX2_hasRoom_22 : decode cX2_hasRoom 22 = .ok (.iconst 0, 1) := by decide +kernel
theorem dX2_hasRoom_23 : decode cX2_hasRoom 23 = .ok (.ireturn, 1) := by decide +kernel
theorem dX2_has_0 : decode cX2_has 0 = .ok (.iload_n 1, 1) := by decide +kernel
theorem dX2_has_1 : decode cX2_has 1 = .ok (.ifCond .lt 25, 3) := by decide +kernel
theorem dX2_has_4 : decode cX2_has 4 = .ok (.iload_n 1, 1) := by decide +kernel
theorem dX2_has_5 : decode cX2_has 5 = .ok (.aload_n 0, 1) := by decide +kernel
theorem dX2_has_6 : decode cX2_has 6 = .ok (.getfield 18, 3) := by decide +kernel
theorem dX2_has_9 : decode cX2_has 9 = .ok (.arraylength, 1) := by decide +kernel
theorem dX2_has_10 : decode cX2_has 10 = .ok (.if_icmp .ge 16, 3) := by decide +kernel
theorem dX2_has_13 : decode cX2_has 13 = .ok (.aload_n 0, 1) := by decide +kernel
theorem dX2_has_14 : decode cX2_has 14 = .ok (.getfield 18, 3) := by decide +kernel
theorem dX2_has_17 : decode cX2_has 17 = .ok (.iload_n 1, 1) := by decide +kernel
theorem dX2_has_18 : decode cX2_has 18 = .ok (.baload, 1) := by decide +kernel
theorem dX2_has_19 : decode cX2_has 19 = .ok (.ifCond .eq 7, 3) := by decide +kernel
theorem dX2_has_22 : decode cX2_has 22 = .ok (.iconst 1, 1) := by decide +kernel
theorem dX2_has_23 : decode cX2_has 23 = .ok (.goto 4, 3) := by decide +kernel
theorem dX2_has_26 : decode cX2_has 26 = .ok (.iconst 0, 1) := by decide +kernel
theorem dX2_has_27 : decode cX2_has 27 = .ok (.ireturn, 1) := by decide +kernel
theorem dX2_areaOf_0 : decode cX2_areaOf 0 = .ok (.iload_n 1, 1) := by decide +kernel
theorem dX2_areaOf_1 : decode cX2_areaOf 1 = .ok (.ifCond .lt 21, 3) := by decide +kernel
theorem dX2_areaOf_4 : decode cX2_areaOf 4 = .ok (.iload_n 1, 1) := by decide +kernel
theorem dX2_areaOf_5 : decode cX2_areaOf 5 = .ok (.aload_n 0, 1) := by decide +kernel
theorem dX2_areaOf_6 : decode cX2_areaOf 6 = .ok (.getfield 9, 3) := by decide +kernel
theorem dX2_areaOf_9 : decode cX2_areaOf 9 = .ok (.arraylength, 1) := by decide +kernel
theorem dX2_areaOf_10 : decode cX2_areaOf 10 = .ok (.if_icmp .ge 12, 3) := by decide +kernel
theorem dX2_areaOf_13 : decode cX2_areaOf 13 = .ok (.aload_n 0, 1) := by decide +kernel
theorem dX2_areaOf_14 : decode cX2_areaOf 14 = .ok (.getfield 9, 3) := by decide +kernel
theorem dX2_areaOf_17 : decode cX2_areaOf 17 = .ok (.iload_n 1, 1) := by decide +kernel
theorem dX2_areaOf_18 : decode cX2_areaOf 18 = .ok (.iaload, 1) := by decide +kernel
theorem dX2_areaOf_19 : decode cX2_areaOf 19 = .ok (.goto 4, 3) := by decide +kernel
theorem dX2_areaOf_22 : decode cX2_areaOf 22 = .ok (.iconst 0, 1) := by decide +kernel
theorem dX2_areaOf_23 : decode cX2_areaOf 23 = .ok (.ireturn, 1) := by decide +kernel
theorem dX2_keyFor_0 : decode cX2_keyFor 0 = .ok (.iload_n 1, 1) := by decide +kernel
theorem dX2_keyFor_1 : decode cX2_keyFor 1 = .ok (.ifCond .lt 21, 3) := by decide +kernel
theorem dX2_keyFor_4 : decode cX2_keyFor 4 = .ok (.iload_n 1, 1) := by decide +kernel
theorem dX2_keyFor_5 : decode cX2_keyFor 5 = .ok (.aload_n 0, 1) := by decide +kernel
theorem dX2_keyFor_6 : decode cX2_keyFor 6 = .ok (.getfield 15, 3) := by decide +kernel
theorem dX2_keyFor_9 : decode cX2_keyFor 9 = .ok (.arraylength, 1) := by decide +kernel
theorem dX2_keyFor_10 : decode cX2_keyFor 10 = .ok (.if_icmp .ge 12, 3) := by decide +kernel
theorem dX2_keyFor_13 : decode cX2_keyFor 13 = .ok (.aload_n 0, 1) := by decide +kernel
theorem dX2_keyFor_14 : decode cX2_keyFor 14 = .ok (.getfield 15, 3) := by decide +kernel
theorem dX2_keyFor_17 : decode cX2_keyFor 17 = .ok (.iload_n 1, 1) := by decide +kernel
theorem dX2_keyFor_18 : decode cX2_keyFor 18 = .ok (.iaload, 1) := by decide +kernel
theorem dX2_keyFor_19 : decode cX2_keyFor 19 = .ok (.goto 4, 3) := by decide +kernel
theorem dX2_keyFor_22 : decode cX2_keyFor 22 = .ok (.iconst 0, 1) := by decide +kernel
theorem dX2_keyFor_23 : decode cX2_keyFor 23 = .ok (.ireturn, 1) := by decide +kernel
theorem dX2_numberAt_0 : decode cX2_numberAt 0 = .ok (.iload_n 1, 1) := by decide +kernel
theorem dX2_numberAt_1 : decode cX2_numberAt 1 = .ok (.ifCond .lt 29, 3) := by decide +kernel
theorem dX2_numberAt_4 : decode cX2_numberAt 4 = .ok (.iload_n 1, 1) := by decide +kernel
theorem dX2_numberAt_5 : decode cX2_numberAt 5 = .ok (.aload_n 0, 1) := by decide +kernel
theorem dX2_numberAt_6 : decode cX2_numberAt 6 = .ok (.getfield 22, 3) := by decide +kernel
theorem dX2_numberAt_9 : decode cX2_numberAt 9 = .ok (.arraylength, 1) := by decide +kernel
theorem dX2_numberAt_10 : decode cX2_numberAt 10 = .ok (.if_icmp .ge 20, 3) := by decide +kernel
theorem dX2_numberAt_13 : decode cX2_numberAt 13 = .ok (.iload_n 1, 1) := by decide +kernel
theorem dX2_numberAt_14 : decode cX2_numberAt 14 = .ok (.aload_n 0, 1) := by decide +kernel
theorem dX2_numberAt_15 : decode cX2_numberAt 15 = .ok (.getfield 25, 3) := by decide +kernel
theorem dX2_numberAt_18 : decode cX2_numberAt 18 = .ok (.if_icmp .ge 12, 3) := by decide +kernel
theorem dX2_numberAt_21 : decode cX2_numberAt 21 = .ok (.aload_n 0, 1) := by decide +kernel
theorem dX2_numberAt_22 : decode cX2_numberAt 22 = .ok (.getfield 22, 3) := by decide +kernel
theorem dX2_numberAt_25 : decode cX2_numberAt 25 = .ok (.iload_n 1, 1) := by decide +kernel
theorem dX2_numberAt_26 : decode cX2_numberAt 26 = .ok (.iaload, 1) := by decide +kernel
theorem dX2_numberAt_27 : decode cX2_numberAt 27 = .ok (.goto 4, 3) := by decide +kernel
theorem dX2_numberAt_30 : decode cX2_numberAt 30 = .ok (.iconst (-1), 1) := by decide +kernel
theorem dX2_numberAt_31 : decode cX2_numberAt 31 = .ok (.ireturn, 1) := by decide +kernel
set_option maxRecDepth 20000 in
theorem ggX2_areaAt_X2_numberAt : GoodIn wsX2_areaAt wsX2_numberAt := goodIn_r _ [5, 6, 7, 13, 14, 15, 16, 17, 18] (by decide +kernel) (by decide +kernel)
set_option maxRecDepth 20000 in
theorem gX2_areaAt_X2_numberAt : GoodIn wsX2_areaAt (wsV RX2 32 RX2 yX2_numberAt wsX2_numberAt) := goodIn_app (goodIn_of _ (by decide +kernel)) ggX2_areaAt_X2_numberAt
set_option maxRecDepth 20000 in
theorem ggX2_areaAt_X2_areaOf : GoodIn wsX2_areaAt wsX2_areaOf := goodIn_r _ [11, 12, 13, 14, 15, 16, 17, 18] (by decide +kernel) (by decide +kernel)
set_option maxRecDepth 20000 in
theorem gX2_areaAt_X2_areaOf : GoodIn wsX2_areaAt (wsV RX2 36 RX2 yX2_areaOf wsX2_areaOf) := goodIn_app (goodIn_of _ (by decide +kernel)) ggX2_areaAt_X2_areaOf
theorem dX2_areaAt_0 : decode cX2_areaAt 0 = .ok (.aload_n 0, 1) := by decide +kernel
theorem dX2_areaAt_1 : decode cX2_areaAt 1 = .ok (.aload_n 0, 1) := by decide +kernel
theorem dX2_areaAt_2 : decode cX2_areaAt 2 = .ok (.iload_n 1, 1) := by decide +kernel
theorem dX2_areaAt_3 : decode cX2_areaAt 3 = .ok (.invokevirtual 32, 3) := by decide +kernel
theorem dX2_areaAt_6 : decode cX2_areaAt 6 = .ok (.invokevirtual 36, 3) := by decide +kernel
theorem dX2_areaAt_9 : decode cX2_areaAt 9 = .ok (.ireturn, 1) := by decide +kernel
set_option maxRecDepth 20000 in
theorem ggX2_placeOf_X2_numberAt : GoodIn wsX2_placeOf wsX2_numberAt := goodIn_r _ [6, 7, 1, 8, 9, 10, 11, 12, 13] (by decide +kernel) (by decide +kernel)
set_option maxRecDepth 20000 in
theorem gX2_placeOf_X2_numberAt : GoodIn wsX2_placeOf (wsV RX2 32 RX2 yX2_numberAt wsX2_numberAt) := goodIn_app (goodIn_of _ (by decide +kernel)) ggX2_placeOf_X2_numberAt
theorem dX2_placeOf_0 : decode cX2_placeOf 0 = .ok (.iconst 0, 1) := by decide +kernel
theorem dX2_placeOf_1 : decode cX2_placeOf 1 = .ok (.istore_n 2, 1) := by decide +kernel
theorem dX2_placeOf_2 : decode cX2_placeOf 2 = .ok (.iload_n 2, 1) := by decide +kernel
theorem dX2_placeOf_3 : decode cX2_placeOf 3 = .ok (.aload_n 0, 1) := by decide +kernel
theorem dX2_placeOf_4 : decode cX2_placeOf 4 = .ok (.getfield 25, 3) := by decide +kernel
theorem dX2_placeOf_7 : decode cX2_placeOf 7 = .ok (.if_icmp .ge 20, 3) := by decide +kernel
theorem dX2_placeOf_10 : decode cX2_placeOf 10 = .ok (.aload_n 0, 1) := by decide +kernel
theorem dX2_placeOf_11 : decode cX2_placeOf 11 = .ok (.iload_n 2, 1) := by decide +kernel
theorem dX2_placeOf_12 : decode cX2_placeOf 12 = .ok (.invokevirtual 32, 3) := by decide +kernel
theorem dX2_placeOf_15 : decode cX2_placeOf 15 = .ok (.iload_n 1, 1) := by decide +kernel
theorem dX2_placeOf_16 : decode cX2_placeOf 16 = .ok (.if_icmp .ne 5, 3) := by decide +kernel
theorem dX2_placeOf_19 : decode cX2_placeOf 19 = .ok (.iload_n 2, 1) := by decide +kernel
theorem dX2_placeOf_20 : decode cX2_placeOf 20 = .ok (.ireturn, 1) := by decide +kernel
theorem dX2_placeOf_21 : decode cX2_placeOf 21 = .ok (.iinc 2 1, 3) := by decide +kernel
theorem dX2_placeOf_24 : decode cX2_placeOf 24 = .ok (.goto (-22), 3) := by decide +kernel
theorem dX2_placeOf_27 : decode cX2_placeOf 27 = .ok (.iconst (-1), 1) := by decide +kernel
theorem dX2_placeOf_28 : decode cX2_placeOf 28 = .ok (.ireturn, 1) := by decide +kernel
set_option maxRecDepth 20000 in
theorem ggX2_haveMet_X2_has : GoodIn wsX2_haveMet wsX2_has := goodIn_r _ [5, 6, 19, 20, 21, 22, 23, 24] (by decide +kernel) (by decide +kernel)
set_option maxRecDepth 20000 in
theorem gX2_haveMet_X2_has : GoodIn wsX2_haveMet (wsV RX2 39 RX2 yX2_has wsX2_has) := goodIn_app (goodIn_of _ (by decide +kernel)) ggX2_haveMet_X2_has
set_option maxRecDepth 20000 in
theorem ggX2_haveMet_X2_areaOf : GoodIn wsX2_haveMet wsX2_areaOf := goodIn_r _ [10, 11, 19, 20, 21, 22, 23, 24] (by decide +kernel) (by decide +kernel)
set_option maxRecDepth 20000 in
theorem gX2_haveMet_X2_areaOf : GoodIn wsX2_haveMet (wsV RX2 36 RX2 yX2_areaOf wsX2_areaOf) := goodIn_app (goodIn_of _ (by decide +kernel)) ggX2_haveMet_X2_areaOf
set_option maxRecDepth 20000 in
theorem ggX2_haveMet_X0_meet : GoodIn wsX2_haveMet wsX0_meet := goodIn_r _ [15, 16, 17, 14, 18] (by decide +kernel) (by decide +kernel)
set_option maxRecDepth 20000 in
theorem gX2_haveMet_X0_meet : GoodIn wsX2_haveMet (va_wsS RX2 43 yX0_meet wsX0_meet) := goodIn_app (goodIn_of _ (by decide +kernel)) ggX2_haveMet_X0_meet
theorem dX2_haveMet_0 : decode cX2_haveMet 0 = .ok (.aload_n 0, 1) := by decide +kernel
theorem dX2_haveMet_1 : decode cX2_haveMet 1 = .ok (.iload_n 1, 1) := by decide +kernel
theorem dX2_haveMet_2 : decode cX2_haveMet 2 = .ok (.invokevirtual 39, 3) := by decide +kernel
theorem dX2_haveMet_5 : decode cX2_haveMet 5 = .ok (.ifCond .eq 31, 3) := by decide +kernel
theorem dX2_haveMet_8 : decode cX2_haveMet 8 = .ok (.aload_n 0, 1) := by decide +kernel
theorem dX2_haveMet_9 : decode cX2_haveMet 9 = .ok (.iload_n 2, 1) := by decide +kernel
theorem dX2_haveMet_10 : decode cX2_haveMet 10 = .ok (.invokevirtual 39, 3) := by decide +kernel
theorem dX2_haveMet_13 : decode cX2_haveMet 13 = .ok (.ifCond .eq 23, 3) := by decide +kernel
theorem dX2_haveMet_16 : decode cX2_haveMet 16 = .ok (.aload_n 0, 1) := by decide +kernel
theorem dX2_haveMet_17 : decode cX2_haveMet 17 = .ok (.iload_n 1, 1) := by decide +kernel
theorem dX2_haveMet_18 : decode cX2_haveMet 18 = .ok (.invokevirtual 36, 3) := by decide +kernel
theorem dX2_haveMet_21 : decode cX2_haveMet 21 = .ok (.aload_n 0, 1) := by decide +kernel
theorem dX2_haveMet_22 : decode cX2_haveMet 22 = .ok (.iload_n 2, 1) := by decide +kernel
theorem dX2_haveMet_23 : decode cX2_haveMet 23 = .ok (.invokevirtual 36, 3) := by decide +kernel
theorem dX2_haveMet_26 : decode cX2_haveMet 26 = .ok (.invokestatic 43, 3) := by decide +kernel
theorem dX2_haveMet_29 : decode cX2_haveMet 29 = .ok (.ifCond .eq 7, 3) := by decide +kernel
theorem dX2_haveMet_32 : decode cX2_haveMet 32 = .ok (.iconst 1, 1) := by decide +kernel
theorem dX2_haveMet_33 : decode cX2_haveMet 33 = .ok (.goto 4, 3) := by decide +kernel
theorem dX2_haveMet_36 : decode cX2_haveMet 36 = .ok (.iconst 0, 1) := by decide +kernel
theorem dX2_haveMet_37 : decode cX2_haveMet 37 = .ok (.ireturn, 1) := by decide +kernel
set_option maxRecDepth 20000 in
theorem ggX2_putIn_X0_middleKey : GoodIn wsX2_putIn wsX0_middleKey := goodIn_r _ [8, 9, 10, 7, 11, 12, 13, 14, 15, 16, 17, 18] (by decide +kernel) (by decide +kernel)
set_option maxRecDepth 20000 in
theorem gX2_putIn_X0_middleKey : GoodIn wsX2_putIn (va_wsS RX2 49 yX0_middleKey wsX0_middleKey) := goodIn_app (goodIn_of _ (by decide +kernel)) ggX2_putIn_X0_middleKey
set_option maxRecDepth 20000 in
theorem ggX2_putIn_X2_putInOrder : GoodIn wsX2_putIn wsX2_putInOrder := goodIn_r _ [23, 24, 25, 26, 27, 22, 28, 29, 30, 31, 32, 33, 3, 34, 35, 36, 37, 38, 39, 40, 41, 42, 43] (by decide +kernel) (by decide +kernel)
set_option maxRecDepth 20000 in
theorem gX2_putIn_X2_putInOrder : GoodIn wsX2_putIn (wsV RX2 52 RX2 yX2_putInOrder wsX2_putInOrder) := goodIn_app (goodIn_of _ (by decide +kernel)) ggX2_putIn_X2_putInOrder
theorem dX2_putIn_0 : decode cX2_putIn 0 = .ok (.aload_n 0, 1) := by decide +kernel
theorem dX2_putIn_1 : decode cX2_putIn 1 = .ok (.getfield 29, 3) := by decide +kernel
theorem dX2_putIn_4 : decode cX2_putIn 4 = .ok (.istore_n 2, 1) := by decide +kernel
theorem dX2_putIn_5 : decode cX2_putIn 5 = .ok (.iload_n 2, 1) := by decide +kernel
theorem dX2_putIn_6 : decode cX2_putIn 6 = .ok (.ifCond .lt 30, 3) := by decide +kernel
theorem dX2_putIn_9 : decode cX2_putIn 9 = .ok (.iload_n 2, 1) := by decide +kernel
theorem dX2_putIn_10 : decode cX2_putIn 10 = .ok (.aload_n 0, 1) := by decide +kernel
theorem dX2_putIn_11 : decode cX2_putIn 11 = .ok (.getfield 9, 3) := by decide +kernel
theorem dX2_putIn_14 : decode cX2_putIn 14 = .ok (.arraylength, 1) := by decide +kernel
theorem dX2_putIn_15 : decode cX2_putIn 15 = .ok (.if_icmp .ge 21, 3) := by decide +kernel
theorem dX2_putIn_18 : decode cX2_putIn 18 = .ok (.iload_n 2, 1) := by decide +kernel
theorem dX2_putIn_19 : decode cX2_putIn 19 = .ok (.aload_n 0, 1) := by decide +kernel
theorem dX2_putIn_20 : decode cX2_putIn 20 = .ok (.getfield 15, 3) := by decide +kernel
theorem dX2_putIn_23 : decode cX2_putIn 23 = .ok (.arraylength, 1) := by decide +kernel
theorem dX2_putIn_24 : decode cX2_putIn 24 = .ok (.if_icmp .ge 12, 3) := by decide +kernel
theorem dX2_putIn_27 : decode cX2_putIn 27 = .ok (.iload_n 2, 1) := by decide +kernel
theorem dX2_putIn_28 : decode cX2_putIn 28 = .ok (.aload_n 0, 1) := by decide +kernel
theorem dX2_putIn_29 : decode cX2_putIn 29 = .ok (.getfield 18, 3) := by decide +kernel
theorem dX2_putIn_32 : decode cX2_putIn 32 = .ok (.arraylength, 1) := by decide +kernel
theorem dX2_putIn_33 : decode cX2_putIn 33 = .ok (.if_icmp .lt 5, 3) := by decide +kernel
theorem dX2_putIn_36 : decode cX2_putIn 36 = .ok (.iconst (-1), 1) := by decide +kernel
theorem dX2_putIn_37 : decode cX2_putIn 37 = .ok (.ireturn, 1) := by decide +kernel
theorem dX2_putIn_38 : decode cX2_putIn 38 = .ok (.aload_n 0, 1) := by decide +kernel
theorem dX2_putIn_39 : decode cX2_putIn 39 = .ok (.getfield 9, 3) := by decide +kernel
theorem dX2_putIn_42 : decode cX2_putIn 42 = .ok (.iload_n 2, 1) := by decide +kernel
theorem dX2_putIn_43 : decode cX2_putIn 43 = .ok (.iload_n 1, 1) := by decide +kernel
theorem dX2_putIn_44 : decode cX2_putIn 44 = .ok (.iastore, 1) := by decide +kernel
theorem dX2_putIn_45 : decode cX2_putIn 45 = .ok (.aload_n 0, 1) := by decide +kernel
theorem dX2_putIn_46 : decode cX2_putIn 46 = .ok (.getfield 15, 3) := by decide +kernel
theorem dX2_putIn_49 : decode cX2_putIn 49 = .ok (.iload_n 2, 1) := by decide +kernel
theorem dX2_putIn_50 : decode cX2_putIn 50 = .ok (.iload_n 1, 1) := by decide +kernel
theorem dX2_putIn_51 : decode cX2_putIn 51 = .ok (.invokestatic 49, 3) := by decide +kernel
theorem dX2_putIn_54 : decode cX2_putIn 54 = .ok (.iastore, 1) := by decide +kernel
theorem dX2_putIn_55 : decode cX2_putIn 55 = .ok (.aload_n 0, 1) := by decide +kernel
theorem dX2_putIn_56 : decode cX2_putIn 56 = .ok (.getfield 18, 3) := by decide +kernel
theorem dX2_putIn_59 : decode cX2_putIn 59 = .ok (.iload_n 2, 1) := by decide +kernel
theorem dX2_putIn_60 : decode cX2_putIn 60 = .ok (.iconst 1, 1) := by decide +kernel
theorem dX2_putIn_61 : decode cX2_putIn 61 = .ok (.bastore, 1) := by decide +kernel
theorem dX2_putIn_62 : decode cX2_putIn 62 = .ok (.aload_n 0, 1) := by decide +kernel
theorem dX2_putIn_63 : decode cX2_putIn 63 = .ok (.dup, 1) := by decide +kernel
theorem dX2_putIn_64 : decode cX2_putIn 64 = .ok (.getfield 29, 3) := by decide +kernel
theorem dX2_putIn_67 : decode cX2_putIn 67 = .ok (.iconst 1, 1) := by decide +kernel
theorem dX2_putIn_68 : decode cX2_putIn 68 = .ok (.iadd, 1) := by decide +kernel
theorem dX2_putIn_69 : decode cX2_putIn 69 = .ok (.putfield 29, 3) := by decide +kernel
theorem dX2_putIn_72 : decode cX2_putIn 72 = .ok (.aload_n 0, 1) := by decide +kernel
theorem dX2_putIn_73 : decode cX2_putIn 73 = .ok (.iload_n 2, 1) := by decide +kernel
theorem dX2_putIn_74 : decode cX2_putIn 74 = .ok (.invokevirtual 52, 3) := by decide +kernel
theorem dX2_putIn_77 : decode cX2_putIn 77 = .ok (.iload_n 2, 1) := by decide +kernel
theorem dX2_putIn_78 : decode cX2_putIn 78 = .ok (.ireturn, 1) := by decide +kernel
set_option maxRecDepth 20000 in
theorem ggX2_putInOrder_X2_numberAt : GoodIn wsX2_putInOrder wsX2_numberAt := goodIn_r _ [6, 7, 1, 17, 18, 19, 20, 21, 22] (by decide +kernel) (by decide +kernel)
set_option maxRecDepth 20000 in
theorem gX2_putInOrder_X2_numberAt : GoodIn wsX2_putInOrder (wsV RX2 32 RX2 yX2_numberAt wsX2_numberAt) := goodIn_app (goodIn_of _ (by decide +kernel)) ggX2_putInOrder_X2_numberAt
set_option maxRecDepth 20000 in
theorem ggX2_putInOrder_X2_keyFor : GoodIn wsX2_putInOrder wsX2_keyFor := goodIn_r _ [11, 12, 17, 18, 19, 20, 21, 22] (by decide +kernel) (by decide +kernel)
set_option maxRecDepth 20000 in
theorem gX2_putInOrder_X2_keyFor : GoodIn wsX2_putInOrder (wsV RX2 56 RX2 yX2_keyFor wsX2_keyFor) := goodIn_app (goodIn_of _ (by decide +kernel)) ggX2_putInOrder_X2_keyFor
set_option maxRecDepth 20000 in
theorem ggX2_putInOrder_X2_setOrder : GoodIn wsX2_putInOrder wsX2_setOrder := goodIn_r _ [16, 7, 17, 18, 19, 20, 21, 22] (by decide +kernel) (by decide +kernel)
set_option maxRecDepth 20000 in
theorem gX2_putInOrder_X2_setOrder : GoodIn wsX2_putInOrder (wsV RX2 59 RX2 yX2_setOrder wsX2_setOrder) := goodIn_app (goodIn_of _ (by decide +kernel)) ggX2_putInOrder_X2_setOrder
theorem dX2_putInOrder_0 : decode cX2_putInOrder 0 = .ok (.iconst 0, 1) := by decide +kernel
theorem dX2_putInOrder_1 : decode cX2_putInOrder 1 = .ok (.istore_n 2, 1) := by decide +kernel
theorem dX2_putInOrder_2 : decode cX2_putInOrder 2 = .ok (.iload_n 2, 1) := by decide +kernel
theorem dX2_putInOrder_3 : decode cX2_putInOrder 3 = .ok (.aload_n 0, 1) := by decide +kernel
theorem dX2_putInOrder_4 : decode cX2_putInOrder 4 = .ok (.getfield 25, 3) := by decide +kernel
theorem dX2_putInOrder_7 : decode cX2_putInOrder 7 = .ok (.if_icmp .ge 26, 3) := by decide +kernel
theorem dX2_putInOrder_10 : decode cX2_putInOrder 10 = .ok (.aload_n 0, 1) := by decide +kernel
theorem dX2_putInOrder_11 : decode cX2_putInOrder 11 = .ok (.aload_n 0, 1) := by decide +kernel
theorem dX2_putInOrder_12 : decode cX2_putInOrder 12 = .ok (.iload_n 2, 1) := by decide +kernel
theorem dX2_putInOrder_13 : decode cX2_putInOrder 13 = .ok (.invokevirtual 32, 3) := by decide +kernel
theorem dX2_putInOrder_16 : decode cX2_putInOrder 16 = .ok (.invokevirtual 56, 3) := by decide +kernel
theorem dX2_putInOrder_19 : decode cX2_putInOrder 19 = .ok (.aload_n 0, 1) := by decide +kernel
theorem dX2_putInOrder_20 : decode cX2_putInOrder 20 = .ok (.iload_n 1, 1) := by decide +kernel
theorem dX2_putInOrder_21 : decode cX2_putInOrder 21 = .ok (.invokevirtual 56, 3) := by decide +kernel
theorem dX2_putInOrder_24 : decode cX2_putInOrder 24 = .ok (.if_icmp .gt 9, 3) := by decide +kernel
theorem dX2_putInOrder_27 : decode cX2_putInOrder 27 = .ok (.iinc 2 1, 3) := by decide +kernel
theorem dX2_putInOrder_30 : decode cX2_putInOrder 30 = .ok (.goto (-28), 3) := by decide +kernel
theorem dX2_putInOrder_33 : decode cX2_putInOrder 33 = .ok (.aload_n 0, 1) := by decide +kernel
theorem dX2_putInOrder_34 : decode cX2_putInOrder 34 = .ok (.dup, 1) := by decide +kernel
theorem dX2_putInOrder_35 : decode cX2_putInOrder 35 = .ok (.getfield 25, 3) := by decide +kernel
theorem dX2_putInOrder_38 : decode cX2_putInOrder 38 = .ok (.iconst 1, 1) := by decide +kernel
theorem dX2_putInOrder_39 : decode cX2_putInOrder 39 = .ok (.iadd, 1) := by decide +kernel
theorem dX2_putInOrder_40 : decode cX2_putInOrder 40 = .ok (.putfield 25, 3) := by decide +kernel
theorem dX2_putInOrder_43 : decode cX2_putInOrder 43 = .ok (.aload_n 0, 1) := by decide +kernel
theorem dX2_putInOrder_44 : decode cX2_putInOrder 44 = .ok (.getfield 25, 3) := by decide +kernel
theorem dX2_putInOrder_47 : decode cX2_putInOrder 47 = .ok (.iconst 1, 1) := by decide +kernel
theorem dX2_putInOrder_48 : decode cX2_putInOrder 48 = .ok (.isub, 1) := by decide +kernel
theorem dX2_putInOrder_49 : decode cX2_putInOrder 49 = .ok (.istore_n 3, 1) := by decide +kernel
theorem dX2_putInOrder_50 : decode cX2_putInOrder 50 = .ok (.iload_n 3, 1) := by decide +kernel
theorem dX2_putInOrder_51 : decode cX2_putInOrder 51 = .ok (.iload_n 2, 1) := by decide +kernel
theorem dX2_putInOrder_52 : decode cX2_putInOrder 52 = .ok (.if_icmp .le 21, 3) := by decide +kernel
theorem dX2_putInOrder_55 : decode cX2_putInOrder 55 = .ok (.aload_n 0, 1) := by decide +kernel
theorem dX2_putInOrder_56 : decode cX2_putInOrder 56 = .ok (.iload_n 3, 1) := by decide +kernel
theorem dX2_putInOrder_57 : decode cX2_putInOrder 57 = .ok (.aload_n 0, 1) := by decide +kernel
theorem dX2_putInOrder_58 : decode cX2_putInOrder 58 = .ok (.iload_n 3, 1) := by decide +kernel
theorem dX2_putInOrder_59 : decode cX2_putInOrder 59 = .ok (.iconst 1, 1) := by decide +kernel
theorem dX2_putInOrder_60 : decode cX2_putInOrder 60 = .ok (.isub, 1) := by decide +kernel
theorem dX2_putInOrder_61 : decode cX2_putInOrder 61 = .ok (.invokevirtual 32, 3) := by decide +kernel
theorem dX2_putInOrder_64 : decode cX2_putInOrder 64 = .ok (.invokevirtual 59, 3) := by decide +kernel
theorem dX2_putInOrder_67 : decode cX2_putInOrder 67 = .ok (.iinc 3 (-1), 3) := by decide +kernel
theorem dX2_putInOrder_70 : decode cX2_putInOrder 70 = .ok (.goto (-20), 3) := by decide +kernel
theorem dX2_putInOrder_73 : decode cX2_putInOrder 73 = .ok (.aload_n 0, 1) := by decide +kernel
theorem dX2_putInOrder_74 : decode cX2_putInOrder 74 = .ok (.iload_n 2, 1) := by decide +kernel
theorem dX2_putInOrder_75 : decode cX2_putInOrder 75 = .ok (.iload_n 1, 1) := by decide +kernel
theorem dX2_putInOrder_76 : decode cX2_putInOrder 76 = .ok (.invokevirtual 59, 3) := by decide +kernel
theorem dX2_putInOrder_79 : decode cX2_putInOrder 79 = .ok (.return_, 1) := by decide +kernel
set_option maxRecDepth 20000 in
theorem ggX2_takeOut_X2_placeOf : GoodIn wsX2_takeOut wsX2_placeOf := goodIn_r _ [7, 2, 8, 9, 10, 6, 11, 12, 21, 22, 23, 24, 25, 26] (by decide +kernel) (by decide +kernel)
set_option maxRecDepth 20000 in
theorem gX2_takeOut_X2_placeOf : GoodIn wsX2_takeOut (wsV RX2 63 RX2 yX2_placeOf wsX2_placeOf) := goodIn_app (goodIn_of _ (by decide +kernel)) ggX2_takeOut_X2_placeOf
set_option maxRecDepth 20000 in
theorem ggX2_takeOut_X2_has : GoodIn wsX2_takeOut wsX2_has := goodIn_r _ [16, 1, 21, 22, 23, 24, 25, 26] (by decide +kernel) (by decide +kernel)
set_option maxRecDepth 20000 in
theorem gX2_takeOut_X2_has : GoodIn wsX2_takeOut (wsV RX2 39 RX2 yX2_has wsX2_has) := goodIn_app (goodIn_of _ (by decide +kernel)) ggX2_takeOut_X2_has
set_option maxRecDepth 20000 in
theorem ggX2_takeOut_X2_numberAt : GoodIn wsX2_takeOut wsX2_numberAt := goodIn_r _ [11, 12, 2, 21, 22, 23, 24, 25, 26] (by decide +kernel) (by decide +kernel)
set_option maxRecDepth 20000 in
theorem gX2_takeOut_X2_numberAt : GoodIn wsX2_takeOut (wsV RX2 32 RX2 yX2_numberAt wsX2_numberAt) := goodIn_app (goodIn_of _ (by decide +kernel)) ggX2_takeOut_X2_numberAt
set_option maxRecDepth 20000 in
theorem ggX2_takeOut_X2_setOrder : GoodIn wsX2_takeOut wsX2_setOrder := goodIn_r _ [20, 12, 21, 22, 23, 24, 25, 26] (by decide +kernel) (by decide +kernel)
set_option maxRecDepth 20000 in
theorem gX2_takeOut_X2_setOrder : GoodIn wsX2_takeOut (wsV RX2 59 RX2 yX2_setOrder wsX2_setOrder) := goodIn_app (goodIn_of _ (by decide +kernel)) ggX2_takeOut_X2_setOrder
theorem dX2_takeOut_0 : decode cX2_takeOut 0 = .ok (.aload_n 0, 1) := by decide +kernel
theorem dX2_takeOut_1 : decode cX2_takeOut 1 = .ok (.iload_n 1, 1) := by decide +kernel
theorem dX2_takeOut_2 : decode cX2_takeOut 2 = .ok (.invokevirtual 63, 3) := by decide +kernel
theorem dX2_takeOut_5 : decode cX2_takeOut 5 = .ok (.istore_n 2, 1) := by decide +kernel
theorem dX2_takeOut_6 : decode cX2_takeOut 6 = .ok (.iload_n 2, 1) := by decide +kernel
theorem dX2_takeOut_7 : decode cX2_takeOut 7 = .ok (.ifCond .lt 11, 3) := by decide +kernel
theorem dX2_takeOut_10 : decode cX2_takeOut 10 = .ok (.aload_n 0, 1) := by decide +kernel
theorem dX2_takeOut_11 : decode cX2_takeOut 11 = .ok (.iload_n 1, 1) := by decide +kernel
theorem dX2_takeOut_12 : decode cX2_takeOut 12 = .ok (.invokevirtual 39, 3) := by decide +kernel
theorem dX2_takeOut_15 : decode cX2_takeOut 15 = .ok (.ifCond .ne 4, 3) := by decide +kernel
theorem dX2_takeOut_18 : decode cX2_takeOut 18 = .ok (.return_, 1) := by decide +kernel
theorem dX2_takeOut_19 : decode cX2_takeOut 19 = .ok (.aload_n 0, 1) := by decide +kernel
theorem dX2_takeOut_20 : decode cX2_takeOut 20 = .ok (.getfield 18, 3) := by decide +kernel
theorem dX2_takeOut_23 : decode cX2_takeOut 23 = .ok (.iload_n 1, 1) := by decide +kernel
theorem dX2_takeOut_24 : decode cX2_takeOut 24 = .ok (.iconst 0, 1) := by decide +kernel
theorem dX2_takeOut_25 : decode cX2_takeOut 25 = .ok (.bastore, 1) := by decide +kernel
theorem dX2_takeOut_26 : decode cX2_takeOut 26 = .ok (.iload_n 2, 1) := by decide +kernel
theorem dX2_takeOut_27 : decode cX2_takeOut 27 = .ok (.istore_n 3, 1) := by decide +kernel
theorem dX2_takeOut_28 : decode cX2_takeOut 28 = .ok (.iload_n 3, 1) := by decide +kernel
theorem dX2_takeOut_29 : decode cX2_takeOut 29 = .ok (.aload_n 0, 1) := by decide +kernel
theorem dX2_takeOut_30 : decode cX2_takeOut 30 = .ok (.getfield 25, 3) := by decide +kernel
theorem dX2_takeOut_33 : decode cX2_takeOut 33 = .ok (.iconst 1, 1) := by decide +kernel
theorem dX2_takeOut_34 : decode cX2_takeOut 34 = .ok (.isub, 1) := by decide +kernel
theorem dX2_takeOut_35 : decode cX2_takeOut 35 = .ok (.if_icmp .ge 21, 3) := by decide +kernel
theorem dX2_takeOut_38 : decode cX2_takeOut 38 = .ok (.aload_n 0, 1) := by decide +kernel
theorem dX2_takeOut_39 : decode cX2_takeOut 39 = .ok (.iload_n 3, 1) := by decide +kernel
theorem dX2_takeOut_40 : decode cX2_takeOut 40 = .ok (.aload_n 0, 1) := by decide +kernel
theorem dX2_takeOut_41 : decode cX2_takeOut 41 = .ok (.iload_n 3, 1) := by decide +kernel
theorem dX2_takeOut_42 : decode cX2_takeOut 42 = .ok (.iconst 1, 1) := by decide +kernel
theorem dX2_takeOut_43 : decode cX2_takeOut 43 = .ok (.iadd, 1) := by decide +kernel
theorem dX2_takeOut_44 : decode cX2_takeOut 44 = .ok (.invokevirtual 32, 3) := by decide +kernel
theorem dX2_takeOut_47 : decode cX2_takeOut 47 = .ok (.invokevirtual 59, 3) := by decide +kernel
theorem dX2_takeOut_50 : decode cX2_takeOut 50 = .ok (.iinc 3 1, 3) := by decide +kernel
theorem dX2_takeOut_53 : decode cX2_takeOut 53 = .ok (.goto (-25), 3) := by decide +kernel
theorem dX2_takeOut_56 : decode cX2_takeOut 56 = .ok (.aload_n 0, 1) := by decide +kernel
theorem dX2_takeOut_57 : decode cX2_takeOut 57 = .ok (.dup, 1) := by decide +kernel
theorem dX2_takeOut_58 : decode cX2_takeOut 58 = .ok (.getfield 25, 3) := by decide +kernel
theorem dX2_takeOut_61 : decode cX2_takeOut 61 = .ok (.iconst 1, 1) := by decide +kernel
theorem dX2_takeOut_62 : decode cX2_takeOut 62 = .ok (.isub, 1) := by decide +kernel
theorem dX2_takeOut_63 : decode cX2_takeOut 63 = .ok (.putfield 25, 3) := by decide +kernel
theorem dX2_takeOut_66 : decode cX2_takeOut 66 = .ok (.return_, 1) := by decide +kernel
theorem dX2_setOrder_0 : decode cX2_setOrder 0 = .ok (.iload_n 1, 1) := by decide +kernel
theorem dX2_setOrder_1 : decode cX2_setOrder 1 = .ok (.ifCond .lt 19, 3) := by decide +kernel
theorem dX2_setOrder_4 : decode cX2_setOrder 4 = .ok (.iload_n 1, 1) := by decide +kernel
theorem dX2_setOrder_5 : decode cX2_setOrder 5 = .ok (.aload_n 0, 1) := by decide +kernel
theorem dX2_setOrder_6 : decode cX2_setOrder 6 = .ok (.getfield 22, 3) := by decide +kernel
theorem dX2_setOrder_9 : decode cX2_setOrder 9 = .ok (.arraylength, 1) := by decide +kernel
theorem dX2_setOrder_10 : decode cX2_setOrder 10 = .ok (.if_icmp .ge 10, 3) := by decide +kernel
theorem dX2_setOrder_13 : decode cX2_setOrder 13 = .ok (.aload_n 0, 1) := by decide +kernel
theorem dX2_setOrder_14 : decode cX2_setOrder 14 = .ok (.getfield 22, 3) := by decide +kernel
theorem dX2_setOrder_17 : decode cX2_setOrder 17 = .ok (.iload_n 1, 1) := by decide +kernel
theorem dX2_setOrder_18 : decode cX2_setOrder 18 = .ok (.iload_n 2, 1) := by decide +kernel
theorem dX2_setOrder_19 : decode cX2_setOrder 19 = .ok (.iastore, 1) := by decide +kernel
theorem dX2_setOrder_20 : decode cX2_setOrder 20 = .ok (.return_, 1) := by decide +kernel
theorem dX3_init_0 : decode cX3_init 0 = .ok (.aload_n 0, 1) := by decide +kernel
theorem dX3_init_1 : decode cX3_init 1 = .ok (.invokespecial 3, 3) := by decide +kernel
theorem dX3_init_4 : decode cX3_init 4 = .ok (.aload_n 0, 1) := by decide +kernel
theorem dX3_init_5 : decode cX3_init 5 = .ok (.sipush 480, 3) := by decide +kernel
theorem dX3_init_8 : decode cX3_init 8 = .ok (.newarray .int, 2) := by decide +kernel
theorem dX3_init_10 : decode cX3_init 10 = .ok (.putfield 11, 3) := by decide +kernel
theorem dX3_init_13 : decode cX3_init 13 = .ok (.aload_n 0, 1) := by decide +kernel
theorem dX3_init_14 : decode cX3_init 14 = .ok (.bipush 8, 2) := by decide +kernel
theorem dX3_init_16 : decode cX3_init 16 = .ok (.newarray .int, 2) := by decide +kernel
theorem dX3_init_18 : decode cX3_init 18 = .ok (.putfield 15, 3) := by decide +kernel
theorem dX3_init_21 : decode cX3_init 21 = .ok (.return_, 1) := by decide +kernel
theorem dX3_height_0 : decode cX3_height 0 = .ok (.aload_n 0, 1) := by decide +kernel
theorem dX3_height_1 : decode cX3_height 1 = .ok (.getfield 18, 3) := by decide +kernel
theorem dX3_height_4 : decode cX3_height 4 = .ok (.ireturn, 1) := by decide +kernel
theorem dX3_hasLevel_0 : decode cX3_hasLevel 0 = .ok (.iload_n 1, 1) := by decide +kernel
theorem dX3_hasLevel_1 : decode cX3_hasLevel 1 = .ok (.ifCond .lt 15, 3) := by decide +kernel
theorem dX3_hasLevel_4 : decode cX3_hasLevel 4 = .ok (.iload_n 1, 1) := by decide +kernel
theorem dX3_hasLevel_5 : decode cX3_hasLevel 5 = .ok (.aload_n 0, 1) := by decide +kernel
theorem dX3_hasLevel_6 : decode cX3_hasLevel 6 = .ok (.getfield 18, 3) := by decide +kernel
theorem dX3_hasLevel_9 : decode cX3_hasLevel 9 = .ok (.if_icmp .ge 7, 3) := by decide +kernel
theorem dX3_hasLevel_12 : decode cX3_hasLevel 12 = .ok (.iconst 1, 1) := by decide +kernel
theorem dX3_hasLevel_13 : decode cX3_hasLevel 13 = .ok (.goto 4, 3) := by decide +kernel
theorem dX3_hasLevel_16 : decode cX3_hasLevel 16 = .ok (.iconst 0, 1) := by decide +kernel
theorem dX3_hasLevel_17 : decode cX3_hasLevel 17 = .ok (.ireturn, 1) := by decide +kernel
theorem dX3_width_0 : decode cX3_width 0 = .ok (.iload_n 1, 1) := by decide +kernel
theorem dX3_width_1 : decode cX3_width 1 = .ok (.ifCond .lt 29, 3) := by decide +kernel
theorem dX3_width_4 : decode cX3_width 4 = .ok (.iload_n 1, 1) := by decide +kernel
theorem dX3_width_5 : decode cX3_width 5 = .ok (.aload_n 0, 1) := by decide +kernel
theorem dX3_width_6 : decode cX3_width 6 = .ok (.getfield 18, 3) := by decide +kernel
theorem dX3_width_9 : decode cX3_width 9 = .ok (.if_icmp .ge 21, 3) := by decide +kernel
theorem dX3_width_12 : decode cX3_width 12 = .ok (.iload_n 1, 1) := by decide +kernel
theorem dX3_width_13 : decode cX3_width 13 = .ok (.aload_n 0, 1) := by decide +kernel
theorem dX3_width_14 : decode cX3_width 14 = .ok (.getfield 15, 3) := by decide +kernel
theorem dX3_width_17 : decode cX3_width 17 = .ok (.arraylength, 1) := by decide +kernel
theorem dX3_width_18 : decode cX3_width 18 = .ok (.if_icmp .ge 12, 3) := by decide +kernel
theorem dX3_width_21 : decode cX3_width 21 = .ok (.aload_n 0, 1) := by decide +kernel
theorem dX3_width_22 : decode cX3_width 22 = .ok (.getfield 15, 3) := by decide +kernel
theorem dX3_width_25 : decode cX3_width 25 = .ok (.iload_n 1, 1) := by decide +kernel
theorem dX3_width_26 : decode cX3_width 26 = .ok (.iaload, 1) := by decide +kernel
theorem dX3_width_27 : decode cX3_width 27 = .ok (.goto 4, 3) := by decide +kernel
theorem dX3_width_30 : decode cX3_width 30 = .ok (.iconst 0, 1) := by decide +kernel
theorem dX3_width_31 : decode cX3_width 31 = .ok (.ireturn, 1) := by decide +kernel
theorem dX3_hasNode_0 : decode cX3_hasNode 0 = .ok (.iload_n 1, 1) := by decide +kernel
theorem dX3_hasNode_1 : decode cX3_hasNode 1 = .ok (.ifCond .lt 38, 3) := by decide +kernel
theorem dX3_hasNode_4 : decode cX3_hasNode 4 = .ok (.iload_n 1, 1) := by decide +kernel
theorem dX3_hasNode_5 : decode cX3_hasNode 5 = .ok (.aload_n 0, 1) := by decide +kernel
theorem dX3_hasNode_6 : decode cX3_hasNode 6 = .ok (.getfield 18, 3) := by decide +kernel
theorem dX3_hasNode_9 : decode cX3_hasNode 9 = .ok (.if_icmp .ge 30, 3) := by decide +kernel
theorem dX3_hasNode_12 : decode cX3_hasNode 12 = .ok (.iload_n 1, 1) := by decide +kernel
theorem dX3_hasNode_13 : decode cX3_hasNode 13 = .ok (.aload_n 0, 1) := by decide +kernel
theorem dX3_hasNode_14 : decode cX3_hasNode 14 = .ok (.getfield 15, 3) := by decide +kernel
theorem dX3_hasNode_17 : decode cX3_hasNode 17 = .ok (.arraylength, 1) := by decide +kernel
theorem dX3_hasNode_18 : decode cX3_hasNode 18 = .ok (.if_icmp .ge 21, 3) := by decide +kernel
theorem dX3_hasNode_21 : decode cX3_hasNode 21 = .ok (.iload_n 2, 1) := by decide +kernel
theorem dX3_hasNode_22 : decode cX3_hasNode 22 = .ok (.ifCond .lt 17, 3) := by decide +kernel
theorem dX3_hasNode_25 : decode cX3_hasNode 25 = .ok (.iload_n 2, 1) := by decide +kernel
theorem dX3_hasNode_26 : decode cX3_hasNode 26 = .ok (.aload_n 0, 1) := by decide +kernel
theorem dX3_hasNode_27 : decode cX3_hasNode 27 = .ok (.getfield 15, 3) := by decide +kernel
theorem dX3_hasNode_30 : decode cX3_hasNode 30 = .ok (.iload_n 1, 1) := by decide +kernel
theorem dX3_hasNode_31 : decode cX3_hasNode 31 = .ok (.iaload, 1) := by decide +kernel
theorem dX3_hasNode_32 : decode cX3_hasNode 32 = .ok (.if_icmp .ge 7, 3) := by decide +kernel
theorem dX3_hasNode_35 : decode cX3_hasNode 35 = .ok (.iconst 1, 1) := by decide +kernel
theorem dX3_hasNode_36 : decode cX3_hasNode 36 = .ok (.goto 4, 3) := by decide +kernel
theorem dX3_hasNode_39 : decode cX3_hasNode 39 = .ok (.iconst 0, 1) := by decide +kernel
theorem dX3_hasNode_40 : decode cX3_hasNode 40 = .ok (.ireturn, 1) := by decide +kernel
set_option maxRecDepth 20000 in
theorem ggX3_load_X3_hasNode : GoodIn wsX3_load wsX3_hasNode := goodIn_r _ [6, 7, 8, 9, 10, 11] (by decide +kernel) (by decide +kernel)
set_option maxRecDepth 20000 in
theorem gX3_load_X3_hasNode : GoodIn wsX3_load (wsV RX3 22 RX3 yX3_hasNode wsX3_hasNode) := goodIn_app (goodIn_of _ (by decide +kernel)) ggX3_load_X3_hasNode
theorem dX3_load_0 : decode cX3_load 0 = .ok (.iload_n 1, 1) := by decide +kernel
theorem dX3_load_1 : decode cX3_load 1 = .ok (.bipush 60, 2) := by decide +kernel
theorem dX3_load_3 : decode cX3_load 3 = .ok (.imul, 1) := by decide +kernel
theorem dX3_load_4 : decode cX3_load 4 = .ok (.iload_n 2, 1) := by decide +kernel
theorem dX3_load_5 : decode cX3_load 5 = .ok (.iadd, 1) := by decide +kernel
theorem dX3_load_6 : decode cX3_load 6 = .ok (.istore_n 3, 1) := by decide +kernel
theorem dX3_load_7 : decode cX3_load 7 = .ok (.aload_n 0, 1) := by decide +kernel
theorem dX3_load_8 : decode cX3_load 8 = .ok (.iload_n 1, 1) := by decide +kernel
theorem dX3_load_9 : decode cX3_load 9 = .ok (.iload_n 2, 1) := by decide +kernel
theorem dX3_load_10 : decode cX3_load 10 = .ok (.invokevirtual 22, 3) := by decide +kernel
theorem dX3_load_13 : decode cX3_load 13 = .ok (.ifCond .eq 25, 3) := by decide +kernel
theorem dX3_load_16 : decode cX3_load 16 = .ok (.iload_n 3, 1) := by decide +kernel
theorem dX3_load_17 : decode cX3_load 17 = .ok (.ifCond .lt 21, 3) := by decide +kernel
theorem dX3_load_20 : decode cX3_load 20 = .ok (.iload_n 3, 1) := by decide +kernel
theorem dX3_load_21 : decode cX3_load 21 = .ok (.aload_n 0, 1) := by decide +kernel
theorem dX3_load_22 : decode cX3_load 22 = .ok (.getfield 11, 3) := by decide +kernel
theorem dX3_load_25 : decode cX3_load 25 = .ok (.arraylength, 1) := by decide +kernel
theorem dX3_load_26 : decode cX3_load 26 = .ok (.if_icmp .ge 12, 3) := by decide +kernel
theorem dX3_load_29 : decode cX3_load 29 = .ok (.aload_n 0, 1) := by decide +kernel
theorem dX3_load_30 : decode cX3_load 30 = .ok (.getfield 11, 3) := by decide +kernel
theorem dX3_load_33 : decode cX3_load 33 = .ok (.iload_n 3, 1) := by decide +kernel
theorem dX3_load_34 : decode cX3_load 34 = .ok (.iaload, 1) := by decide +kernel
theorem dX3_load_35 : decode cX3_load 35 = .ok (.goto 4, 3) := by decide +kernel
theorem dX3_load_38 : decode cX3_load 38 = .ok (.iconst 0, 1) := by decide +kernel
theorem dX3_load_39 : decode cX3_load 39 = .ok (.ireturn, 1) := by decide +kernel
set_option maxRecDepth 20000 in
theorem ggX3_setLoad_X3_hasNode : GoodIn wsX3_setLoad wsX3_hasNode := goodIn_r _ [6, 7, 8, 9, 10, 11] (by decide +kernel) (by decide +kernel)
set_option maxRecDepth 20000 in
theorem gX3_setLoad_X3_hasNode : GoodIn wsX3_setLoad (wsV RX3 22 RX3 yX3_hasNode wsX3_hasNode) := goodIn_app (goodIn_of _ (by decide +kernel)) ggX3_setLoad_X3_hasNode
theorem dX3_setLoad_0 : decode cX3_setLoad 0 = .ok (.iload_n 1, 1) := by decide +kernel
theorem dX3_setLoad_1 : decode cX3_setLoad 1 = .ok (.bipush 60, 2) := by decide +kernel
theorem dX3_setLoad_3 : decode cX3_setLoad 3 = .ok (.imul, 1) := by decide +kernel
theorem dX3_setLoad_4 : decode cX3_setLoad 4 = .ok (.iload_n 2, 1) := by decide +kernel
theorem dX3_setLoad_5 : decode cX3_setLoad 5 = .ok (.iadd, 1) := by decide +kernel
theorem dX3_setLoad_6 : decode cX3_setLoad 6 = .ok (.istore 4, 2) := by decide +kernel
theorem dX3_setLoad_8 : decode cX3_setLoad 8 = .ok (.aload_n 0, 1) := by decide +kernel
theorem dX3_setLoad_9 : decode cX3_setLoad 9 = .ok (.iload_n 1, 1) := by decide +kernel
theorem dX3_setLoad_10 : decode cX3_setLoad 10 = .ok (.iload_n 2, 1) := by decide +kernel
theorem dX3_setLoad_11 : decode cX3_setLoad 11 = .ok (.invokevirtual 22, 3) := by decide +kernel
theorem dX3_setLoad_14 : decode cX3_setLoad 14 = .ok (.ifCond .eq 26, 3) := by decide +kernel
theorem dX3_setLoad_17 : decode cX3_setLoad 17 = .ok (.iload 4, 2) := by decide +kernel
theorem dX3_setLoad_19 : decode cX3_setLoad 19 = .ok (.ifCond .lt 21, 3) := by decide +kernel
theorem dX3_setLoad_22 : decode cX3_setLoad 22 = .ok (.iload 4, 2) := by decide +kernel
theorem dX3_setLoad_24 : decode cX3_setLoad 24 = .ok (.aload_n 0, 1) := by decide +kernel
theorem dX3_setLoad_25 : decode cX3_setLoad 25 = .ok (.getfield 11, 3) := by decide +kernel
theorem dX3_setLoad_28 : decode cX3_setLoad 28 = .ok (.arraylength, 1) := by decide +kernel
theorem dX3_setLoad_29 : decode cX3_setLoad 29 = .ok (.if_icmp .ge 11, 3) := by decide +kernel
theorem dX3_setLoad_32 : decode cX3_setLoad 32 = .ok (.aload_n 0, 1) := by decide +kernel
theorem dX3_setLoad_33 : decode cX3_setLoad 33 = .ok (.getfield 11, 3) := by decide +kernel
theorem dX3_setLoad_36 : decode cX3_setLoad 36 = .ok (.iload 4, 2) := by decide +kernel
theorem dX3_setLoad_38 : decode cX3_setLoad 38 = .ok (.iload_n 3, 1) := by decide +kernel
theorem dX3_setLoad_39 : decode cX3_setLoad 39 = .ok (.iastore, 1) := by decide +kernel
theorem dX3_setLoad_40 : decode cX3_setLoad 40 = .ok (.return_, 1) := by decide +kernel
theorem dX3_setWidth_0 : decode cX3_setWidth 0 = .ok (.iload_n 1, 1) := by decide +kernel
theorem dX3_setWidth_1 : decode cX3_setWidth 1 = .ok (.ifCond .lt 19, 3) := by decide +kernel
theorem dX3_setWidth_4 : decode cX3_setWidth 4 = .ok (.iload_n 1, 1) := by decide +kernel
theorem dX3_setWidth_5 : decode cX3_setWidth 5 = .ok (.aload_n 0, 1) := by decide +kernel
theorem dX3_setWidth_6 : decode cX3_setWidth 6 = .ok (.getfield 15, 3) := by decide +kernel
theorem dX3_setWidth_9 : decode cX3_setWidth 9 = .ok (.arraylength, 1) := by decide +kernel
theorem dX3_setWidth_10 : decode cX3_setWidth 10 = .ok (.if_icmp .ge 10, 3) := by decide +kernel
theorem dX3_setWidth_13 : decode cX3_setWidth 13 = .ok (.aload_n 0, 1) := by decide +kernel
theorem dX3_setWidth_14 : decode cX3_setWidth 14 = .ok (.getfield 15, 3) := by decide +kernel
theorem dX3_setWidth_17 : decode cX3_setWidth 17 = .ok (.iload_n 1, 1) := by decide +kernel
theorem dX3_setWidth_18 : decode cX3_setWidth 18 = .ok (.iload_n 2, 1) := by decide +kernel
theorem dX3_setWidth_19 : decode cX3_setWidth 19 = .ok (.iastore, 1) := by decide +kernel
theorem dX3_setWidth_20 : decode cX3_setWidth 20 = .ok (.return_, 1) := by decide +kernel
set_option maxRecDepth 20000 in
theorem ggX3_entriesBefore_X3_width : GoodIn wsX3_entriesBefore wsX3_width := goodIn_r _ [5, 6, 7, 17, 18, 19] (by decide +kernel) (by decide +kernel)
set_option maxRecDepth 20000 in
theorem gX3_entriesBefore_X3_width : GoodIn wsX3_entriesBefore (wsV RX3 26 RX3 yX3_width wsX3_width) := goodIn_app (goodIn_of _ (by decide +kernel)) ggX3_entriesBefore_X3_width
set_option maxRecDepth 20000 in
theorem ggX3_entriesBefore_X3_load : GoodIn wsX3_entriesBefore wsX3_load := goodIn_r _ [11, 12, 13, 14, 15, 4, 16, 6, 7, 17, 18, 19] (by decide +kernel) (by decide +kernel)
set_option maxRecDepth 20000 in
theorem gX3_entriesBefore_X3_load : GoodIn wsX3_entriesBefore (wsV RX3 30 RX3 yX3_load wsX3_load) := goodIn_app (goodIn_of _ (by decide +kernel)) ggX3_entriesBefore_X3_load
theorem dX3_entriesBefore_0 : decode cX3_entriesBefore 0 = .ok (.iconst 0, 1) := by decide +kernel
theorem dX3_entriesBefore_1 : decode cX3_entriesBefore 1 = .ok (.istore_n 3, 1) := by decide +kernel
theorem dX3_entriesBefore_2 : decode cX3_entriesBefore 2 = .ok (.iconst 0, 1) := by decide +kernel
theorem dX3_entriesBefore_3 : decode cX3_entriesBefore 3 = .ok (.istore 4, 2) := by decide +kernel
theorem dX3_entriesBefore_5 : decode cX3_entriesBefore 5 = .ok (.iload 4, 2) := by decide +kernel
theorem dX3_entriesBefore_7 : decode cX3_entriesBefore 7 = .ok (.iload_n 2, 1) := by decide +kernel
theorem dX3_entriesBefore_8 : decode cX3_entriesBefore 8 = .ok (.if_icmp .ge 29, 3) := by decide +kernel
theorem dX3_entriesBefore_11 : decode cX3_entriesBefore 11 = .ok (.iload 4, 2) := by decide +kernel
theorem dX3_entriesBefore_13 : decode cX3_entriesBefore 13 = .ok (.aload_n 0, 1) := by decide +kernel
theorem dX3_entriesBefore_14 : decode cX3_entriesBefore 14 = .ok (.iload_n 1, 1) := by decide +kernel
theorem dX3_entriesBefore_15 : decode cX3_entriesBefore 15 = .ok (.invokevirtual 26, 3) := by decide +kernel
theorem dX3_entriesBefore_18 : decode cX3_entriesBefore 18 = .ok (.if_icmp .ge 19, 3) := by decide +kernel
theorem dX3_entriesBefore_21 : decode cX3_entriesBefore 21 = .ok (.iload_n 3, 1) := by decide +kernel
theorem dX3_entriesBefore_22 : decode cX3_entriesBefore 22 = .ok (.aload_n 0, 1) := by decide +kernel
theorem dX3_entriesBefore_23 : decode cX3_entriesBefore 23 = .ok (.iload_n 1, 1) := by decide +kernel
theorem dX3_entriesBefore_24 : decode cX3_entriesBefore 24 = .ok (.iload 4, 2) := by decide +kernel
theorem dX3_entriesBefore_26 : decode cX3_entriesBefore 26 = .ok (.invokevirtual 30, 3) := by decide +kernel
theorem dX3_entriesBefore_29 : decode cX3_entriesBefore 29 = .ok (.iadd, 1) := by decide +kernel
theorem dX3_entriesBefore_30 : decode cX3_entriesBefore 30 = .ok (.istore_n 3, 1) := by decide +kernel
theorem dX3_entriesBefore_31 : decode cX3_entriesBefore 31 = .ok (.iinc 4 1, 3) := by decide +kernel
theorem dX3_entriesBefore_34 : decode cX3_entriesBefore 34 = .ok (.goto (-29), 3) := by decide +kernel
theorem dX3_entriesBefore_37 : decode cX3_entriesBefore 37 = .ok (.iload_n 3, 1) := by decide +kernel
theorem dX3_entriesBefore_38 : decode cX3_entriesBefore 38 = .ok (.ireturn, 1) := by decide +kernel
set_option maxRecDepth 20000 in
theorem ggX3_boxesBefore_X3_entriesBefore : GoodIn wsX3_boxesBefore wsX3_entriesBefore := goodIn_r _ [5, 6, 7, 8, 4, 9, 10, 11, 12, 13, 14, 15, 16, 17, 18, 19, 20, 21, 22, 23] (by decide +kernel) (by decide +kernel)
set_option maxRecDepth 20000 in
theorem gX3_boxesBefore_X3_entriesBefore : GoodIn wsX3_boxesBefore (wsV RX3 34 RX3 yX3_entriesBefore wsX3_entriesBefore) := goodIn_app (goodIn_of _ (by decide +kernel)) ggX3_boxesBefore_X3_entriesBefore
theorem dX3_boxesBefore_0 : decode cX3_boxesBefore 0 = .ok (.iload_n 2, 1) := by decide +kernel
theorem dX3_boxesBefore_1 : decode cX3_boxesBefore 1 = .ok (.istore_n 3, 1) := by decide +kernel
theorem dX3_boxesBefore_2 : decode cX3_boxesBefore 2 = .ok (.iload_n 1, 1) := by decide +kernel
theorem dX3_boxesBefore_3 : decode cX3_boxesBefore 3 = .ok (.istore 4, 2) := by decide +kernel
theorem dX3_boxesBefore_5 : decode cX3_boxesBefore 5 = .ok (.iload 4, 2) := by decide +kernel
theorem dX3_boxesBefore_7 : decode cX3_boxesBefore 7 = .ok (.ifCond .lt 17, 3) := by decide +kernel
theorem dX3_boxesBefore_10 : decode cX3_boxesBefore 10 = .ok (.aload_n 0, 1) := by decide +kernel
theorem dX3_boxesBefore_11 : decode cX3_boxesBefore 11 = .ok (.iload 4, 2) := by decide +kernel
theorem dX3_boxesBefore_13 : decode cX3_boxesBefore 13 = .ok (.iload_n 3, 1) := by decide +kernel
theorem dX3_boxesBefore_14 : decode cX3_boxesBefore 14 = .ok (.invokevirtual 34, 3) := by decide +kernel
theorem dX3_boxesBefore_17 : decode cX3_boxesBefore 17 = .ok (.istore_n 3, 1) := by decide +kernel
theorem dX3_boxesBefore_18 : decode cX3_boxesBefore 18 = .ok (.iinc 4 (-1), 3) := by decide +kernel
theorem dX3_boxesBefore_21 : decode cX3_boxesBefore 21 = .ok (.goto (-16), 3) := by decide +kernel
theorem dX3_boxesBefore_24 : decode cX3_boxesBefore 24 = .ok (.iload_n 3, 1) := by decide +kernel
theorem dX3_boxesBefore_25 : decode cX3_boxesBefore 25 = .ok (.ireturn, 1) := by decide +kernel
set_option maxRecDepth 20000 in
theorem ggX3_holder_X3_width : GoodIn wsX3_holder wsX3_width := goodIn_r _ [5, 6, 7, 17, 18, 19] (by decide +kernel) (by decide +kernel)
set_option maxRecDepth 20000 in
theorem gX3_holder_X3_width : GoodIn wsX3_holder (wsV RX3 26 RX3 yX3_width wsX3_width) := goodIn_app (goodIn_of _ (by decide +kernel)) ggX3_holder_X3_width
set_option maxRecDepth 20000 in
theorem ggX3_holder_X3_load : GoodIn wsX3_holder wsX3_load := goodIn_r _ [11, 12, 13, 14, 15, 4, 16, 6, 7, 17, 18, 19] (by decide +kernel) (by decide +kernel)
set_option maxRecDepth 20000 in
theorem gX3_holder_X3_load : GoodIn wsX3_holder (wsV RX3 30 RX3 yX3_load wsX3_load) := goodIn_app (goodIn_of _ (by decide +kernel)) ggX3_holder_X3_load
theorem dX3_holder_0 : decode cX3_holder 0 = .ok (.iconst 0, 1) := by decide +kernel
theorem dX3_holder_1 : decode cX3_holder 1 = .ok (.istore_n 3, 1) := by decide +kernel
theorem dX3_holder_2 : decode cX3_holder 2 = .ok (.iconst 0, 1) := by decide +kernel
theorem dX3_holder_3 : decode cX3_holder 3 = .ok (.istore 4, 2) := by decide +kernel
theorem dX3_holder_5 : decode cX3_holder 5 = .ok (.iload 4, 2) := by decide +kernel
theorem dX3_holder_7 : decode cX3_holder 7 = .ok (.aload_n 0, 1) := by decide +kernel
theorem dX3_holder_8 : decode cX3_holder 8 = .ok (.iload_n 1, 1) := by decide +kernel
theorem dX3_holder_9 : decode cX3_holder 9 = .ok (.invokevirtual 26, 3) := by decide +kernel
theorem dX3_holder_12 : decode cX3_holder 12 = .ok (.if_icmp .ge 27, 3) := by decide +kernel
theorem dX3_holder_15 : decode cX3_holder 15 = .ok (.iload_n 3, 1) := by decide +kernel
theorem dX3_holder_16 : decode cX3_holder 16 = .ok (.aload_n 0, 1) := by decide +kernel
theorem dX3_holder_17 : decode cX3_holder 17 = .ok (.iload_n 1, 1) := by decide +kernel
theorem dX3_holder_18 : decode cX3_holder 18 = .ok (.iload 4, 2) := by decide +kernel
theorem dX3_holder_20 : decode cX3_holder 20 = .ok (.invokevirtual 30, 3) := by decide +kernel
theorem dX3_holder_23 : decode cX3_holder 23 = .ok (.iadd, 1) := by decide +kernel
theorem dX3_holder_24 : decode cX3_holder 24 = .ok (.istore_n 3, 1) := by decide +kernel
theorem dX3_holder_25 : decode cX3_holder 25 = .ok (.iload_n 2, 1) := by decide +kernel
theorem dX3_holder_26 : decode cX3_holder 26 = .ok (.iload_n 3, 1) := by decide +kernel
theorem dX3_holder_27 : decode cX3_holder 27 = .ok (.if_icmp .ge 6, 3) := by decide +kernel
theorem dX3_holder_30 : decode cX3_holder 30 = .ok (.iload 4, 2) := by decide +kernel
theorem dX3_holder_32 : decode cX3_holder 32 = .ok (.ireturn, 1) := by decide +kernel
theorem dX3_holder_33 : decode cX3_holder 33 = .ok (.iinc 4 1, 3) := by decide +kernel
theorem dX3_holder_36 : decode cX3_holder 36 = .ok (.goto (-31), 3) := by decide +kernel
theorem dX3_holder_39 : decode cX3_holder 39 = .ok (.aload_n 0, 1) := by decide +kernel
theorem dX3_holder_40 : decode cX3_holder 40 = .ok (.iload_n 1, 1) := by decide +kernel
theorem dX3_holder_41 : decode cX3_holder 41 = .ok (.invokevirtual 26, 3) := by decide +kernel
theorem dX3_holder_44 : decode cX3_holder 44 = .ok (.iconst 1, 1) := by decide +kernel
theorem dX3_holder_45 : decode cX3_holder 45 = .ok (.isub, 1) := by decide +kernel
theorem dX3_holder_46 : decode cX3_holder 46 = .ok (.ireturn, 1) := by decide +kernel
set_option maxRecDepth 20000 in
theorem ggX3_parent_X3_hasLevel : GoodIn wsX3_parent wsX3_hasLevel := goodIn_r _ [5, 6, 25, 26, 27] (by decide +kernel) (by decide +kernel)
set_option maxRecDepth 20000 in
theorem gX3_parent_X3_hasLevel : GoodIn wsX3_parent (wsV RX3 37 RX3 yX3_hasLevel wsX3_hasLevel) := goodIn_app (goodIn_of _ (by decide +kernel)) ggX3_parent_X3_hasLevel
set_option maxRecDepth 20000 in
theorem ggX3_parent_X3_holder : GoodIn wsX3_parent wsX3_holder := goodIn_r _ [10, 11, 12, 13, 4, 14, 6, 15, 16, 17, 18, 19, 20, 21, 22, 23, 24, 25, 26, 27] (by decide +kernel) (by decide +kernel)
set_option maxRecDepth 20000 in
theorem gX3_parent_X3_holder : GoodIn wsX3_parent (wsV RX3 41 RX3 yX3_holder wsX3_holder) := goodIn_app (goodIn_of _ (by decide +kernel)) ggX3_parent_X3_holder
theorem dX3_parent_0 : decode cX3_parent 0 = .ok (.aload_n 0, 1) := by decide +kernel
theorem dX3_parent_1 : decode cX3_parent 1 = .ok (.iload_n 1, 1) := by decide +kernel
theorem dX3_parent_2 : decode cX3_parent 2 = .ok (.iconst 1, 1) := by decide +kernel
theorem dX3_parent_3 : decode cX3_parent 3 = .ok (.iadd, 1) := by decide +kernel
theorem dX3_parent_4 : decode cX3_parent 4 = .ok (.invokevirtual 37, 3) := by decide +kernel
theorem dX3_parent_7 : decode cX3_parent 7 = .ok (.ifCond .eq 14, 3) := by decide +kernel
theorem dX3_parent_10 : decode cX3_parent 10 = .ok (.aload_n 0, 1) := by decide +kernel
theorem dX3_parent_11 : decode cX3_parent 11 = .ok (.iload_n 1, 1) := by decide +kernel
theorem dX3_parent_12 : decode cX3_parent 12 = .ok (.iconst 1, 1) := by decide +kernel
theorem dX3_parent_13 : decode cX3_parent 13 = .ok (.iadd, 1) := by decide +kernel
theorem dX3_parent_14 : decode cX3_parent 14 = .ok (.iload_n 2, 1) := by decide +kernel
theorem dX3_parent_15 : decode cX3_parent 15 = .ok (.invokevirtual 41, 3) := by decide +kernel
theorem dX3_parent_18 : decode cX3_parent 18 = .ok (.goto 4, 3) := by decide +kernel
theorem dX3_parent_21 : decode cX3_parent 21 = .ok (.iconst (-1), 1) := by decide +kernel
theorem dX3_parent_22 : decode cX3_parent 22 = .ok (.ireturn, 1) := by decide +kernel
set_option maxRecDepth 20000 in
theorem ggX3_partner_X3_entriesBefore : GoodIn wsX3_partner wsX3_entriesBefore := goodIn_r _ [5, 6, 7, 8, 4, 9, 10, 11, 12, 13, 14, 15, 16, 17, 18, 19, 20, 21, 22, 23] (by decide +kernel) (by decide +kernel)
set_option maxRecDepth 20000 in
theorem gX3_partner_X3_entriesBefore : GoodIn wsX3_partner (wsV RX3 34 RX3 yX3_entriesBefore wsX3_entriesBefore) := goodIn_app (goodIn_of _ (by decide +kernel)) ggX3_partner_X3_entriesBefore
set_option maxRecDepth 20000 in
theorem ggX3_partner_X3_load : GoodIn wsX3_partner wsX3_load := goodIn_r _ [15, 16, 17, 18, 19, 4, 20, 10, 11, 21, 22, 23] (by decide +kernel) (by decide +kernel)
set_option maxRecDepth 20000 in
theorem gX3_partner_X3_load : GoodIn wsX3_partner (wsV RX3 30 RX3 yX3_load wsX3_load) := goodIn_app (goodIn_of _ (by decide +kernel)) ggX3_partner_X3_load
theorem dX3_partner_0 : decode cX3_partner 0 = .ok (.aload_n 0, 1) := by decide +kernel
theorem dX3_partner_1 : decode cX3_partner 1 = .ok (.iload_n 1, 1) := by decide +kernel
theorem dX3_partner_2 : decode cX3_partner 2 = .ok (.iconst 1, 1) := by decide +kernel
theorem dX3_partner_3 : decode cX3_partner 3 = .ok (.iadd, 1) := by decide +kernel
theorem dX3_partner_4 : decode cX3_partner 4 = .ok (.iload_n 3, 1) := by decide +kernel
theorem dX3_partner_5 : decode cX3_partner 5 = .ok (.invokevirtual 34, 3) := by decide +kernel
theorem dX3_partner_8 : decode cX3_partner 8 = .ok (.istore 4, 2) := by decide +kernel
theorem dX3_partner_10 : decode cX3_partner 10 = .ok (.iload 4, 2) := by decide +kernel
theorem dX3_partner_12 : decode cX3_partner 12 = .ok (.aload_n 0, 1) := by decide +kernel
theorem dX3_partner_13 : decode cX3_partner 13 = .ok (.iload_n 1, 1) := by decide +kernel
theorem dX3_partner_14 : decode cX3_partner 14 = .ok (.iconst 1, 1) := by decide +kernel
theorem dX3_partner_15 : decode cX3_partner 15 = .ok (.iadd, 1) := by decide +kernel
theorem dX3_partner_16 : decode cX3_partner 16 = .ok (.iload_n 3, 1) := by decide +kernel
theorem dX3_partner_17 : decode cX3_partner 17 = .ok (.invokevirtual 30, 3) := by decide +kernel
theorem dX3_partner_20 : decode cX3_partner 20 = .ok (.iadd, 1) := by decide +kernel
theorem dX3_partner_21 : decode cX3_partner 21 = .ok (.iconst 1, 1) := by decide +kernel
theorem dX3_partner_22 : decode cX3_partner 22 = .ok (.isub, 1) := by decide +kernel
theorem dX3_partner_23 : decode cX3_partner 23 = .ok (.istore 5, 2) := by decide +kernel
theorem dX3_partner_25 : decode cX3_partner 25 = .ok (.iload_n 2, 1) := by decide +kernel
theorem dX3_partner_26 : decode cX3_partner 26 = .ok (.iload 5, 2) := by decide +kernel
theorem dX3_partner_28 : decode cX3_partner 28 = .ok (.if_icmp .ge 7, 3) := by decide +kernel
theorem dX3_partner_31 : decode cX3_partner 31 = .ok (.iload_n 2, 1) := by decide +kernel
theorem dX3_partner_32 : decode cX3_partner 32 = .ok (.iconst 1, 1) := by decide +kernel
theorem dX3_partner_33 : decode cX3_partner 33 = .ok (.iadd, 1) := by decide +kernel
theorem dX3_partner_34 : decode cX3_partner 34 = .ok (.ireturn, 1) := by decide +kernel
theorem dX3_partner_35 : decode cX3_partner 35 = .ok (.iload_n 2, 1) := by decide +kernel
theorem dX3_partner_36 : decode cX3_partner 36 = .ok (.iload 4, 2) := by decide +kernel
theorem dX3_partner_38 : decode cX3_partner 38 = .ok (.if_icmp .le 15, 3) := by decide +kernel
theorem dX3_partner_41 : decode cX3_partner 41 = .ok (.iload_n 2, 1) := by decide +kernel
theorem dX3_partner_42 : decode cX3_partner 42 = .ok (.iload 5, 2) := by decide +kernel
theorem dX3_partner_44 : decode cX3_partner 44 = .ok (.if_icmp .gt 9, 3) := by decide +kernel
theorem dX3_partner_47 : decode cX3_partner 47 = .ok (.iload_n 2, 1) := by decide +kernel
theorem dX3_partner_48 : decode cX3_partner 48 = .ok (.iconst 1, 1) := by decide +kernel
theorem dX3_partner_49 : decode cX3_partner 49 = .ok (.isub, 1) := by decide +kernel
theorem dX3_partner_50 : decode cX3_partner 50 = .ok (.goto 4, 3) := by decide +kernel
theorem dX3_partner_53 : decode cX3_partner 53 = .ok (.iconst (-1), 1) := by decide +kernel
theorem dX3_partner_54 : decode cX3_partner 54 = .ok (.ireturn, 1) := by decide +kernel
set_option maxRecDepth 20000 in
theorem ggX3_grow_X3_addRoot : GoodIn wsX3_grow wsX3_addRoot := goodIn_r _ [6, 1, 7, 8, 9, 5, 10, 11, 12, 13, 14, 15, 16, 17, 18, 19, 20, 69, 70, 71] (by decide +kernel) (by decide +kernel)
set_option maxRecDepth 20000 in
theorem gX3_grow_X3_addRoot : GoodIn wsX3_grow (wsV RX3 44 RX3 yX3_addRoot wsX3_addRoot) := goodIn_app (goodIn_of _ (by decide +kernel)) ggX3_grow_X3_addRoot
set_option maxRecDepth 20000 in
theorem ggX3_grow_X3_holder : GoodIn wsX3_grow wsX3_holder := goodIn_r _ [24, 25, 26, 27, 5, 28, 1, 11, 29, 30, 31, 32, 16, 17, 18, 19, 20, 69, 70, 71] (by decide +kernel) (by decide +kernel)
set_option maxRecDepth 20000 in
theorem gX3_grow_X3_holder : GoodIn wsX3_grow (wsV RX3 41 RX3 yX3_holder wsX3_holder) := goodIn_app (goodIn_of _ (by decide +kernel)) ggX3_grow_X3_holder
set_option maxRecDepth 20000 in
theorem ggX3_grow_X3_load : GoodIn wsX3_grow wsX3_load := goodIn_r _ [32, 16, 17, 18, 19, 5, 20, 1, 11, 69, 70, 71] (by decide +kernel) (by decide +kernel)
set_option maxRecDepth 20000 in
theorem gX3_grow_X3_load : GoodIn wsX3_grow (wsV RX3 30 RX3 yX3_load wsX3_load) := goodIn_app (goodIn_of _ (by decide +kernel)) ggX3_grow_X3_load
set_option maxRecDepth 20000 in
theorem ggX3_grow_X3_setLoad : GoodIn wsX3_grow wsX3_setLoad := goodIn_r _ [15, 16, 17, 18, 19, 5, 20, 1, 11, 69, 70, 71] (by decide +kernel) (by decide +kernel)
set_option maxRecDepth 20000 in
theorem gX3_grow_X3_setLoad : GoodIn wsX3_grow (wsV RX3 48 RX3 yX3_setLoad wsX3_setLoad) := goodIn_app (goodIn_of _ (by decide +kernel)) ggX3_grow_X3_setLoad
set_option maxRecDepth 20000 in
theorem ggX3_grow_X3_parent : GoodIn wsX3_grow wsX3_parent := goodIn_r _ [36, 37, 38, 39, 5, 40, 1, 21, 22, 23, 24, 25, 26, 27, 28, 11, 29, 30, 31, 32, 16, 17, 18, 19, 20, 69, 70, 71] (by decide +kernel) (by decide +kernel)
set_option maxRecDepth 20000 in
theorem gX3_grow_X3_parent : GoodIn wsX3_grow (wsV RX3 52 RX3 yX3_parent wsX3_parent) := goodIn_app (goodIn_of _ (by decide +kernel)) ggX3_grow_X3_parent
set_option maxRecDepth 20000 in
theorem ggX3_grow_X3_relieve : GoodIn wsX3_grow wsX3_relieve := goodIn_r _ [44, 45, 46, 47, 48, 49, 50, 51, 5, 52, 53, 54, 55, 56, 25, 26, 27, 28, 1, 11, 29, 30, 31, 32, 16, 17, 18, 19, 20, 12, 13, 14, 15, 57, 58, 59, 60, 7, 8, 9, 10, 61, 62, 63, 64, 69, 70, 71] (by decide +kernel) (by decide +kernel)
set_option maxRecDepth 20000 in
theorem gX3_grow_X3_relieve : GoodIn wsX3_grow (wsV RX3 55 RX3 yX3_relieve wsX3_relieve) := goodIn_app (goodIn_of _ (by decide +kernel)) ggX3_grow_X3_relieve
set_option maxRecDepth 20000 in
theorem ggX3_grow_X3_gainEntry : GoodIn wsX3_grow wsX3_gainEntry := goodIn_r _ [68, 2, 3, 4, 5, 6, 1, 7, 8, 9, 10, 11, 12, 13, 14, 15, 16, 17, 18, 19, 20, 29, 30, 31, 32, 69, 70, 71] (by decide +kernel) (by decide +kernel)
set_option maxRecDepth 20000 in
theorem gX3_grow_X3_gainEntry : GoodIn wsX3_grow (wsV RX3 59 RX3 yX3_gainEntry wsX3_gainEntry) := goodIn_app (goodIn_of _ (by decide +kernel)) ggX3_grow_X3_gainEntry
theorem dX3_grow_0 : decode cX3_grow 0 = .ok (.aload_n 0, 1) := by decide +kernel
theorem dX3_grow_1 : decode cX3_grow 1 = .ok (.getfield 18, 3) := by decide +kernel
theorem dX3_grow_4 : decode cX3_grow 4 = .ok (.ifCond .ne 9, 3) := by decide +kernel
theorem dX3_grow_7 : decode cX3_grow 7 = .ok (.aload_n 0, 1) := by decide +kernel
theorem dX3_grow_8 : decode cX3_grow 8 = .ok (.iconst 1, 1) := by decide +kernel
theorem dX3_grow_9 : decode cX3_grow 9 = .ok (.invokevirtual 44, 3) := by decide +kernel
theorem dX3_grow_12 : decode cX3_grow 12 = .ok (.return_, 1) := by decide +kernel
theorem dX3_grow_13 : decode cX3_grow 13 = .ok (.aload_n 0, 1) := by decide +kernel
theorem dX3_grow_14 : decode cX3_grow 14 = .ok (.iconst 0, 1) := by decide +kernel
theorem dX3_grow_15 : decode cX3_grow 15 = .ok (.iload_n 1, 1) := by decide +kernel
theorem dX3_grow_16 : decode cX3_grow 16 = .ok (.invokevirtual 41, 3) := by decide +kernel
theorem dX3_grow_19 : decode cX3_grow 19 = .ok (.istore_n 2, 1) := by decide +kernel
theorem dX3_grow_20 : decode cX3_grow 20 = .ok (.aload_n 0, 1) := by decide +kernel
theorem dX3_grow_21 : decode cX3_grow 21 = .ok (.iconst 0, 1) := by decide +kernel
theorem dX3_grow_22 : decode cX3_grow 22 = .ok (.iload_n 2, 1) := by decide +kernel
theorem dX3_grow_23 : decode cX3_grow 23 = .ok (.aload_n 0, 1) := by decide +kernel
theorem dX3_grow_24 : decode cX3_grow 24 = .ok (.iconst 0, 1) := by decide +kernel
theorem dX3_grow_25 : decode cX3_grow 25 = .ok (.iload_n 2, 1) := by decide +kernel
theorem dX3_grow_26 : decode cX3_grow 26 = .ok (.invokevirtual 30, 3) := by decide +kernel
theorem dX3_grow_29 : decode cX3_grow 29 = .ok (.iconst 1, 1) := by decide +kernel
theorem dX3_grow_30 : decode cX3_grow 30 = .ok (.iadd, 1) := by decide +kernel
theorem dX3_grow_31 : decode cX3_grow 31 = .ok (.invokevirtual 48, 3) := by decide +kernel
theorem dX3_grow_34 : decode cX3_grow 34 = .ok (.iconst 0, 1) := by decide +kernel
theorem dX3_grow_35 : decode cX3_grow 35 = .ok (.istore_n 3, 1) := by decide +kernel
theorem dX3_grow_36 : decode cX3_grow 36 = .ok (.iload_n 3, 1) := by decide +kernel
theorem dX3_grow_37 : decode cX3_grow 37 = .ok (.bipush 8, 2) := by decide +kernel
theorem dX3_grow_39 : decode cX3_grow 39 = .ok (.if_icmp .ge 50, 3) := by decide +kernel
theorem dX3_grow_42 : decode cX3_grow 42 = .ok (.aload_n 0, 1) := by decide +kernel
theorem dX3_grow_43 : decode cX3_grow 43 = .ok (.iload_n 3, 1) := by decide +kernel
theorem dX3_grow_44 : decode cX3_grow 44 = .ok (.iload_n 2, 1) := by decide +kernel
theorem dX3_grow_45 : decode cX3_grow 45 = .ok (.invokevirtual 30, 3) := by decide +kernel
theorem dX3_grow_48 : decode cX3_grow 48 = .ok (.iconst 4, 1) := by decide +kernel
theorem dX3_grow_49 : decode cX3_grow 49 = .ok (.if_icmp .le 40, 3) := by decide +kernel
theorem dX3_grow_52 : decode cX3_grow 52 = .ok (.aload_n 0, 1) := by decide +kernel
theorem dX3_grow_53 : decode cX3_grow 53 = .ok (.iload_n 3, 1) := by decide +kernel
theorem dX3_grow_54 : decode cX3_grow 54 = .ok (.iload_n 2, 1) := by decide +kernel
theorem dX3_grow_55 : decode cX3_grow 55 = .ok (.invokevirtual 52, 3) := by decide +kernel
theorem dX3_grow_58 : decode cX3_grow 58 = .ok (.istore 4, 2) := by decide +kernel
theorem dX3_grow_60 : decode cX3_grow 60 = .ok (.aload_n 0, 1) := by decide +kernel
theorem dX3_grow_61 : decode cX3_grow 61 = .ok (.iload_n 3, 1) := by decide +kernel
theorem dX3_grow_62 : decode cX3_grow 62 = .ok (.iload_n 2, 1) := by decide +kernel
theorem dX3_grow_63 : decode cX3_grow 63 = .ok (.iload 4, 2) := by decide +kernel
theorem dX3_grow_65 : decode cX3_grow 65 = .ok (.invokevirtual 55, 3) := by decide +kernel
theorem dX3_grow_68 : decode cX3_grow 68 = .ok (.ifCond .eq 12, 3) := by decide +kernel
theorem dX3_grow_71 : decode cX3_grow 71 = .ok (.aload_n 0, 1) := by decide +kernel
theorem dX3_grow_72 : decode cX3_grow 72 = .ok (.iload_n 3, 1) := by decide +kernel
theorem dX3_grow_73 : decode cX3_grow 73 = .ok (.iconst 1, 1) := by decide +kernel
theorem dX3_grow_74 : decode cX3_grow 74 = .ok (.iadd, 1) := by decide +kernel
theorem dX3_grow_75 : decode cX3_grow 75 = .ok (.iload 4, 2) := by decide +kernel
theorem dX3_grow_77 : decode cX3_grow 77 = .ok (.invokevirtual 59, 3) := by decide +kernel
theorem dX3_grow_80 : decode cX3_grow 80 = .ok (.iload 4, 2) := by decide +kernel
theorem dX3_grow_82 : decode cX3_grow 82 = .ok (.istore_n 2, 1) := by decide +kernel
theorem dX3_grow_83 : decode cX3_grow 83 = .ok (.iinc 3 1, 3) := by decide +kernel
theorem dX3_grow_86 : decode cX3_grow 86 = .ok (.goto (-50), 3) := by decide +kernel
theorem dX3_grow_89 : decode cX3_grow 89 = .ok (.return_, 1) := by decide +kernel
set_option maxRecDepth 20000 in
theorem ggX3_gainEntry_X3_addRoot : GoodIn wsX3_gainEntry wsX3_addRoot := goodIn_r _ [5, 6, 7, 8, 9, 4, 10, 11, 12, 13, 14, 15, 16, 17, 18, 19, 20, 25, 26, 27] (by decide +kernel) (by decide +kernel)
set_option maxRecDepth 20000 in
theorem gX3_gainEntry_X3_addRoot : GoodIn wsX3_gainEntry (wsV RX3 44 RX3 yX3_addRoot wsX3_addRoot) := goodIn_app (goodIn_of _ (by decide +kernel)) ggX3_gainEntry_X3_addRoot
set_option maxRecDepth 20000 in
theorem ggX3_gainEntry_X3_load : GoodIn wsX3_gainEntry wsX3_load := goodIn_r _ [24, 16, 17, 18, 19, 4, 20, 6, 11, 25, 26, 27] (by decide +kernel) (by decide +kernel)
set_option maxRecDepth 20000 in
theorem gX3_gainEntry_X3_load : GoodIn wsX3_gainEntry (wsV RX3 30 RX3 yX3_load wsX3_load) := goodIn_app (goodIn_of _ (by decide +kernel)) ggX3_gainEntry_X3_load
set_option maxRecDepth 20000 in
theorem ggX3_gainEntry_X3_setLoad : GoodIn wsX3_gainEntry wsX3_setLoad := goodIn_r _ [15, 16, 17, 18, 19, 4, 20, 6, 11, 25, 26, 27] (by decide +kernel) (by decide +kernel)
set_option maxRecDepth 20000 in
theorem gX3_gainEntry_X3_setLoad : GoodIn wsX3_gainEntry (wsV RX3 48 RX3 yX3_setLoad wsX3_setLoad) := goodIn_app (goodIn_of _ (by decide +kernel)) ggX3_gainEntry_X3_setLoad
theorem dX3_gainEntry_0 : decode cX3_gainEntry 0 = .ok (.iload_n 2, 1) := by decide +kernel
theorem dX3_gainEntry_1 : decode cX3_gainEntry 1 = .ok (.ifCond .ge 11, 3) := by decide +kernel
theorem dX3_gainEntry_4 : decode cX3_gainEntry 4 = .ok (.aload_n 0, 1) := by decide +kernel
theorem dX3_gainEntry_5 : decode cX3_gainEntry 5 = .ok (.iconst 2, 1) := by decide +kernel
theorem dX3_gainEntry_6 : decode cX3_gainEntry 6 = .ok (.invokevirtual 44, 3) := by decide +kernel
theorem dX3_gainEntry_9 : decode cX3_gainEntry 9 = .ok (.goto 17, 3) := by decide +kernel
theorem dX3_gainEntry_12 : decode cX3_gainEntry 12 = .ok (.aload_n 0, 1) := by decide +kernel
theorem dX3_gainEntry_13 : decode cX3_gainEntry 13 = .ok (.iload_n 1, 1) := by decide +kernel
theorem dX3_gainEntry_14 : decode cX3_gainEntry 14 = .ok (.iload_n 2, 1) := by decide +kernel
theorem dX3_gainEntry_15 : decode cX3_gainEntry 15 = .ok (.aload_n 0, 1) := by decide +kernel
theorem dX3_gainEntry_16 : decode cX3_gainEntry 16 = .ok (.iload_n 1, 1) := by decide +kernel
theorem dX3_gainEntry_17 : decode cX3_gainEntry 17 = .ok (.iload_n 2, 1) := by decide +kernel
theorem dX3_gainEntry_18 : decode cX3_gainEntry 18 = .ok (.invokevirtual 30, 3) := by decide +kernel
theorem dX3_gainEntry_21 : decode cX3_gainEntry 21 = .ok (.iconst 1, 1) := by decide +kernel
theorem dX3_gainEntry_22 : decode cX3_gainEntry 22 = .ok (.iadd, 1) := by decide +kernel
theorem dX3_gainEntry_23 : decode cX3_gainEntry 23 = .ok (.invokevirtual 48, 3) := by decide +kernel
theorem dX3_gainEntry_26 : decode cX3_gainEntry 26 = .ok (.return_, 1) := by decide +kernel
set_option maxRecDepth 20000 in
theorem ggX3_addRoot_X3_setWidth : GoodIn wsX3_addRoot wsX3_setWidth := goodIn_r _ [6, 7, 17, 18, 19] (by decide +kernel) (by decide +kernel)
set_option maxRecDepth 20000 in
theorem gX3_addRoot_X3_setWidth : GoodIn wsX3_addRoot (wsV RX3 63 RX3 yX3_setWidth wsX3_setWidth) := goodIn_app (goodIn_of _ (by decide +kernel)) ggX3_addRoot_X3_setWidth
set_option maxRecDepth 20000 in
theorem ggX3_addRoot_X3_setLoad : GoodIn wsX3_addRoot wsX3_setLoad := goodIn_r _ [11, 12, 13, 14, 15, 5, 16, 1, 7, 17, 18, 19] (by decide +kernel) (by decide +kernel)
set_option maxRecDepth 20000 in
theorem gX3_addRoot_X3_setLoad : GoodIn wsX3_addRoot (wsV RX3 48 RX3 yX3_setLoad wsX3_setLoad) := goodIn_app (goodIn_of _ (by decide +kernel)) ggX3_addRoot_X3_setLoad
theorem dX3_addRoot_0 : decode cX3_addRoot 0 = .ok (.aload_n 0, 1) := by decide +kernel
theorem dX3_addRoot_1 : decode cX3_addRoot 1 = .ok (.getfield 18, 3) := by decide +kernel
theorem dX3_addRoot_4 : decode cX3_addRoot 4 = .ok (.bipush 8, 2) := by decide +kernel
theorem dX3_addRoot_6 : decode cX3_addRoot 6 = .ok (.if_icmp .ge 36, 3) := by decide +kernel
theorem dX3_addRoot_9 : decode cX3_addRoot 9 = .ok (.aload_n 0, 1) := by decide +kernel
theorem dX3_addRoot_10 : decode cX3_addRoot 10 = .ok (.dup, 1) := by decide +kernel
theorem dX3_addRoot_11 : decode cX3_addRoot 11 = .ok (.getfield 18, 3) := by decide +kernel
theorem dX3_addRoot_14 : decode cX3_addRoot 14 = .ok (.iconst 1, 1) := by decide +kernel
theorem dX3_addRoot_15 : decode cX3_addRoot 15 = .ok (.iadd, 1) := by decide +kernel
theorem dX3_addRoot_16 : decode cX3_addRoot 16 = .ok (.putfield 18, 3) := by decide +kernel
theorem dX3_addRoot_19 : decode cX3_addRoot 19 = .ok (.aload_n 0, 1) := by decide +kernel
theorem dX3_addRoot_20 : decode cX3_addRoot 20 = .ok (.aload_n 0, 1) := by decide +kernel
theorem dX3_addRoot_21 : decode cX3_addRoot 21 = .ok (.getfield 18, 3) := by decide +kernel
theorem dX3_addRoot_24 : decode cX3_addRoot 24 = .ok (.iconst 1, 1) := by decide +kernel
theorem dX3_addRoot_25 : decode cX3_addRoot 25 = .ok (.isub, 1) := by decide +kernel
theorem dX3_addRoot_26 : decode cX3_addRoot 26 = .ok (.iconst 1, 1) := by decide +kernel
theorem dX3_addRoot_27 : decode cX3_addRoot 27 = .ok (.invokevirtual 63, 3) := by decide +kernel
theorem dX3_addRoot_30 : decode cX3_addRoot 30 = .ok (.aload_n 0, 1) := by decide +kernel
theorem dX3_addRoot_31 : decode cX3_addRoot 31 = .ok (.aload_n 0, 1) := by decide +kernel
theorem dX3_addRoot_32 : decode cX3_addRoot 32 = .ok (.getfield 18, 3) := by decide +kernel
theorem dX3_addRoot_35 : decode cX3_addRoot 35 = .ok (.iconst 1, 1) := by decide +kernel
theorem dX3_addRoot_36 : decode cX3_addRoot 36 = .ok (.isub, 1) := by decide +kernel
theorem dX3_addRoot_37 : decode cX3_addRoot 37 = .ok (.iconst 0, 1) := by decide +kernel
theorem dX3_addRoot_38 : decode cX3_addRoot 38 = .ok (.iload_n 1, 1) := by decide +kernel
theorem dX3_addRoot_39 : decode cX3_addRoot 39 = .ok (.invokevirtual 48, 3) := by decide +kernel
theorem dX3_addRoot_42 : decode cX3_addRoot 42 = .ok (.return_, 1) := by decide +kernel
set_option maxRecDepth 20000 in
theorem ggX3_relieve_X3_partner : GoodIn wsX3_relieve wsX3_partner := goodIn_r _ [9, 10, 11, 12, 8, 13, 14, 15, 16, 17, 18, 19, 20, 21, 22, 23, 24, 25, 26, 27, 28, 45, 46, 47] (by decide +kernel) (by decide +kernel)
set_option maxRecDepth 20000 in
theorem gX3_relieve_X3_partner : GoodIn wsX3_relieve (wsV RX3 66 RX3 yX3_partner wsX3_partner) := goodIn_app (goodIn_of _ (by decide +kernel)) ggX3_relieve_X3_partner
set_option maxRecDepth 20000 in
theorem ggX3_relieve_X3_setLoad : GoodIn wsX3_relieve wsX3_setLoad := goodIn_r _ [32, 24, 25, 26, 27, 8, 28, 18, 19, 45, 46, 47] (by decide +kernel) (by decide +kernel)
set_option maxRecDepth 20000 in
theorem gX3_relieve_X3_setLoad : GoodIn wsX3_relieve (wsV RX3 48 RX3 yX3_setLoad wsX3_setLoad) := goodIn_app (goodIn_of _ (by decide +kernel)) ggX3_relieve_X3_setLoad
set_option maxRecDepth 20000 in
theorem ggX3_relieve_X3_insertNode : GoodIn wsX3_relieve wsX3_insertNode := goodIn_r _ [36, 14, 15, 16, 8, 17, 18, 19, 37, 38, 39, 40, 20, 21, 22, 23, 24, 25, 26, 27, 28, 29, 30, 31, 32, 45, 46, 47] (by decide +kernel) (by decide +kernel)
set_option maxRecDepth 20000 in
theorem gX3_relieve_X3_insertNode : GoodIn wsX3_relieve (wsV RX3 70 RX3 yX3_insertNode wsX3_insertNode) := goodIn_app (goodIn_of _ (by decide +kernel)) ggX3_relieve_X3_insertNode
set_option maxRecDepth 20000 in
theorem ggX3_relieve_X3_load : GoodIn wsX3_relieve wsX3_load := goodIn_r _ [23, 24, 25, 26, 27, 8, 28, 18, 19, 45, 46, 47] (by decide +kernel) (by decide +kernel)
set_option maxRecDepth 20000 in
theorem gX3_relieve_X3_load : GoodIn wsX3_relieve (wsV RX3 30 RX3 yX3_load wsX3_load) := goodIn_app (goodIn_of _ (by decide +kernel)) ggX3_relieve_X3_load
set_option maxRecDepth 20000 in
theorem ggX3_relieve_X3_halve : GoodIn wsX3_relieve wsX3_halve := goodIn_r _ [44, 20, 21, 22, 8, 23, 24, 25, 26, 27, 28, 18, 19, 29, 30, 31, 32, 45, 46, 47] (by decide +kernel) (by decide +kernel)
set_option maxRecDepth 20000 in
theorem gX3_relieve_X3_halve : GoodIn wsX3_relieve (wsV RX3 78 RX3 yX3_halve wsX3_halve) := goodIn_app (goodIn_of _ (by decide +kernel)) ggX3_relieve_X3_halve
theorem dX3_relieve_0 : decode cX3_relieve 0 = .ok (.aload_n 0, 1) := by decide +kernel
theorem dX3_relieve_1 : decode cX3_relieve 1 = .ok (.iload_n 1, 1) := by decide +kernel
theorem dX3_relieve_2 : decode cX3_relieve 2 = .ok (.iload_n 2, 1) := by decide +kernel
theorem dX3_relieve_3 : decode cX3_relieve 3 = .ok (.iload_n 3, 1) := by decide +kernel
theorem dX3_relieve_4 : decode cX3_relieve 4 = .ok (.invokevirtual 66, 3) := by decide +kernel
theorem dX3_relieve_7 : decode cX3_relieve 7 = .ok (.istore 4, 2) := by decide +kernel
theorem dX3_relieve_9 : decode cX3_relieve 9 = .ok (.iload 4, 2) := by decide +kernel
theorem dX3_relieve_11 : decode cX3_relieve 11 = .ok (.ifCond .ge 21, 3) := by decide +kernel
theorem dX3_relieve_14 : decode cX3_relieve 14 = .ok (.aload_n 0, 1) := by decide +kernel
theorem dX3_relieve_15 : decode cX3_relieve 15 = .ok (.iload_n 1, 1) := by decide +kernel
theorem dX3_relieve_16 : decode cX3_relieve 16 = .ok (.iload_n 2, 1) := by decide +kernel
theorem dX3_relieve_17 : decode cX3_relieve 17 = .ok (.iconst 3, 1) := by decide +kernel
theorem dX3_relieve_18 : decode cX3_relieve 18 = .ok (.invokevirtual 48, 3) := by decide +kernel
theorem dX3_relieve_21 : decode cX3_relieve 21 = .ok (.aload_n 0, 1) := by decide +kernel
theorem dX3_relieve_22 : decode cX3_relieve 22 = .ok (.iload_n 1, 1) := by decide +kernel
theorem dX3_relieve_23 : decode cX3_relieve 23 = .ok (.iload_n 2, 1) := by decide +kernel
theorem dX3_relieve_24 : decode cX3_relieve 24 = .ok (.iconst 1, 1) := by decide +kernel
theorem dX3_relieve_25 : decode cX3_relieve 25 = .ok (.iadd, 1) := by decide +kernel
theorem dX3_relieve_26 : decode cX3_relieve 26 = .ok (.iconst 2, 1) := by decide +kernel
theorem dX3_relieve_27 : decode cX3_relieve 27 = .ok (.invokevirtual 70, 3) := by decide +kernel
theorem dX3_relieve_30 : decode cX3_relieve 30 = .ok (.iconst 1, 1) := by decide +kernel
theorem dX3_relieve_31 : decode cX3_relieve 31 = .ok (.ireturn, 1) := by decide +kernel
theorem dX3_relieve_32 : decode cX3_relieve 32 = .ok (.iload_n 2, 1) := by decide +kernel
theorem dX3_relieve_33 : decode cX3_relieve 33 = .ok (.iload 4, 2) := by decide +kernel
theorem dX3_relieve_35 : decode cX3_relieve 35 = .ok (.invokestatic 73, 3) := by decide +kernel
theorem dX3_relieve_38 : decode cX3_relieve 38 = .ok (.istore 5, 2) := by decide +kernel
theorem dX3_relieve_40 : decode cX3_relieve 40 = .ok (.aload_n 0, 1) := by decide +kernel
theorem dX3_relieve_41 : decode cX3_relieve 41 = .ok (.iload_n 1, 1) := by decide +kernel
theorem dX3_relieve_42 : decode cX3_relieve 42 = .ok (.iload 4, 2) := by decide +kernel
theorem dX3_relieve_44 : decode cX3_relieve 44 = .ok (.invokevirtual 30, 3) := by decide +kernel
theorem dX3_relieve_47 : decode cX3_relieve 47 = .ok (.iconst 4, 1) := by decide +kernel
theorem dX3_relieve_48 : decode cX3_relieve 48 = .ok (.if_icmp .ge 12, 3) := by decide +kernel
theorem dX3_relieve_51 : decode cX3_relieve 51 = .ok (.aload_n 0, 1) := by decide +kernel
theorem dX3_relieve_52 : decode cX3_relieve 52 = .ok (.iload_n 1, 1) := by decide +kernel
theorem dX3_relieve_53 : decode cX3_relieve 53 = .ok (.iload 5, 2) := by decide +kernel
theorem dX3_relieve_55 : decode cX3_relieve 55 = .ok (.invokevirtual 78, 3) := by decide +kernel
theorem dX3_relieve_58 : decode cX3_relieve 58 = .ok (.iconst 0, 1) := by decide +kernel
theorem dX3_relieve_59 : decode cX3_relieve 59 = .ok (.ireturn, 1) := by decide +kernel
theorem dX3_relieve_60 : decode cX3_relieve 60 = .ok (.aload_n 0, 1) := by decide +kernel
theorem dX3_relieve_61 : decode cX3_relieve 61 = .ok (.iload_n 1, 1) := by decide +kernel
theorem dX3_relieve_62 : decode cX3_relieve 62 = .ok (.iload 5, 2) := by decide +kernel
theorem dX3_relieve_64 : decode cX3_relieve 64 = .ok (.iconst 3, 1) := by decide +kernel
theorem dX3_relieve_65 : decode cX3_relieve 65 = .ok (.invokevirtual 48, 3) := by decide +kernel
theorem dX3_relieve_68 : decode cX3_relieve 68 = .ok (.aload_n 0, 1) := by decide +kernel
theorem dX3_relieve_69 : decode cX3_relieve 69 = .ok (.iload_n 1, 1) := by decide +kernel
theorem dX3_relieve_70 : decode cX3_relieve 70 = .ok (.iload 5, 2) := by decide +kernel
theorem dX3_relieve_72 : decode cX3_relieve 72 = .ok (.iconst 1, 1) := by decide +kernel
theorem dX3_relieve_73 : decode cX3_relieve 73 = .ok (.iadd, 1) := by decide +kernel
theorem dX3_relieve_74 : decode cX3_relieve 74 = .ok (.iconst 3, 1) := by decide +kernel
theorem dX3_relieve_75 : decode cX3_relieve 75 = .ok (.invokevirtual 48, 3) := by decide +kernel
theorem dX3_relieve_78 : decode cX3_relieve 78 = .ok (.aload_n 0, 1) := by decide +kernel
theorem dX3_relieve_79 : decode cX3_relieve 79 = .ok (.iload_n 1, 1) := by decide +kernel
theorem dX3_relieve_80 : decode cX3_relieve 80 = .ok (.iload 5, 2) := by decide +kernel
theorem dX3_relieve_82 : decode cX3_relieve 82 = .ok (.iconst 2, 1) := by decide +kernel
theorem dX3_relieve_83 : decode cX3_relieve 83 = .ok (.iadd, 1) := by decide +kernel
theorem dX3_relieve_84 : decode cX3_relieve 84 = .ok (.iconst 3, 1) := by decide +kernel
theorem dX3_relieve_85 : decode cX3_relieve 85 = .ok (.invokevirtual 70, 3) := by decide +kernel
theorem dX3_relieve_88 : decode cX3_relieve 88 = .ok (.iconst 1, 1) := by decide +kernel
theorem dX3_relieve_89 : decode cX3_relieve 89 = .ok (.ireturn, 1) := by decide +kernel
set_option maxRecDepth 20000 in
theorem ggX3_halve_X3_load : GoodIn wsX3_halve wsX3_load := goodIn_r _ [5, 6, 7, 8, 9, 4, 10, 11, 12, 17, 18, 19] (by decide +kernel) (by decide +kernel)
set_option maxRecDepth 20000 in
theorem gX3_halve_X3_load : GoodIn wsX3_halve (wsV RX3 30 RX3 yX3_load wsX3_load) := goodIn_app (goodIn_of _ (by decide +kernel)) ggX3_halve_X3_load
set_option maxRecDepth 20000 in
theorem ggX3_halve_X3_setLoad : GoodIn wsX3_halve wsX3_setLoad := goodIn_r _ [16, 6, 7, 8, 9, 4, 10, 11, 12, 17, 18, 19] (by decide +kernel) (by decide +kernel)
set_option maxRecDepth 20000 in
theorem gX3_halve_X3_setLoad : GoodIn wsX3_halve (wsV RX3 48 RX3 yX3_setLoad wsX3_setLoad) := goodIn_app (goodIn_of _ (by decide +kernel)) ggX3_halve_X3_setLoad
theorem dX3_halve_0 : decode cX3_halve 0 = .ok (.aload_n 0, 1) := by decide +kernel
