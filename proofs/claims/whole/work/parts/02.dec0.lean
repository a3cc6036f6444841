theorem dX0_init_0 : decode cX0_init 0 = .ok (.aload_n 0, 1) := by decide +kernel
theorem dX0_init_1 : decode cX0_init 1 = .ok (.invokespecial 3, 3) := by decide +kernel
theorem dX0_init_4 : decode cX0_init 4 = .ok (.aload_n 0, 1) := by decide +kernel
theorem dX0_init_5 : decode cX0_init 5 = .ok (.bipush 10, 2) := by decide +kernel
theorem dX0_init_7 : decode cX0_init 7 = .ok (.newarray .int, 2) := by decide +kernel
theorem dX0_init_9 : decode cX0_init 9 = .ok (.putfield 9, 3) := by decide +kernel
theorem dX0_init_12 : decode cX0_init 12 = .ok (.aload_n 0, 1) := by decide +kernel
theorem dX0_init_13 : decode cX0_init 13 = .ok (.bipush 6, 2) := by decide +kernel
theorem dX0_init_15 : decode cX0_init 15 = .ok (.newarray .int, 2) := by decide +kernel
theorem dX0_init_17 : decode cX0_init 17 = .ok (.putfield 15, 3) := by decide +kernel
theorem dX0_init_20 : decode cX0_init 20 = .ok (.aload_n 0, 1) := by decide +kernel
theorem dX0_init_21 : decode cX0_init 21 = .ok (.bipush 6, 2) := by decide +kernel
theorem dX0_init_23 : decode cX0_init 23 = .ok (.newarray .int, 2) := by decide +kernel
theorem dX0_init_25 : decode cX0_init 25 = .ok (.putfield 18, 3) := by decide +kernel
theorem dX0_init_28 : decode cX0_init 28 = .ok (.aload_n 0, 1) := by decide +kernel
theorem dX0_init_29 : decode cX0_init 29 = .ok (.bipush 6, 2) := by decide +kernel
theorem dX0_init_31 : decode cX0_init 31 = .ok (.newarray .int, 2) := by decide +kernel
theorem dX0_init_33 : decode cX0_init 33 = .ok (.putfield 21, 3) := by decide +kernel
theorem dX0_init_36 : decode cX0_init 36 = .ok (.aload_n 0, 1) := by decide +kernel
theorem dX0_init_37 : decode cX0_init 37 = .ok (.iload_n 1, 1) := by decide +kernel
theorem dX0_init_38 : decode cX0_init 38 = .ok (.putfield 24, 3) := by decide +kernel
theorem dX0_init_41 : decode cX0_init 41 = .ok (.aload_n 0, 1) := by decide +kernel
theorem dX0_init_42 : decode cX0_init 42 = .ok (.iload_n 1, 1) := by decide +kernel
theorem dX0_init_43 : decode cX0_init 43 = .ok (.newarray .int, 2) := by decide +kernel
theorem dX0_init_45 : decode cX0_init 45 = .ok (.putfield 28, 3) := by decide +kernel
theorem dX0_init_48 : decode cX0_init 48 = .ok (.aload_n 0, 1) := by decide +kernel
theorem dX0_init_49 : decode cX0_init 49 = .ok (.iload_n 1, 1) := by decide +kernel
theorem dX0_init_50 : decode cX0_init 50 = .ok (.newarray .int, 2) := by decide +kernel
theorem dX0_init_52 : decode cX0_init 52 = .ok (.putfield 31, 3) := by decide +kernel
theorem dX0_init_55 : decode cX0_init 55 = .ok (.aload_n 0, 1) := by decide +kernel
theorem dX0_init_56 : decode cX0_init 56 = .ok (.iload_n 1, 1) := by decide +kernel
theorem dX0_init_57 : decode cX0_init 57 = .ok (.newarray .int, 2) := by decide +kernel
theorem dX0_init_59 : decode cX0_init 59 = .ok (.putfield 34, 3) := by decide +kernel
theorem dX0_init_62 : decode cX0_init 62 = .ok (.aload_n 0, 1) := by decide +kernel
theorem dX0_init_63 : decode cX0_init 63 = .ok (.getfield 28, 3) := by decide +kernel
theorem dX0_init_66 : decode cX0_init 66 = .ok (.bipush 100, 2) := by decide +kernel
theorem dX0_init_68 : decode cX0_init 68 = .ok (.invokestatic 37, 3) := by decide +kernel
theorem dX0_init_71 : decode cX0_init 71 = .ok (.aload_n 0, 1) := by decide +kernel
theorem dX0_init_72 : decode cX0_init 72 = .ok (.getfield 31, 3) := by decide +kernel
theorem dX0_init_75 : decode cX0_init 75 = .ok (.bipush 100, 2) := by decide +kernel
theorem dX0_init_77 : decode cX0_init 77 = .ok (.invokestatic 37, 3) := by decide +kernel
theorem dX0_init_80 : decode cX0_init 80 = .ok (.return_, 1) := by decide +kernel
theorem dX0_hullCount_0 : decode cX0_hullCount 0 = .ok (.aload_n 0, 1) := by decide +kernel
theorem dX0_hullCount_1 : decode cX0_hullCount 1 = .ok (.getfield 24, 3) := by decide +kernel
theorem dX0_hullCount_4 : decode cX0_hullCount 4 = .ok (.ireturn, 1) := by decide +kernel
theorem dX0_cartCount_0 : decode cX0_cartCount 0 = .ok (.aload_n 0, 1) := by decide +kernel
theorem dX0_cartCount_1 : decode cX0_cartCount 1 = .ok (.getfield 43, 3) := by decide +kernel
theorem dX0_cartCount_4 : decode cX0_cartCount 4 = .ok (.ireturn, 1) := by decide +kernel
theorem dX0_hasHull_0 : decode cX0_hasHull 0 = .ok (.iload_n 1, 1) := by decide +kernel
theorem dX0_hasHull_1 : decode cX0_hasHull 1 = .ok (.iconst 0, 1) := by decide +kernel
theorem dX0_hasHull_2 : decode cX0_hasHull 2 = .ok (.aload_n 0, 1) := by decide +kernel
theorem dX0_hasHull_3 : decode cX0_hasHull 3 = .ok (.getfield 24, 3) := by decide +kernel
theorem dX0_hasHull_6 : decode cX0_hasHull 6 = .ok (.iconst 1, 1) := by decide +kernel
theorem dX0_hasHull_7 : decode cX0_hasHull 7 = .ok (.isub, 1) := by decide +kernel
theorem dX0_hasHull_8 : decode cX0_hasHull 8 = .ok (.invokestatic 46, 3) := by decide +kernel
theorem dX0_hasHull_11 : decode cX0_hasHull 11 = .ok (.ireturn, 1) := by decide +kernel
theorem dX0_setHull_0 : decode cX0_setHull 0 = .ok (.aload_n 0, 1) := by decide +kernel
theorem dX0_setHull_1 : decode cX0_setHull 1 = .ok (.getfield 28, 3) := by decide +kernel
theorem dX0_setHull_4 : decode cX0_setHull 4 = .ok (.iload_n 1, 1) := by decide +kernel
theorem dX0_setHull_5 : decode cX0_setHull 5 = .ok (.iload_n 2, 1) := by decide +kernel
theorem dX0_setHull_6 : decode cX0_setHull 6 = .ok (.iastore, 1) := by decide +kernel
theorem dX0_setHull_7 : decode cX0_setHull 7 = .ok (.aload_n 0, 1) := by decide +kernel
theorem dX0_setHull_8 : decode cX0_setHull 8 = .ok (.getfield 31, 3) := by decide +kernel
theorem dX0_setHull_11 : decode cX0_setHull 11 = .ok (.iload_n 1, 1) := by decide +kernel
theorem dX0_setHull_12 : decode cX0_setHull 12 = .ok (.iload_n 3, 1) := by decide +kernel
theorem dX0_setHull_13 : decode cX0_setHull 13 = .ok (.iastore, 1) := by decide +kernel
theorem dX0_setHull_14 : decode cX0_setHull 14 = .ok (.return_, 1) := by decide +kernel
theorem dX0_setPull_0 : decode cX0_setPull 0 = .ok (.aload_n 0, 1) := by decide +kernel
theorem dX0_setPull_1 : decode cX0_setPull 1 = .ok (.getfield 9, 3) := by decide +kernel
theorem dX0_setPull_4 : decode cX0_setPull 4 = .ok (.iload_n 1, 1) := by decide +kernel
theorem dX0_setPull_5 : decode cX0_setPull 5 = .ok (.iload_n 2, 1) := by decide +kernel
theorem dX0_setPull_6 : decode cX0_setPull 6 = .ok (.iastore, 1) := by decide +kernel
theorem dX0_setPull_7 : decode cX0_setPull 7 = .ok (.return_, 1) := by decide +kernel
theorem dX0_anchorsBelow_0 : decode cX0_anchorsBelow 0 = .ok (.iconst 0, 1) := by decide +kernel
theorem dX0_anchorsBelow_1 : decode cX0_anchorsBelow 1 = .ok (.istore_n 2, 1) := by decide +kernel
theorem dX0_anchorsBelow_2 : decode cX0_anchorsBelow 2 = .ok (.iconst 0, 1) := by decide +kernel
theorem dX0_anchorsBelow_3 : decode cX0_anchorsBelow 3 = .ok (.istore_n 3, 1) := by decide +kernel
theorem dX0_anchorsBelow_4 : decode cX0_anchorsBelow 4 = .ok (.iload_n 3, 1) := by decide +kernel
theorem dX0_anchorsBelow_5 : decode cX0_anchorsBelow 5 = .ok (.aload_n 0, 1) := by decide +kernel
theorem dX0_anchorsBelow_6 : decode cX0_anchorsBelow 6 = .ok (.getfield 24, 3) := by decide +kernel
theorem dX0_anchorsBelow_9 : decode cX0_anchorsBelow 9 = .ok (.if_icmp .ge 27, 3) := by decide +kernel
theorem dX0_anchorsBelow_12 : decode cX0_anchorsBelow 12 = .ok (.aload_n 0, 1) := by decide +kernel
theorem dX0_anchorsBelow_13 : decode cX0_anchorsBelow 13 = .ok (.getfield 31, 3) := by decide +kernel
theorem dX0_anchorsBelow_16 : decode cX0_anchorsBelow 16 = .ok (.iload_n 3, 1) := by decide +kernel
theorem dX0_anchorsBelow_17 : decode cX0_anchorsBelow 17 = .ok (.iaload, 1) := by decide +kernel
theorem dX0_anchorsBelow_18 : decode cX0_anchorsBelow 18 = .ok (.aload_n 0, 1) := by decide +kernel
theorem dX0_anchorsBelow_19 : decode cX0_anchorsBelow 19 = .ok (.getfield 9, 3) := by decide +kernel
theorem dX0_anchorsBelow_22 : decode cX0_anchorsBelow 22 = .ok (.iload_n 1, 1) := by decide +kernel
theorem dX0_anchorsBelow_23 : decode cX0_anchorsBelow 23 = .ok (.iaload, 1) := by decide +kernel
theorem dX0_anchorsBelow_24 : decode cX0_anchorsBelow 24 = .ok (.if_icmp .ge 6, 3) := by decide +kernel
theorem dX0_anchorsBelow_27 : decode cX0_anchorsBelow 27 = .ok (.iinc 2 1, 3) := by decide +kernel
theorem dX0_anchorsBelow_30 : decode cX0_anchorsBelow 30 = .ok (.iinc 3 1, 3) := by decide +kernel
theorem dX0_anchorsBelow_33 : decode cX0_anchorsBelow 33 = .ok (.goto (-29), 3) := by decide +kernel
theorem dX0_anchorsBelow_36 : decode cX0_anchorsBelow 36 = .ok (.iload_n 2, 1) := by decide +kernel
theorem dX0_anchorsBelow_37 : decode cX0_anchorsBelow 37 = .ok (.ireturn, 1) := by decide +kernel
theorem dX0_addCart_0 : decode cX0_addCart 0 = .ok (.aload_n 0, 1) := by decide +kernel
theorem dX0_addCart_1 : decode cX0_addCart 1 = .ok (.getfield 15, 3) := by decide +kernel
theorem dX0_addCart_4 : decode cX0_addCart 4 = .ok (.aload_n 0, 1) := by decide +kernel
theorem dX0_addCart_5 : decode cX0_addCart 5 = .ok (.getfield 43, 3) := by decide +kernel
theorem dX0_addCart_8 : decode cX0_addCart 8 = .ok (.iload_n 1, 1) := by decide +kernel
theorem dX0_addCart_9 : decode cX0_addCart 9 = .ok (.iastore, 1) := by decide +kernel
theorem dX0_addCart_10 : decode cX0_addCart 10 = .ok (.aload_n 0, 1) := by decide +kernel
theorem dX0_addCart_11 : decode cX0_addCart 11 = .ok (.getfield 18, 3) := by decide +kernel
theorem dX0_addCart_14 : decode cX0_addCart 14 = .ok (.aload_n 0, 1) := by decide +kernel
theorem dX0_addCart_15 : decode cX0_addCart 15 = .ok (.getfield 43, 3) := by decide +kernel
theorem dX0_addCart_18 : decode cX0_addCart 18 = .ok (.aload_n 0, 1) := by decide +kernel
theorem dX0_addCart_19 : decode cX0_addCart 19 = .ok (.getfield 43, 3) := by decide +kernel
theorem dX0_addCart_22 : decode cX0_addCart 22 = .ok (.ifCond .ne 7, 3) := by decide +kernel
theorem dX0_addCart_25 : decode cX0_addCart 25 = .ok (.iconst 0, 1) := by decide +kernel
theorem dX0_addCart_26 : decode cX0_addCart 26 = .ok (.goto 16, 3) := by decide +kernel
theorem dX0_addCart_29 : decode cX0_addCart 29 = .ok (.aload_n 0, 1) := by decide +kernel
theorem dX0_addCart_30 : decode cX0_addCart 30 = .ok (.getfield 18, 3) := by decide +kernel
theorem dX0_addCart_33 : decode cX0_addCart 33 = .ok (.aload_n 0, 1) := by decide +kernel
theorem dX0_addCart_34 : decode cX0_addCart 34 = .ok (.getfield 43, 3) := by decide +kernel
theorem dX0_addCart_37 : decode cX0_addCart 37 = .ok (.iconst 1, 1) := by decide +kernel
theorem dX0_addCart_38 : decode cX0_addCart 38 = .ok (.isub, 1) := by decide +kernel
theorem dX0_addCart_39 : decode cX0_addCart 39 = .ok (.iaload, 1) := by decide +kernel
theorem dX0_addCart_40 : decode cX0_addCart 40 = .ok (.iload_n 2, 1) := by decide +kernel
theorem dX0_addCart_41 : decode cX0_addCart 41 = .ok (.iadd, 1) := by decide +kernel
theorem dX0_addCart_42 : decode cX0_addCart 42 = .ok (.iastore, 1) := by decide +kernel
theorem dX0_addCart_43 : decode cX0_addCart 43 = .ok (.aload_n 0, 1) := by decide +kernel
theorem dX0_addCart_44 : decode cX0_addCart 44 = .ok (.dup, 1) := by decide +kernel
theorem dX0_addCart_45 : decode cX0_addCart 45 = .ok (.getfield 43, 3) := by decide +kernel
theorem dX0_addCart_48 : decode cX0_addCart 48 = .ok (.iconst 1, 1) := by decide +kernel
theorem dX0_addCart_49 : decode cX0_addCart 49 = .ok (.iadd, 1) := by decide +kernel
theorem dX0_addCart_50 : decode cX0_addCart 50 = .ok (.putfield 43, 3) := by decide +kernel
theorem dX0_addCart_53 : decode cX0_addCart 53 = .ok (.aload_n 0, 1) := by decide +kernel
theorem dX0_addCart_54 : decode cX0_addCart 54 = .ok (.getfield 43, 3) := by decide +kernel
theorem dX0_addCart_57 : decode cX0_addCart 57 = .ok (.ireturn, 1) := by decide +kernel
theorem dX0_dropCarts_0 : decode cX0_dropCarts 0 = .ok (.aload_n 0, 1) := by decide +kernel
theorem dX0_dropCarts_1 : decode cX0_dropCarts 1 = .ok (.getfield 43, 3) := by decide +kernel
theorem dX0_dropCarts_4 : decode cX0_dropCarts 4 = .ok (.istore_n 1, 1) := by decide +kernel
theorem dX0_dropCarts_5 : decode cX0_dropCarts 5 = .ok (.aload_n 0, 1) := by decide +kernel
theorem dX0_dropCarts_6 : decode cX0_dropCarts 6 = .ok (.iconst 0, 1) := by decide +kernel
theorem dX0_dropCarts_7 : decode cX0_dropCarts 7 = .ok (.putfield 43, 3) := by decide +kernel
theorem dX0_dropCarts_10 : decode cX0_dropCarts 10 = .ok (.iload_n 1, 1) := by decide +kernel
theorem dX0_dropCarts_11 : decode cX0_dropCarts 11 = .ok (.ireturn, 1) := by decide +kernel
theorem dX0_loadOn_0 : decode cX0_loadOn 0 = .ok (.aload_n 0, 1) := by decide +kernel
theorem dX0_loadOn_1 : decode cX0_loadOn 1 = .ok (.iload_n 2, 1) := by decide +kernel
theorem dX0_loadOn_2 : decode cX0_loadOn 2 = .ok (.aload_n 0, 1) := by decide +kernel
theorem dX0_loadOn_3 : decode cX0_loadOn 3 = .ok (.getfield 18, 3) := by decide +kernel
theorem dX0_loadOn_6 : decode cX0_loadOn 6 = .ok (.invokevirtual 50, 3) := by decide +kernel
theorem dX0_loadOn_9 : decode cX0_loadOn 9 = .ok (.aload_n 0, 1) := by decide +kernel
theorem dX0_loadOn_10 : decode cX0_loadOn 10 = .ok (.getfield 34, 3) := by decide +kernel
theorem dX0_loadOn_13 : decode cX0_loadOn 13 = .ok (.iload_n 1, 1) := by decide +kernel
theorem dX0_loadOn_14 : decode cX0_loadOn 14 = .ok (.iaload, 1) := by decide +kernel
theorem dX0_loadOn_15 : decode cX0_loadOn 15 = .ok (.ireturn, 1) := by decide +kernel
theorem dX0_leastMargin_0 : decode cX0_leastMargin 0 = .ok (.aload_n 0, 1) := by decide +kernel
theorem dX0_leastMargin_1 : decode cX0_leastMargin 1 = .ok (.aload_n 0, 1) := by decide +kernel
theorem dX0_leastMargin_2 : decode cX0_leastMargin 2 = .ok (.getfield 18, 3) := by decide +kernel
theorem dX0_leastMargin_5 : decode cX0_leastMargin 5 = .ok (.invokevirtual 54, 3) := by decide +kernel
theorem dX0_leastMargin_8 : decode cX0_leastMargin 8 = .ok (.iload_n 1, 1) := by decide +kernel
theorem dX0_leastMargin_9 : decode cX0_leastMargin 9 = .ok (.ifCond .ne 8, 3) := by decide +kernel
theorem dX0_leastMargin_12 : decode cX0_leastMargin 12 = .ok (.aload_n 0, 1) := by decide +kernel
theorem dX0_leastMargin_13 : decode cX0_leastMargin 13 = .ok (.getfield 58, 3) := by decide +kernel
theorem dX0_leastMargin_16 : decode cX0_leastMargin 16 = .ok (.ireturn, 1) := by decide +kernel
theorem dX0_leastMargin_17 : decode cX0_leastMargin 17 = .ok (.iload_n 1, 1) := by decide +kernel
theorem dX0_leastMargin_18 : decode cX0_leastMargin 18 = .ok (.iconst 1, 1) := by decide +kernel
theorem dX0_leastMargin_19 : decode cX0_leastMargin 19 = .ok (.if_icmp .ne 10, 3) := by decide +kernel
theorem dX0_leastMargin_22 : decode cX0_leastMargin 22 = .ok (.aload_n 0, 1) := by decide +kernel
theorem dX0_leastMargin_23 : decode cX0_leastMargin 23 = .ok (.getfield 61, 3) := by decide +kernel
theorem dX0_leastMargin_26 : decode cX0_leastMargin 26 = .ok (.goto 7, 3) := by decide +kernel
theorem dX0_leastMargin_29 : decode cX0_leastMargin 29 = .ok (.aload_n 0, 1) := by decide +kernel
theorem dX0_leastMargin_30 : decode cX0_leastMargin 30 = .ok (.getfield 64, 3) := by decide +kernel
theorem dX0_leastMargin_33 : decode cX0_leastMargin 33 = .ok (.ireturn, 1) := by decide +kernel
theorem dX0_leastEvenGap_0 : decode cX0_leastEvenGap 0 = .ok (.iconst 1, 1) := by decide +kernel
theorem dX0_leastEvenGap_1 : decode cX0_leastEvenGap 1 = .ok (.istore_n 1, 1) := by decide +kernel
theorem dX0_leastEvenGap_2 : decode cX0_leastEvenGap 2 = .ok (.iload_n 1, 1) := by decide +kernel
theorem dX0_leastEvenGap_3 : decode cX0_leastEvenGap 3 = .ok (.bipush 12, 2) := by decide +kernel
theorem dX0_leastEvenGap_5 : decode cX0_leastEvenGap 5 = .ok (.if_icmp .gt 51, 3) := by decide +kernel
theorem dX0_leastEvenGap_8 : decode cX0_leastEvenGap 8 = .ok (.iconst 0, 1) := by decide +kernel
theorem dX0_leastEvenGap_9 : decode cX0_leastEvenGap 9 = .ok (.istore_n 2, 1) := by decide +kernel
theorem dX0_leastEvenGap_10 : decode cX0_leastEvenGap 10 = .ok (.iload_n 2, 1) := by decide +kernel
theorem dX0_leastEvenGap_11 : decode cX0_leastEvenGap 11 = .ok (.aload_n 0, 1) := by decide +kernel
theorem dX0_leastEvenGap_12 : decode cX0_leastEvenGap 12 = .ok (.getfield 43, 3) := by decide +kernel
theorem dX0_leastEvenGap_15 : decode cX0_leastEvenGap 15 = .ok (.if_icmp .ge 18, 3) := by decide +kernel
theorem dX0_leastEvenGap_18 : decode cX0_leastEvenGap 18 = .ok (.aload_n 0, 1) := by decide +kernel
theorem dX0_leastEvenGap_19 : decode cX0_leastEvenGap 19 = .ok (.getfield 21, 3) := by decide +kernel
theorem dX0_leastEvenGap_22 : decode cX0_leastEvenGap 22 = .ok (.iload_n 2, 1) := by decide +kernel
theorem dX0_leastEvenGap_23 : decode cX0_leastEvenGap 23 = .ok (.iload_n 2, 1) := by decide +kernel
theorem dX0_leastEvenGap_24 : decode cX0_leastEvenGap 24 = .ok (.iload_n 1, 1) := by decide +kernel
theorem dX0_leastEvenGap_25 : decode cX0_leastEvenGap 25 = .ok (.imul, 1) := by decide +kernel
theorem dX0_leastEvenGap_26 : decode cX0_leastEvenGap 26 = .ok (.iastore, 1) := by decide +kernel
theorem dX0_leastEvenGap_27 : decode cX0_leastEvenGap 27 = .ok (.iinc 2 1, 3) := by decide +kernel
theorem dX0_leastEvenGap_30 : decode cX0_leastEvenGap 30 = .ok (.goto (-20), 3) := by decide +kernel
theorem dX0_leastEvenGap_33 : decode cX0_leastEvenGap 33 = .ok (.aload_n 0, 1) := by decide +kernel
theorem dX0_leastEvenGap_34 : decode cX0_leastEvenGap 34 = .ok (.aload_n 0, 1) := by decide +kernel
theorem dX0_leastEvenGap_35 : decode cX0_leastEvenGap 35 = .ok (.getfield 21, 3) := by decide +kernel
theorem dX0_leastEvenGap_38 : decode cX0_leastEvenGap 38 = .ok (.invokevirtual 54, 3) := by decide +kernel
theorem dX0_leastEvenGap_41 : decode cX0_leastEvenGap 41 = .ok (.aload_n 0, 1) := by decide +kernel
theorem dX0_leastEvenGap_42 : decode cX0_leastEvenGap 42 = .ok (.getfield 58, 3) := by decide +kernel
theorem dX0_leastEvenGap_45 : decode cX0_leastEvenGap 45 = .ok (.ifCond .lt 5, 3) := by decide +kernel
theorem dX0_leastEvenGap_48 : decode cX0_leastEvenGap 48 = .ok (.iload_n 1, 1) := by decide +kernel
theorem dX0_leastEvenGap_49 : decode cX0_leastEvenGap 49 = .ok (.ireturn, 1) := by decide +kernel
theorem dX0_leastEvenGap_50 : decode cX0_leastEvenGap 50 = .ok (.iinc 1 1, 3) := by decide +kernel
theorem dX0_leastEvenGap_53 : decode cX0_leastEvenGap 53 = .ok (.goto (-51), 3) := by decide +kernel
theorem dX0_leastEvenGap_56 : decode cX0_leastEvenGap 56 = .ok (.iconst (-1), 1) := by decide +kernel
theorem dX0_leastEvenGap_57 : decode cX0_leastEvenGap 57 = .ok (.ireturn, 1) := by decide +kernel
theorem dX0_findLeastMargin_0 : decode cX0_findLeastMargin 0 = .ok (.aload_n 0, 1) := by decide +kernel
theorem dX0_findLeastMargin_1 : decode cX0_findLeastMargin 1 = .ok (.ldc 69, 2) := by decide +kernel
theorem dX0_findLeastMargin_3 : decode cX0_findLeastMargin 3 = .ok (.putfield 58, 3) := by decide +kernel
theorem dX0_findLeastMargin_6 : decode cX0_findLeastMargin 6 = .ok (.aload_n 0, 1) := by decide +kernel
theorem dX0_findLeastMargin_7 : decode cX0_findLeastMargin 7 = .ok (.iconst (-1), 1) := by decide +kernel
theorem dX0_findLeastMargin_8 : decode cX0_findLeastMargin 8 = .ok (.putfield 61, 3) := by decide +kernel
theorem dX0_findLeastMargin_11 : decode cX0_findLeastMargin 11 = .ok (.aload_n 0, 1) := by decide +kernel
theorem dX0_findLeastMargin_12 : decode cX0_findLeastMargin 12 = .ok (.iconst (-1), 1) := by decide +kernel
theorem dX0_findLeastMargin_13 : decode cX0_findLeastMargin 13 = .ok (.putfield 64, 3) := by decide +kernel
theorem dX0_findLeastMargin_16 : decode cX0_findLeastMargin 16 = .ok (.aload_n 0, 1) := by decide +kernel
theorem dX0_findLeastMargin_17 : decode cX0_findLeastMargin 17 = .ok (.getfield 43, 3) := by decide +kernel
theorem dX0_findLeastMargin_20 : decode cX0_findLeastMargin 20 = .ok (.ifCond .le 21, 3) := by decide +kernel
theorem dX0_findLeastMargin_23 : decode cX0_findLeastMargin 23 = .ok (.aload_n 0, 1) := by decide +kernel
theorem dX0_findLeastMargin_24 : decode cX0_findLeastMargin 24 = .ok (.getfield 24, 3) := by decide +kernel
theorem dX0_findLeastMargin_27 : decode cX0_findLeastMargin 27 = .ok (.iconst 1, 1) := by decide +kernel
theorem dX0_findLeastMargin_28 : decode cX0_findLeastMargin 28 = .ok (.isub, 1) := by decide +kernel
theorem dX0_findLeastMargin_29 : decode cX0_findLeastMargin 29 = .ok (.aload_n 1, 1) := by decide +kernel
theorem dX0_findLeastMargin_30 : decode cX0_findLeastMargin 30 = .ok (.aload_n 0, 1) := by decide +kernel
theorem dX0_findLeastMargin_31 : decode cX0_findLeastMargin 31 = .ok (.getfield 43, 3) := by decide +kernel
theorem dX0_findLeastMargin_34 : decode cX0_findLeastMargin 34 = .ok (.iconst 1, 1) := by decide +kernel
theorem dX0_findLeastMargin_35 : decode cX0_findLeastMargin 35 = .ok (.isub, 1) := by decide +kernel
theorem dX0_findLeastMargin_36 : decode cX0_findLeastMargin 36 = .ok (.iaload, 1) := by decide +kernel
theorem dX0_findLeastMargin_37 : decode cX0_findLeastMargin 37 = .ok (.iadd, 1) := by decide +kernel
theorem dX0_findLeastMargin_38 : decode cX0_findLeastMargin 38 = .ok (.goto 4, 3) := by decide +kernel
theorem dX0_findLeastMargin_41 : decode cX0_findLeastMargin 41 = .ok (.iconst (-1), 1) := by decide +kernel
theorem dX0_findLeastMargin_42 : decode cX0_findLeastMargin 42 = .ok (.istore_n 2, 1) := by decide +kernel
theorem dX0_findLeastMargin_43 : decode cX0_findLeastMargin 43 = .ok (.iconst 0, 1) := by decide +kernel
theorem dX0_findLeastMargin_44 : decode cX0_findLeastMargin 44 = .ok (.istore_n 3, 1) := by decide +kernel
theorem dX0_findLeastMargin_45 : decode cX0_findLeastMargin 45 = .ok (.iload_n 3, 1) := by decide +kernel
theorem dX0_findLeastMargin_46 : decode cX0_findLeastMargin 46 = .ok (.iload_n 2, 1) := by decide +kernel
theorem dX0_findLeastMargin_47 : decode cX0_findLeastMargin 47 = .ok (.if_icmp .gt 78, 3) := by decide +kernel
theorem dX0_findLeastMargin_50 : decode cX0_findLeastMargin 50 = .ok (.aload_n 0, 1) := by decide +kernel
theorem dX0_findLeastMargin_51 : decode cX0_findLeastMargin 51 = .ok (.iload_n 3, 1) := by decide +kernel
theorem dX0_findLeastMargin_52 : decode cX0_findLeastMargin 52 = .ok (.aload_n 1, 1) := by decide +kernel
theorem dX0_findLeastMargin_53 : decode cX0_findLeastMargin 53 = .ok (.invokevirtual 50, 3) := by decide +kernel
theorem dX0_findLeastMargin_56 : decode cX0_findLeastMargin 56 = .ok (.iconst 0, 1) := by decide +kernel
theorem dX0_findLeastMargin_57 : decode cX0_findLeastMargin 57 = .ok (.istore 4, 2) := by decide +kernel
theorem dX0_findLeastMargin_59 : decode cX0_findLeastMargin 59 = .ok (.iload 4, 2) := by decide +kernel
theorem dX0_findLeastMargin_61 : decode cX0_findLeastMargin 61 = .ok (.aload_n 0, 1) := by decide +kernel
theorem dX0_findLeastMargin_62 : decode cX0_findLeastMargin 62 = .ok (.getfield 24, 3) := by decide +kernel
theorem dX0_findLeastMargin_65 : decode cX0_findLeastMargin 65 = .ok (.if_icmp .ge 54, 3) := by decide +kernel
theorem dX0_findLeastMargin_68 : decode cX0_findLeastMargin 68 = .ok (.iconst 4, 1) := by decide +kernel
theorem dX0_findLeastMargin_69 : decode cX0_findLeastMargin 69 = .ok (.aload_n 0, 1) := by decide +kernel
theorem dX0_findLeastMargin_70 : decode cX0_findLeastMargin 70 = .ok (.getfield 28, 3) := by decide +kernel
theorem dX0_findLeastMargin_73 : decode cX0_findLeastMargin 73 = .ok (.iload 4, 2) := by decide +kernel
theorem dX0_findLeastMargin_75 : decode cX0_findLeastMargin 75 = .ok (.iaload, 1) := by decide +kernel
theorem dX0_findLeastMargin_76 : decode cX0_findLeastMargin 76 = .ok (.imul, 1) := by decide +kernel
theorem dX0_findLeastMargin_77 : decode cX0_findLeastMargin 77 = .ok (.aload_n 0, 1) := by decide +kernel
theorem dX0_findLeastMargin_78 : decode cX0_findLeastMargin 78 = .ok (.getfield 34, 3) := by decide +kernel
theorem dX0_findLeastMargin_81 : decode cX0_findLeastMargin 81 = .ok (.iload 4, 2) := by decide +kernel
theorem dX0_findLeastMargin_83 : decode cX0_findLeastMargin 83 = .ok (.iaload, 1) := by decide +kernel
theorem dX0_findLeastMargin_84 : decode cX0_findLeastMargin 84 = .ok (.isub, 1) := by decide +kernel
theorem dX0_findLeastMargin_85 : decode cX0_findLeastMargin 85 = .ok (.istore 5, 2) := by decide +kernel
theorem dX0_findLeastMargin_87 : decode cX0_findLeastMargin 87 = .ok (.iload 5, 2) := by decide +kernel
theorem dX0_findLeastMargin_89 : decode cX0_findLeastMargin 89 = .ok (.aload_n 0, 1) := by decide +kernel
theorem dX0_findLeastMargin_90 : decode cX0_findLeastMargin 90 = .ok (.getfield 58, 3) := by decide +kernel
theorem dX0_findLeastMargin_93 : decode cX0_findLeastMargin 93 = .ok (.if_icmp .ge 20, 3) := by decide +kernel
theorem dX0_findLeastMargin_96 : decode cX0_findLeastMargin 96 = .ok (.aload_n 0, 1) := by decide +kernel
theorem dX0_findLeastMargin_97 : decode cX0_findLeastMargin 97 = .ok (.iload 5, 2) := by decide +kernel
theorem dX0_findLeastMargin_99 : decode cX0_findLeastMargin 99 = .ok (.putfield 58, 3) := by decide +kernel
theorem dX0_findLeastMargin_102 : decode cX0_findLeastMargin 102 = .ok (.aload_n 0, 1) := by decide +kernel
theorem dX0_findLeastMargin_103 : decode cX0_findLeastMargin 103 = .ok (.iload 4, 2) := by decide +kernel
theorem dX0_findLeastMargin_105 : decode cX0_findLeastMargin 105 = .ok (.putfield 61, 3) := by decide +kernel
theorem dX0_findLeastMargin_108 : decode cX0_findLeastMargin 108 = .ok (.aload_n 0, 1) := by decide +kernel
theorem dX0_findLeastMargin_109 : decode cX0_findLeastMargin 109 = .ok (.iload_n 3, 1) := by decide +kernel
theorem dX0_findLeastMargin_110 : decode cX0_findLeastMargin 110 = .ok (.putfield 64, 3) := by decide +kernel
theorem dX0_findLeastMargin_113 : decode cX0_findLeastMargin 113 = .ok (.iinc 4 1, 3) := by decide +kernel
theorem dX0_findLeastMargin_116 : decode cX0_findLeastMargin 116 = .ok (.goto (-57), 3) := by decide +kernel
theorem dX0_findLeastMargin_119 : decode cX0_findLeastMargin 119 = .ok (.iinc 3 1, 3) := by decide +kernel
theorem dX0_findLeastMargin_122 : decode cX0_findLeastMargin 122 = .ok (.goto (-77), 3) := by decide +kernel
theorem dX0_findLeastMargin_125 : decode cX0_findLeastMargin 125 = .ok (.return_, 1) := by decide +kernel
theorem dX0_layLoads_0 : decode cX0_layLoads 0 = .ok (.aload_n 0, 1) := by decide +kernel
theorem dX0_layLoads_1 : decode cX0_layLoads 1 = .ok (.getfield 34, 3) := by decide +kernel
theorem dX0_layLoads_4 : decode cX0_layLoads 4 = .ok (.iconst 0, 1) := by decide +kernel
theorem dX0_layLoads_5 : decode cX0_layLoads 5 = .ok (.invokestatic 37, 3) := by decide +kernel
theorem dX0_layLoads_8 : decode cX0_layLoads 8 = .ok (.iconst 0, 1) := by decide +kernel
theorem dX0_layLoads_9 : decode cX0_layLoads 9 = .ok (.istore_n 3, 1) := by decide +kernel
theorem dX0_layLoads_10 : decode cX0_layLoads 10 = .ok (.iload_n 3, 1) := by decide +kernel
theorem dX0_layLoads_11 : decode cX0_layLoads 11 = .ok (.aload_n 0, 1) := by decide +kernel
theorem dX0_layLoads_12 : decode cX0_layLoads 12 = .ok (.getfield 43, 3) := by decide +kernel
theorem dX0_layLoads_15 : decode cX0_layLoads 15 = .ok (.if_icmp .ge 67, 3) := by decide +kernel
theorem dX0_layLoads_18 : decode cX0_layLoads 18 = .ok (.iload_n 1, 1) := by decide +kernel
theorem dX0_layLoads_19 : decode cX0_layLoads 19 = .ok (.aload_n 2, 1) := by decide +kernel
theorem dX0_layLoads_20 : decode cX0_layLoads 20 = .ok (.iload_n 3, 1) := by decide +kernel
theorem dX0_layLoads_21 : decode cX0_layLoads 21 = .ok (.iaload, 1) := by decide +kernel
theorem dX0_layLoads_22 : decode cX0_layLoads 22 = .ok (.isub, 1) := by decide +kernel
theorem dX0_layLoads_23 : decode cX0_layLoads 23 = .ok (.istore 4, 2) := by decide +kernel
theorem dX0_layLoads_25 : decode cX0_layLoads 25 = .ok (.aload_n 0, 1) := by decide +kernel
theorem dX0_layLoads_26 : decode cX0_layLoads 26 = .ok (.iload 4, 2) := by decide +kernel
theorem dX0_layLoads_28 : decode cX0_layLoads 28 = .ok (.invokevirtual 70, 3) := by decide +kernel
theorem dX0_layLoads_31 : decode cX0_layLoads 31 = .ok (.ifCond .eq 45, 3) := by decide +kernel
theorem dX0_layLoads_34 : decode cX0_layLoads 34 = .ok (.aload_n 0, 1) := by decide +kernel
theorem dX0_layLoads_35 : decode cX0_layLoads 35 = .ok (.iload 4, 2) := by decide +kernel
theorem dX0_layLoads_37 : decode cX0_layLoads 37 = .ok (.iconst 2, 1) := by decide +kernel
theorem dX0_layLoads_38 : decode cX0_layLoads 38 = .ok (.aload_n 0, 1) := by decide +kernel
theorem dX0_layLoads_39 : decode cX0_layLoads 39 = .ok (.getfield 15, 3) := by decide +kernel
theorem dX0_layLoads_42 : decode cX0_layLoads 42 = .ok (.iload_n 3, 1) := by decide +kernel
theorem dX0_layLoads_43 : decode cX0_layLoads 43 = .ok (.iaload, 1) := by decide +kernel
theorem dX0_layLoads_44 : decode cX0_layLoads 44 = .ok (.imul, 1) := by decide +kernel
theorem dX0_layLoads_45 : decode cX0_layLoads 45 = .ok (.invokevirtual 74, 3) := by decide +kernel
theorem dX0_layLoads_48 : decode cX0_layLoads 48 = .ok (.aload_n 0, 1) := by decide +kernel
theorem dX0_layLoads_49 : decode cX0_layLoads 49 = .ok (.iload 4, 2) := by decide +kernel
theorem dX0_layLoads_51 : decode cX0_layLoads 51 = .ok (.iconst 1, 1) := by decide +kernel
theorem dX0_layLoads_52 : decode cX0_layLoads 52 = .ok (.isub, 1) := by decide +kernel
theorem dX0_layLoads_53 : decode cX0_layLoads 53 = .ok (.aload_n 0, 1) := by decide +kernel
theorem dX0_layLoads_54 : decode cX0_layLoads 54 = .ok (.getfield 15, 3) := by decide +kernel
theorem dX0_layLoads_57 : decode cX0_layLoads 57 = .ok (.iload_n 3, 1) := by decide +kernel
theorem dX0_layLoads_58 : decode cX0_layLoads 58 = .ok (.iaload, 1) := by decide +kernel
theorem dX0_layLoads_59 : decode cX0_layLoads 59 = .ok (.invokevirtual 74, 3) := by decide +kernel
theorem dX0_layLoads_62 : decode cX0_layLoads 62 = .ok (.aload_n 0, 1) := by decide +kernel
theorem dX0_layLoads_63 : decode cX0_layLoads 63 = .ok (.iload 4, 2) := by decide +kernel
theorem dX0_layLoads_65 : decode cX0_layLoads 65 = .ok (.iconst 1, 1) := by decide +kernel
theorem dX0_layLoads_66 : decode cX0_layLoads 66 = .ok (.iadd, 1) := by decide +kernel
theorem dX0_layLoads_67 : decode cX0_layLoads 67 = .ok (.aload_n 0, 1) := by decide +kernel
theorem dX0_layLoads_68 : decode cX0_layLoads 68 = .ok (.getfield 15, 3) := by decide +kernel
theorem dX0_layLoads_71 : decode cX0_layLoads 71 = .ok (.iload_n 3, 1) := by decide +kernel
theorem dX0_layLoads_72 : decode cX0_layLoads 72 = .ok (.iaload, 1) := by decide +kernel
theorem dX0_layLoads_73 : decode cX0_layLoads 73 = .ok (.invokevirtual 74, 3) := by decide +kernel
theorem dX0_layLoads_76 : decode cX0_layLoads 76 = .ok (.iinc 3 1, 3) := by decide +kernel
theorem dX0_layLoads_79 : decode cX0_layLoads 79 = .ok (.goto (-69), 3) := by decide +kernel
theorem dX0_layLoads_82 : decode cX0_layLoads 82 = .ok (.return_, 1) := by decide +kernel
theorem dX0_press_0 : decode cX0_press 0 = .ok (.aload_n 0, 1) := by decide +kernel
theorem dX0_press_1 : decode cX0_press 1 = .ok (.iload_n 1, 1) := by decide +kernel
theorem dX0_press_2 : decode cX0_press 2 = .ok (.invokevirtual 70, 3) := by decide +kernel
theorem dX0_press_5 : decode cX0_press 5 = .ok (.ifCond .eq 13, 3) := by decide +kernel
theorem dX0_press_8 : decode cX0_press 8 = .ok (.aload_n 0, 1) := by decide +kernel
theorem dX0_press_9 : decode cX0_press 9 = .ok (.getfield 34, 3) := by decide +kernel
theorem dX0_press_12 : decode cX0_press 12 = .ok (.iload_n 1, 1) := by decide +kernel
theorem dX0_press_13 : decode cX0_press 13 = .ok (.dup2, 1) := by decide +kernel
theorem dX0_press_14 : decode cX0_press 14 = .ok (.iaload, 1) := by decide +kernel
theorem dX0_press_15 : decode cX0_press 15 = .ok (.iload_n 2, 1) := by decide +kernel
theorem dX0_press_16 : decode cX0_press 16 = .ok (.iadd, 1) := by decide +kernel
theorem dX0_press_17 : decode cX0_press 17 = .ok (.iastore, 1) := by decide +kernel
theorem dX0_press_18 : decode cX0_press 18 = .ok (.return_, 1) := by decide +kernel
theorem dX1_init_0 : decode cX1_init 0 = .ok (.aload_n 0, 1) := by decide +kernel
theorem dX1_init_1 : decode cX1_init 1 = .ok (.invokespecial 3, 3) := by decide +kernel
theorem dX1_init_4 : decode cX1_init 4 = .ok (.aload_n 0, 1) := by decide +kernel
theorem dX1_init_5 : decode cX1_init 5 = .ok (.bipush 10, 2) := by decide +kernel
theorem dX1_init_7 : decode cX1_init 7 = .ok (.newarray .int, 2) := by decide +kernel
theorem dX1_init_9 : decode cX1_init 9 = .ok (.putfield 9, 3) := by decide +kernel
theorem dX1_init_12 : decode cX1_init 12 = .ok (.aload_n 0, 1) := by decide +kernel
theorem dX1_init_13 : decode cX1_init 13 = .ok (.bipush 11, 2) := by decide +kernel
theorem dX1_init_15 : decode cX1_init 15 = .ok (.newarray .int, 2) := by decide +kernel
theorem dX1_init_17 : decode cX1_init 17 = .ok (.putfield 15, 3) := by decide +kernel
theorem dX1_init_20 : decode cX1_init 20 = .ok (.aload_n 0, 1) := by decide +kernel
theorem dX1_init_21 : decode cX1_init 21 = .ok (.sipush 300, 3) := by decide +kernel
theorem dX1_init_24 : decode cX1_init 24 = .ok (.newarray .int, 2) := by decide +kernel
theorem dX1_init_26 : decode cX1_init 26 = .ok (.putfield 18, 3) := by decide +kernel
theorem dX1_init_29 : decode cX1_init 29 = .ok (.aload_n 0, 1) := by decide +kernel
theorem dX1_init_30 : decode cX1_init 30 = .ok (.sipush 241, 3) := by decide +kernel
theorem dX1_init_33 : decode cX1_init 33 = .ok (.newarray .int, 2) := by decide +kernel
theorem dX1_init_35 : decode cX1_init 35 = .ok (.putfield 21, 3) := by decide +kernel
theorem dX1_init_38 : decode cX1_init 38 = .ok (.aload_n 0, 1) := by decide +kernel
theorem dX1_init_39 : decode cX1_init 39 = .ok (.sipush 241, 3) := by decide +kernel
theorem dX1_init_42 : decode cX1_init 42 = .ok (.newarray .int, 2) := by decide +kernel
theorem dX1_init_44 : decode cX1_init 44 = .ok (.putfield 24, 3) := by decide +kernel
theorem dX1_init_47 : decode cX1_init 47 = .ok (.aload_n 0, 1) := by decide +kernel
theorem dX1_init_48 : decode cX1_init 48 = .ok (.sipush 3010, 3) := by decide +kernel
theorem dX1_init_51 : decode cX1_init 51 = .ok (.newarray .int, 2) := by decide +kernel
theorem dX1_init_53 : decode cX1_init 53 = .ok (.putfield 27, 3) := by decide +kernel
theorem dX1_init_56 : decode cX1_init 56 = .ok (.aload_n 0, 1) := by decide +kernel
theorem dX1_init_57 : decode cX1_init 57 = .ok (.sipush 3010, 3) := by decide +kernel
theorem dX1_init_60 : decode cX1_init 60 = .ok (.newarray .int, 2) := by decide +kernel
theorem dX1_init_62 : decode cX1_init 62 = .ok (.putfield 30, 3) := by decide +kernel
theorem dX1_init_65 : decode cX1_init 65 = .ok (.aload_n 0, 1) := by decide +kernel
theorem dX1_init_66 : decode cX1_init 66 = .ok (.bipush 10, 2) := by decide +kernel
theorem dX1_init_68 : decode cX1_init 68 = .ok (.newarray .int, 2) := by decide +kernel
theorem dX1_init_70 : decode cX1_init 70 = .ok (.putfield 33, 3) := by decide +kernel
theorem dX1_init_73 : decode cX1_init 73 = .ok (.aload_n 0, 1) := by decide +kernel
theorem dX1_init_74 : decode cX1_init 74 = .ok (.bipush 10, 2) := by decide +kernel
theorem dX1_init_76 : decode cX1_init 76 = .ok (.newarray .int, 2) := by decide +kernel
theorem dX1_init_78 : decode cX1_init 78 = .ok (.putfield 36, 3) := by decide +kernel
theorem dX1_init_81 : decode cX1_init 81 = .ok (.aload_n 0, 1) := by decide +kernel
theorem dX1_init_82 : decode cX1_init 82 = .ok (.bipush 10, 2) := by decide +kernel
theorem dX1_init_84 : decode cX1_init 84 = .ok (.newarray .int, 2) := by decide +kernel
theorem dX1_init_86 : decode cX1_init 86 = .ok (.putfield 39, 3) := by decide +kernel
theorem dX1_init_89 : decode cX1_init 89 = .ok (.aload_n 0, 1) := by decide +kernel
theorem dX1_init_90 : decode cX1_init 90 = .ok (.iconst 3, 1) := by decide +kernel
theorem dX1_init_91 : decode cX1_init 91 = .ok (.putfield 42, 3) := by decide +kernel
theorem dX1_init_94 : decode cX1_init 94 = .ok (.aload_n 0, 1) := by decide +kernel
theorem dX1_init_95 : decode cX1_init 95 = .ok (.iconst 2, 1) := by decide +kernel
theorem dX1_init_96 : decode cX1_init 96 = .ok (.putfield 46, 3) := by decide +kernel
theorem dX1_init_99 : decode cX1_init 99 = .ok (.aload_n 0, 1) := by decide +kernel
theorem dX1_init_100 : decode cX1_init 100 = .ok (.iconst 3, 1) := by decide +kernel
theorem dX1_init_101 : decode cX1_init 101 = .ok (.putfield 49, 3) := by decide +kernel
theorem dX1_init_104 : decode cX1_init 104 = .ok (.aload_n 0, 1) := by decide +kernel
theorem dX1_init_105 : decode cX1_init 105 = .ok (.iconst 2, 1) := by decide +kernel
theorem dX1_init_106 : decode cX1_init 106 = .ok (.putfield 52, 3) := by decide +kernel
theorem dX1_init_109 : decode cX1_init 109 = .ok (.return_, 1) := by decide +kernel
theorem dX1_shipCount_0 : decode cX1_shipCount 0 = .ok (.aload_n 0, 1) := by decide +kernel
theorem dX1_shipCount_1 : decode cX1_shipCount 1 = .ok (.getfield 55, 3) := by decide +kernel
theorem dX1_shipCount_4 : decode cX1_shipCount 4 = .ok (.ireturn, 1) := by decide +kernel
theorem dX1_crosserCount_0 : decode cX1_crosserCount 0 = .ok (.aload_n 0, 1) := by decide +kernel
theorem dX1_crosserCount_1 : decode cX1_crosserCount 1 = .ok (.getfield 58, 3) := by decide +kernel
theorem dX1_crosserCount_4 : decode cX1_crosserCount 4 = .ok (.ireturn, 1) := by decide +kernel
theorem dX1_addShip_0 : decode cX1_addShip 0 = .ok (.aload_n 0, 1) := by decide +kernel
theorem dX1_addShip_1 : decode cX1_addShip 1 = .ok (.getfield 55, 3) := by decide +kernel
theorem dX1_addShip_4 : decode cX1_addShip 4 = .ok (.istore_n 2, 1) := by decide +kernel
theorem dX1_addShip_5 : decode cX1_addShip 5 = .ok (.aload_n 0, 1) := by decide +kernel
theorem dX1_addShip_6 : decode cX1_addShip 6 = .ok (.getfield 55, 3) := by decide +kernel
theorem dX1_addShip_9 : decode cX1_addShip 9 = .ok (.istore_n 3, 1) := by decide +kernel
theorem dX1_addShip_10 : decode cX1_addShip 10 = .ok (.iload_n 3, 1) := by decide +kernel
theorem dX1_addShip_11 : decode cX1_addShip 11 = .ok (.ifCond .le 39, 3) := by decide +kernel
theorem dX1_addShip_14 : decode cX1_addShip 14 = .ok (.aload_n 0, 1) := by decide +kernel
theorem dX1_addShip_15 : decode cX1_addShip 15 = .ok (.getfield 9, 3) := by decide +kernel
theorem dX1_addShip_18 : decode cX1_addShip 18 = .ok (.iload_n 3, 1) := by decide +kernel
theorem dX1_addShip_19 : decode cX1_addShip 19 = .ok (.iconst 1, 1) := by decide +kernel
theorem dX1_addShip_20 : decode cX1_addShip 20 = .ok (.isub, 1) := by decide +kernel
theorem dX1_addShip_21 : decode cX1_addShip 21 = .ok (.iaload, 1) := by decide +kernel
theorem dX1_addShip_22 : decode cX1_addShip 22 = .ok (.iload_n 1, 1) := by decide +kernel
theorem dX1_addShip_23 : decode cX1_addShip 23 = .ok (.if_icmp .le 27, 3) := by decide +kernel
theorem dX1_addShip_26 : decode cX1_addShip 26 = .ok (.aload_n 0, 1) := by decide +kernel
theorem dX1_addShip_27 : decode cX1_addShip 27 = .ok (.getfield 9, 3) := by decide +kernel
theorem dX1_addShip_30 : decode cX1_addShip 30 = .ok (.iload_n 3, 1) := by decide +kernel
theorem dX1_addShip_31 : decode cX1_addShip 31 = .ok (.aload_n 0, 1) := by decide +kernel
theorem dX1_addShip_32 : decode cX1_addShip 32 = .ok (.getfield 9, 3) := by decide +kernel
theorem dX1_addShip_35 : decode cX1_addShip 35 = .ok (.iload_n 3, 1) := by decide +kernel
theorem dX1_addShip_36 : decode cX1_addShip 36 = .ok (.iconst 1, 1) := by decide +kernel
theorem dX1_addShip_37 : decode cX1_addShip 37 = .ok (.isub, 1) := by decide +kernel
theorem dX1_addShip_38 : decode cX1_addShip 38 = .ok (.iaload, 1) := by decide +kernel
theorem dX1_addShip_39 : decode cX1_addShip 39 = .ok (.iastore, 1) := by decide +kernel
theorem dX1_addShip_40 : decode cX1_addShip 40 = .ok (.iload_n 3, 1) := by decide +kernel
theorem dX1_addShip_41 : decode cX1_addShip 41 = .ok (.iconst 1, 1) := by decide +kernel
theorem dX1_addShip_42 : decode cX1_addShip 42 = .ok (.isub, 1) := by decide +kernel
theorem dX1_addShip_43 : decode cX1_addShip 43 = .ok (.istore_n 2, 1) := by decide +kernel
theorem dX1_addShip_44 : decode cX1_addShip 44 = .ok (.iinc 3 (-1), 3) := by decide +kernel
theorem dX1_addShip_47 : decode cX1_addShip 47 = .ok (.goto (-37), 3) := by decide +kernel
theorem dX1_addShip_50 : decode cX1_addShip 50 = .ok (.aload_n 0, 1) := by decide +kernel
theorem dX1_addShip_51 : decode cX1_addShip 51 = .ok (.getfield 9, 3) := by decide +kernel
theorem dX1_addShip_54 : decode cX1_addShip 54 = .ok (.iload_n 2, 1) := by decide +kernel
theorem dX1_addShip_55 : decode cX1_addShip 55 = .ok (.iload_n 1, 1) := by decide +kernel
theorem dX1_addShip_56 : decode cX1_addShip 56 = .ok (.iastore, 1) := by decide +kernel
theorem dX1_addShip_57 : decode cX1_addShip 57 = .ok (.aload_n 0, 1) := by decide +kernel
theorem dX1_addShip_58 : decode cX1_addShip 58 = .ok (.dup, 1) := by decide +kernel
theorem dX1_addShip_59 : decode cX1_addShip 59 = .ok (.getfield 55, 3) := by decide +kernel
theorem dX1_addShip_62 : decode cX1_addShip 62 = .ok (.iconst 1, 1) := by decide +kernel
theorem dX1_addShip_63 : decode cX1_addShip 63 = .ok (.iadd, 1) := by decide +kernel
theorem dX1_addShip_64 : decode cX1_addShip 64 = .ok (.putfield 55, 3) := by decide +kernel
theorem dX1_addShip_67 : decode cX1_addShip 67 = .ok (.iconst 0, 1) := by decide +kernel
theorem dX1_addShip_68 : decode cX1_addShip 68 = .ok (.istore_n 3, 1) := by decide +kernel
theorem dX1_addShip_69 : decode cX1_addShip 69 = .ok (.iload_n 3, 1) := by decide +kernel
theorem dX1_addShip_70 : decode cX1_addShip 70 = .ok (.aload_n 0, 1) := by decide +kernel
theorem dX1_addShip_71 : decode cX1_addShip 71 = .ok (.getfield 55, 3) := by decide +kernel
theorem dX1_addShip_74 : decode cX1_addShip 74 = .ok (.if_icmp .ge 30, 3) := by decide +kernel
theorem dX1_addShip_77 : decode cX1_addShip 77 = .ok (.aload_n 0, 1) := by decide +kernel
theorem dX1_addShip_78 : decode cX1_addShip 78 = .ok (.getfield 15, 3) := by decide +kernel
theorem dX1_addShip_81 : decode cX1_addShip 81 = .ok (.iload_n 3, 1) := by decide +kernel
theorem dX1_addShip_82 : decode cX1_addShip 82 = .ok (.iconst 1, 1) := by decide +kernel
theorem dX1_addShip_83 : decode cX1_addShip 83 = .ok (.iadd, 1) := by decide +kernel
theorem dX1_addShip_84 : decode cX1_addShip 84 = .ok (.aload_n 0, 1) := by decide +kernel
theorem dX1_addShip_85 : decode cX1_addShip 85 = .ok (.getfield 15, 3) := by decide +kernel
theorem dX1_addShip_88 : decode cX1_addShip 88 = .ok (.iload_n 3, 1) := by decide +kernel
theorem dX1_addShip_89 : decode cX1_addShip 89 = .ok (.iaload, 1) := by decide +kernel
theorem dX1_addShip_90 : decode cX1_addShip 90 = .ok (.aload_n 0, 1) := by decide +kernel
theorem dX1_addShip_91 : decode cX1_addShip 91 = .ok (.getfield 9, 3) := by decide +kernel
theorem dX1_addShip_94 : decode cX1_addShip 94 = .ok (.iload_n 3, 1) := by decide +kernel
theorem dX1_addShip_95 : decode cX1_addShip 95 = .ok (.iaload, 1) := by decide +kernel
theorem dX1_addShip_96 : decode cX1_addShip 96 = .ok (.iadd, 1) := by decide +kernel
theorem dX1_addShip_97 : decode cX1_addShip 97 = .ok (.iastore, 1) := by decide +kernel
theorem dX1_addShip_98 : decode cX1_addShip 98 = .ok (.iinc 3 1, 3) := by decide +kernel
theorem dX1_addShip_101 : decode cX1_addShip 101 = .ok (.goto (-32), 3) := by decide +kernel
theorem dX1_addShip_104 : decode cX1_addShip 104 = .ok (.iload_n 1, 1) := by decide +kernel
theorem dX1_addShip_105 : decode cX1_addShip 105 = .ok (.istore_n 3, 1) := by decide +kernel
theorem dX1_addShip_106 : decode cX1_addShip 106 = .ok (.iload_n 3, 1) := by decide +kernel
theorem dX1_addShip_107 : decode cX1_addShip 107 = .ok (.sipush 300, 3) := by decide +kernel
theorem dX1_addShip_110 : decode cX1_addShip 110 = .ok (.if_icmp .ge 19, 3) := by decide +kernel
theorem dX1_addShip_113 : decode cX1_addShip 113 = .ok (.aload_n 0, 1) := by decide +kernel
theorem dX1_addShip_114 : decode cX1_addShip 114 = .ok (.getfield 18, 3) := by decide +kernel
theorem dX1_addShip_117 : decode cX1_addShip 117 = .ok (.iload_n 3, 1) := by decide +kernel
theorem dX1_addShip_118 : decode cX1_addShip 118 = .ok (.dup2, 1) := by decide +kernel
theorem dX1_addShip_119 : decode cX1_addShip 119 = .ok (.iaload, 1) := by decide +kernel
theorem dX1_addShip_120 : decode cX1_addShip 120 = .ok (.iconst 1, 1) := by decide +kernel
theorem dX1_addShip_121 : decode cX1_addShip 121 = .ok (.iadd, 1) := by decide +kernel
theorem dX1_addShip_122 : decode cX1_addShip 122 = .ok (.iastore, 1) := by decide +kernel
theorem dX1_addShip_123 : decode cX1_addShip 123 = .ok (.iinc 3 1, 3) := by decide +kernel
theorem dX1_addShip_126 : decode cX1_addShip 126 = .ok (.goto (-20), 3) := by decide +kernel
theorem dX1_addShip_129 : decode cX1_addShip 129 = .ok (.aload_n 0, 1) := by decide +kernel
theorem dX1_addShip_130 : decode cX1_addShip 130 = .ok (.iconst 0, 1) := by decide +kernel
theorem dX1_addShip_131 : decode cX1_addShip 131 = .ok (.putfield 61, 3) := by decide +kernel
theorem dX1_addShip_134 : decode cX1_addShip 134 = .ok (.aload_n 0, 1) := by decide +kernel
theorem dX1_addShip_135 : decode cX1_addShip 135 = .ok (.getfield 55, 3) := by decide +kernel
theorem dX1_addShip_138 : decode cX1_addShip 138 = .ok (.iconst 1, 1) := by decide +kernel
theorem dX1_addShip_139 : decode cX1_addShip 139 = .ok (.isub, 1) := by decide +kernel
theorem dX1_addShip_140 : decode cX1_addShip 140 = .ok (.ireturn, 1) := by decide +kernel
theorem dX1_addCrosser_0 : decode cX1_addCrosser 0 = .ok (.iload_n 1, 1) := by decide +kernel
theorem dX1_addCrosser_1 : decode cX1_addCrosser 1 = .ok (.iconst 1, 1) := by decide +kernel
theorem dX1_addCrosser_2 : decode cX1_addCrosser 2 = .ok (.iadd, 1) := by decide +kernel
theorem dX1_addCrosser_3 : decode cX1_addCrosser 3 = .ok (.istore_n 2, 1) := by decide +kernel
theorem dX1_addCrosser_4 : decode cX1_addCrosser 4 = .ok (.iload_n 2, 1) := by decide +kernel
theorem dX1_addCrosser_5 : decode cX1_addCrosser 5 = .ok (.aload_n 0, 1) := by decide +kernel
theorem dX1_addCrosser_6 : decode cX1_addCrosser 6 = .ok (.getfield 21, 3) := by decide +kernel
theorem dX1_addCrosser_9 : decode cX1_addCrosser 9 = .ok (.arraylength, 1) := by decide +kernel
theorem dX1_addCrosser_10 : decode cX1_addCrosser 10 = .ok (.if_icmp .ge 29, 3) := by decide +kernel
theorem dX1_addCrosser_13 : decode cX1_addCrosser 13 = .ok (.aload_n 0, 1) := by decide +kernel
theorem dX1_addCrosser_14 : decode cX1_addCrosser 14 = .ok (.getfield 21, 3) := by decide +kernel
theorem dX1_addCrosser_17 : decode cX1_addCrosser 17 = .ok (.iload_n 2, 1) := by decide +kernel
theorem dX1_addCrosser_18 : decode cX1_addCrosser 18 = .ok (.dup2, 1) := by decide +kernel
theorem dX1_addCrosser_19 : decode cX1_addCrosser 19 = .ok (.iaload, 1) := by decide +kernel
theorem dX1_addCrosser_20 : decode cX1_addCrosser 20 = .ok (.iconst 1, 1) := by decide +kernel
theorem dX1_addCrosser_21 : decode cX1_addCrosser 21 = .ok (.iadd, 1) := by decide +kernel
theorem dX1_addCrosser_22 : decode cX1_addCrosser 22 = .ok (.iastore, 1) := by decide +kernel
theorem dX1_addCrosser_23 : decode cX1_addCrosser 23 = .ok (.aload_n 0, 1) := by decide +kernel
theorem dX1_addCrosser_24 : decode cX1_addCrosser 24 = .ok (.getfield 24, 3) := by decide +kernel
theorem dX1_addCrosser_27 : decode cX1_addCrosser 27 = .ok (.iload_n 2, 1) := by decide +kernel
theorem dX1_addCrosser_28 : decode cX1_addCrosser 28 = .ok (.dup2, 1) := by decide +kernel
theorem dX1_addCrosser_29 : decode cX1_addCrosser 29 = .ok (.iaload, 1) := by decide +kernel
theorem dX1_addCrosser_30 : decode cX1_addCrosser 30 = .ok (.iload_n 1, 1) := by decide +kernel
theorem dX1_addCrosser_31 : decode cX1_addCrosser 31 = .ok (.iadd, 1) := by decide +kernel
theorem dX1_addCrosser_32 : decode cX1_addCrosser 32 = .ok (.iastore, 1) := by decide +kernel
theorem dX1_addCrosser_33 : decode cX1_addCrosser 33 = .ok (.iinc 2 1, 3) := by decide +kernel
theorem dX1_addCrosser_36 : decode cX1_addCrosser 36 = .ok (.goto (-32), 3) := by decide +kernel
theorem dX1_addCrosser_39 : decode cX1_addCrosser 39 = .ok (.aload_n 0, 1) := by decide +kernel
theorem dX1_addCrosser_40 : decode cX1_addCrosser 40 = .ok (.dup, 1) := by decide +kernel
theorem dX1_addCrosser_41 : decode cX1_addCrosser 41 = .ok (.getfield 58, 3) := by decide +kernel
theorem dX1_addCrosser_44 : decode cX1_addCrosser 44 = .ok (.iconst 1, 1) := by decide +kernel
theorem dX1_addCrosser_45 : decode cX1_addCrosser 45 = .ok (.iadd, 1) := by decide +kernel
theorem dX1_addCrosser_46 : decode cX1_addCrosser 46 = .ok (.putfield 58, 3) := by decide +kernel
theorem dX1_addCrosser_49 : decode cX1_addCrosser 49 = .ok (.aload_n 0, 1) := by decide +kernel
theorem dX1_addCrosser_50 : decode cX1_addCrosser 50 = .ok (.iconst 0, 1) := by decide +kernel
theorem dX1_addCrosser_51 : decode cX1_addCrosser 51 = .ok (.putfield 61, 3) := by decide +kernel
theorem dX1_addCrosser_54 : decode cX1_addCrosser 54 = .ok (.aload_n 0, 1) := by decide +kernel
theorem dX1_addCrosser_55 : decode cX1_addCrosser 55 = .ok (.getfield 58, 3) := by decide +kernel
theorem dX1_addCrosser_58 : decode cX1_addCrosser 58 = .ok (.ireturn, 1) := by decide +kernel
theorem dX1_setTimes_0 : decode cX1_setTimes 0 = .ok (.aload_n 0, 1) := by decide +kernel
theorem dX1_setTimes_1 : decode cX1_setTimes 1 = .ok (.iload_n 1, 1) := by decide +kernel
theorem dX1_setTimes_2 : decode cX1_setTimes 2 = .ok (.putfield 42, 3) := by decide +kernel
theorem dX1_setTimes_5 : decode cX1_setTimes 5 = .ok (.aload_n 0, 1) := by decide +kernel
theorem dX1_setTimes_6 : decode cX1_setTimes 6 = .ok (.iload_n 2, 1) := by decide +kernel
theorem dX1_setTimes_7 : decode cX1_setTimes 7 = .ok (.putfield 46, 3) := by decide +kernel
theorem dX1_setTimes_10 : decode cX1_setTimes 10 = .ok (.aload_n 0, 1) := by decide +kernel
theorem dX1_setTimes_11 : decode cX1_setTimes 11 = .ok (.iload_n 3, 1) := by decide +kernel
theorem dX1_setTimes_12 : decode cX1_setTimes 12 = .ok (.putfield 49, 3) := by decide +kernel
theorem dX1_setTimes_15 : decode cX1_setTimes 15 = .ok (.aload_n 0, 1) := by decide +kernel
theorem dX1_setTimes_16 : decode cX1_setTimes 16 = .ok (.iload 4, 2) := by decide +kernel
theorem dX1_setTimes_18 : decode cX1_setTimes 18 = .ok (.putfield 52, 3) := by decide +kernel
theorem dX1_setTimes_21 : decode cX1_setTimes 21 = .ok (.aload_n 0, 1) := by decide +kernel
theorem dX1_setTimes_22 : decode cX1_setTimes 22 = .ok (.iconst 0, 1) := by decide +kernel
theorem dX1_setTimes_23 : decode cX1_setTimes 23 = .ok (.putfield 61, 3) := by decide +kernel
theorem dX1_setTimes_26 : decode cX1_setTimes 26 = .ok (.return_, 1) := by decide +kernel
theorem dX1_leastWaits_0 : decode cX1_leastWaits 0 = .ok (.aload_n 0, 1) := by decide +kernel
theorem dX1_leastWaits_1 : decode cX1_leastWaits 1 = .ok (.invokevirtual 65, 3) := by decide +kernel
theorem dX1_leastWaits_4 : decode cX1_leastWaits 4 = .ok (.aload_n 0, 1) := by decide +kernel
theorem dX1_leastWaits_5 : decode cX1_leastWaits 5 = .ok (.getfield 68, 3) := by decide +kernel
theorem dX1_leastWaits_8 : decode cX1_leastWaits 8 = .ok (.ldc 71, 2) := by decide +kernel
theorem dX1_leastWaits_10 : decode cX1_leastWaits 10 = .ok (.if_icmp .ge 10, 3) := by decide +kernel
theorem dX1_leastWaits_13 : decode cX1_leastWaits 13 = .ok (.aload_n 0, 1) := by decide +kernel
theorem dX1_leastWaits_14 : decode cX1_leastWaits 14 = .ok (.getfield 68, 3) := by decide +kernel
theorem dX1_leastWaits_17 : decode cX1_leastWaits 17 = .ok (.goto 4, 3) := by decide +kernel
theorem dX1_leastWaits_20 : decode cX1_leastWaits 20 = .ok (.iconst (-1), 1) := by decide +kernel
theorem dX1_leastWaits_21 : decode cX1_leastWaits 21 = .ok (.ireturn, 1) := by decide +kernel
theorem dX1_openingOfBest_0 : decode cX1_openingOfBest 0 = .ok (.aload_n 0, 1) := by decide +kernel
theorem dX1_openingOfBest_1 : decode cX1_openingOfBest 1 = .ok (.invokevirtual 65, 3) := by decide +kernel
theorem dX1_openingOfBest_4 : decode cX1_openingOfBest 4 = .ok (.iload_n 1, 1) := by decide +kernel
theorem dX1_openingOfBest_5 : decode cX1_openingOfBest 5 = .ok (.iconst 0, 1) := by decide +kernel
theorem dX1_openingOfBest_6 : decode cX1_openingOfBest 6 = .ok (.aload_n 0, 1) := by decide +kernel
theorem dX1_openingOfBest_7 : decode cX1_openingOfBest 7 = .ok (.getfield 72, 3) := by decide +kernel
theorem dX1_openingOfBest_10 : decode cX1_openingOfBest 10 = .ok (.iconst 1, 1) := by decide +kernel
theorem dX1_openingOfBest_11 : decode cX1_openingOfBest 11 = .ok (.isub, 1) := by decide +kernel
theorem dX1_openingOfBest_12 : decode cX1_openingOfBest 12 = .ok (.invokestatic 75, 3) := by decide +kernel
theorem dX1_openingOfBest_15 : decode cX1_openingOfBest 15 = .ok (.ifCond .ne 5, 3) := by decide +kernel
theorem dX1_openingOfBest_18 : decode cX1_openingOfBest 18 = .ok (.iconst (-1), 1) := by decide +kernel
theorem dX1_openingOfBest_19 : decode cX1_openingOfBest 19 = .ok (.ireturn, 1) := by decide +kernel
theorem dX1_openingOfBest_20 : decode cX1_openingOfBest 20 = .ok (.iload_n 2, 1) := by decide +kernel
theorem dX1_openingOfBest_21 : decode cX1_openingOfBest 21 = .ok (.tableswitch 48 0 2 #[27, 34, 41], 27) := by decide +kernel
theorem dX1_openingOfBest_48 : decode cX1_openingOfBest 48 = .ok (.aload_n 0, 1) := by decide +kernel
theorem dX1_openingOfBest_49 : decode cX1_openingOfBest 49 = .ok (.getfield 33, 3) := by decide +kernel
theorem dX1_openingOfBest_52 : decode cX1_openingOfBest 52 = .ok (.iload_n 1, 1) := by decide +kernel
theorem dX1_openingOfBest_53 : decode cX1_openingOfBest 53 = .ok (.iaload, 1) := by decide +kernel
theorem dX1_openingOfBest_54 : decode cX1_openingOfBest 54 = .ok (.ireturn, 1) := by decide +kernel
theorem dX1_openingOfBest_55 : decode cX1_openingOfBest 55 = .ok (.aload_n 0, 1) := by decide +kernel
theorem dX1_openingOfBest_56 : decode cX1_openingOfBest 56 = .ok (.getfield 36, 3) := by decide +kernel
theorem dX1_openingOfBest_59 : decode cX1_openingOfBest 59 = .ok (.iload_n 1, 1) := by decide +kernel
theorem dX1_openingOfBest_60 : decode cX1_openingOfBest 60 = .ok (.iaload, 1) := by decide +kernel
theorem dX1_openingOfBest_61 : decode cX1_openingOfBest 61 = .ok (.ireturn, 1) := by decide +kernel
theorem dX1_openingOfBest_62 : decode cX1_openingOfBest 62 = .ok (.aload_n 0, 1) := by decide +kernel
theorem dX1_openingOfBest_63 : decode cX1_openingOfBest 63 = .ok (.getfield 39, 3) := by decide +kernel
theorem dX1_openingOfBest_66 : decode cX1_openingOfBest 66 = .ok (.iload_n 1, 1) := by decide +kernel
theorem dX1_openingOfBest_67 : decode cX1_openingOfBest 67 = .ok (.iaload, 1) := by decide +kernel
theorem dX1_openingOfBest_68 : decode cX1_openingOfBest 68 = .ok (.ireturn, 1) := by decide +kernel
theorem dX1_openingOfBest_69 : decode cX1_openingOfBest 69 = .ok (.iconst (-1), 1) := by decide +kernel
theorem dX1_openingOfBest_70 : decode cX1_openingOfBest 70 = .ok (.ireturn, 1) := by decide +kernel
theorem dX1_earliestWaits_0 : decode cX1_earliestWaits 0 = .ok (.iconst 0, 1) := by decide +kernel
theorem dX1_earliestWaits_1 : decode cX1_earliestWaits 1 = .ok (.istore_n 1, 1) := by decide +kernel
theorem dX1_earliestWaits_2 : decode cX1_earliestWaits 2 = .ok (.iconst 0, 1) := by decide +kernel
theorem dX1_earliestWaits_3 : decode cX1_earliestWaits 3 = .ok (.istore_n 2, 1) := by decide +kernel
theorem dX1_earliestWaits_4 : decode cX1_earliestWaits 4 = .ok (.iconst 0, 1) := by decide +kernel
theorem dX1_earliestWaits_5 : decode cX1_earliestWaits 5 = .ok (.istore_n 3, 1) := by decide +kernel
theorem dX1_earliestWaits_6 : decode cX1_earliestWaits 6 = .ok (.iconst 0, 1) := by decide +kernel
theorem dX1_earliestWaits_7 : decode cX1_earliestWaits 7 = .ok (.istore 4, 2) := by decide +kernel
theorem dX1_earliestWaits_9 : decode cX1_earliestWaits 9 = .ok (.iload 4, 2) := by decide +kernel
theorem dX1_earliestWaits_11 : decode cX1_earliestWaits 11 = .ok (.bipush 10, 2) := by decide +kernel
theorem dX1_earliestWaits_13 : decode cX1_earliestWaits 13 = .ok (.if_icmp .ge 65, 3) := by decide +kernel
theorem dX1_earliestWaits_16 : decode cX1_earliestWaits 16 = .ok (.iload_n 1, 1) := by decide +kernel
theorem dX1_earliestWaits_17 : decode cX1_earliestWaits 17 = .ok (.aload_n 0, 1) := by decide +kernel
theorem dX1_earliestWaits_18 : decode cX1_earliestWaits 18 = .ok (.getfield 55, 3) := by decide +kernel
theorem dX1_earliestWaits_21 : decode cX1_earliestWaits 21 = .ok (.if_icmp .ge 57, 3) := by decide +kernel
theorem dX1_earliestWaits_24 : decode cX1_earliestWaits 24 = .ok (.iload_n 2, 1) := by decide +kernel
theorem dX1_earliestWaits_25 : decode cX1_earliestWaits 25 = .ok (.aload_n 0, 1) := by decide +kernel
theorem dX1_earliestWaits_26 : decode cX1_earliestWaits 26 = .ok (.getfield 9, 3) := by decide +kernel
theorem dX1_earliestWaits_29 : decode cX1_earliestWaits 29 = .ok (.iload_n 1, 1) := by decide +kernel
theorem dX1_earliestWaits_30 : decode cX1_earliestWaits 30 = .ok (.iaload, 1) := by decide +kernel
theorem dX1_earliestWaits_31 : decode cX1_earliestWaits 31 = .ok (.invokestatic 79, 3) := by decide +kernel
theorem dX1_earliestWaits_34 : decode cX1_earliestWaits 34 = .ok (.istore 5, 2) := by decide +kernel
theorem dX1_earliestWaits_36 : decode cX1_earliestWaits 36 = .ok (.iload 5, 2) := by decide +kernel
theorem dX1_earliestWaits_38 : decode cX1_earliestWaits 38 = .ok (.sipush 300, 3) := by decide +kernel
theorem dX1_earliestWaits_41 : decode cX1_earliestWaits 41 = .ok (.if_icmp .lt 5, 3) := by decide +kernel
theorem dX1_earliestWaits_44 : decode cX1_earliestWaits 44 = .ok (.iconst (-1), 1) := by decide +kernel
theorem dX1_earliestWaits_45 : decode cX1_earliestWaits 45 = .ok (.ireturn, 1) := by decide +kernel
theorem dX1_earliestWaits_46 : decode cX1_earliestWaits 46 = .ok (.iload_n 3, 1) := by decide +kernel
theorem dX1_earliestWaits_47 : decode cX1_earliestWaits 47 = .ok (.aload_n 0, 1) := by decide +kernel
theorem dX1_earliestWaits_48 : decode cX1_earliestWaits 48 = .ok (.iload_n 1, 1) := by decide +kernel
theorem dX1_earliestWaits_49 : decode cX1_earliestWaits 49 = .ok (.iload 5, 2) := by decide +kernel
theorem dX1_earliestWaits_51 : decode cX1_earliestWaits 51 = .ok (.invokevirtual 85, 3) := by decide +kernel
theorem dX1_earliestWaits_54 : decode cX1_earliestWaits 54 = .ok (.iadd, 1) := by decide +kernel
theorem dX1_earliestWaits_55 : decode cX1_earliestWaits 55 = .ok (.istore_n 3, 1) := by decide +kernel
theorem dX1_earliestWaits_56 : decode cX1_earliestWaits 56 = .ok (.aload_n 0, 1) := by decide +kernel
theorem dX1_earliestWaits_57 : decode cX1_earliestWaits 57 = .ok (.iload_n 1, 1) := by decide +kernel
theorem dX1_earliestWaits_58 : decode cX1_earliestWaits 58 = .ok (.iload 5, 2) := by decide +kernel
theorem dX1_earliestWaits_60 : decode cX1_earliestWaits 60 = .ok (.invokevirtual 88, 3) := by decide +kernel
theorem dX1_earliestWaits_63 : decode cX1_earliestWaits 63 = .ok (.istore_n 2, 1) := by decide +kernel
theorem dX1_earliestWaits_64 : decode cX1_earliestWaits 64 = .ok (.aload_n 0, 1) := by decide +kernel
theorem dX1_earliestWaits_65 : decode cX1_earliestWaits 65 = .ok (.getfield 18, 3) := by decide +kernel
theorem dX1_earliestWaits_68 : decode cX1_earliestWaits 68 = .ok (.iload 5, 2) := by decide +kernel
theorem dX1_earliestWaits_70 : decode cX1_earliestWaits 70 = .ok (.iaload, 1) := by decide +kernel
theorem dX1_earliestWaits_71 : decode cX1_earliestWaits 71 = .ok (.istore_n 1, 1) := by decide +kernel
theorem dX1_earliestWaits_72 : decode cX1_earliestWaits 72 = .ok (.iinc 4 1, 3) := by decide +kernel
theorem dX1_earliestWaits_75 : decode cX1_earliestWaits 75 = .ok (.goto (-66), 3) := by decide +kernel
theorem dX1_earliestWaits_78 : decode cX1_earliestWaits 78 = .ok (.iload_n 3, 1) := by decide +kernel
theorem dX1_earliestWaits_79 : decode cX1_earliestWaits 79 = .ok (.ireturn, 1) := by decide +kernel
theorem dX1_plan_0 : decode cX1_plan 0 = .ok (.aload_n 0, 1) := by decide +kernel
theorem dX1_plan_1 : decode cX1_plan 1 = .ok (.getfield 61, 3) := by decide +kernel
theorem dX1_plan_4 : decode cX1_plan 4 = .ok (.ifCond .eq 4, 3) := by decide +kernel
theorem dX1_plan_7 : decode cX1_plan 7 = .ok (.return_, 1) := by decide +kernel
theorem dX1_plan_8 : decode cX1_plan 8 = .ok (.aload_n 0, 1) := by decide +kernel
theorem dX1_plan_9 : decode cX1_plan 9 = .ok (.iconst 1, 1) := by decide +kernel
theorem dX1_plan_10 : decode cX1_plan 10 = .ok (.putfield 61, 3) := by decide +kernel
theorem dX1_plan_13 : decode cX1_plan 13 = .ok (.aload_n 0, 1) := by decide +kernel
theorem dX1_plan_14 : decode cX1_plan 14 = .ok (.getfield 55, 3) := by decide +kernel
theorem dX1_plan_17 : decode cX1_plan 17 = .ok (.iconst 1, 1) := by decide +kernel
theorem dX1_plan_18 : decode cX1_plan 18 = .ok (.isub, 1) := by decide +kernel
theorem dX1_plan_19 : decode cX1_plan 19 = .ok (.istore_n 1, 1) := by decide +kernel
theorem dX1_plan_20 : decode cX1_plan 20 = .ok (.iload_n 1, 1) := by decide +kernel
theorem dX1_plan_21 : decode cX1_plan 21 = .ok (.ifCond .lt 110, 3) := by decide +kernel
theorem dX1_plan_24 : decode cX1_plan 24 = .ok (.ldc 71, 2) := by decide +kernel
theorem dX1_plan_26 : decode cX1_plan 26 = .ok (.istore_n 2, 1) := by decide +kernel
theorem dX1_plan_27 : decode cX1_plan 27 = .ok (.iconst (-1), 1) := by decide +kernel
theorem dX1_plan_28 : decode cX1_plan 28 = .ok (.istore_n 3, 1) := by decide +kernel
theorem dX1_plan_29 : decode cX1_plan 29 = .ok (.sipush 300, 3) := by decide +kernel
theorem dX1_plan_32 : decode cX1_plan 32 = .ok (.istore 4, 2) := by decide +kernel
theorem dX1_plan_34 : decode cX1_plan 34 = .ok (.iload 4, 2) := by decide +kernel
theorem dX1_plan_36 : decode cX1_plan 36 = .ok (.ifCond .lt 89, 3) := by decide +kernel
theorem dX1_plan_39 : decode cX1_plan 39 = .ok (.iload 4, 2) := by decide +kernel
theorem dX1_plan_41 : decode cX1_plan 41 = .ok (.sipush 300, 3) := by decide +kernel
theorem dX1_plan_44 : decode cX1_plan 44 = .ok (.if_icmp .ge 24, 3) := by decide +kernel
theorem dX1_plan_47 : decode cX1_plan 47 = .ok (.iload 4, 2) := by decide +kernel
theorem dX1_plan_49 : decode cX1_plan 49 = .ok (.aload_n 0, 1) := by decide +kernel
theorem dX1_plan_50 : decode cX1_plan 50 = .ok (.getfield 9, 3) := by decide +kernel
theorem dX1_plan_53 : decode cX1_plan 53 = .ok (.iload_n 1, 1) := by decide +kernel
theorem dX1_plan_54 : decode cX1_plan 54 = .ok (.iaload, 1) := by decide +kernel
theorem dX1_plan_55 : decode cX1_plan 55 = .ok (.if_icmp .lt 13, 3) := by decide +kernel
theorem dX1_plan_58 : decode cX1_plan 58 = .ok (.aload_n 0, 1) := by decide +kernel
theorem dX1_plan_59 : decode cX1_plan 59 = .ok (.iload_n 1, 1) := by decide +kernel
theorem dX1_plan_60 : decode cX1_plan 60 = .ok (.iload 4, 2) := by decide +kernel
theorem dX1_plan_62 : decode cX1_plan 62 = .ok (.invokevirtual 91, 3) := by decide +kernel
theorem dX1_plan_65 : decode cX1_plan 65 = .ok (.goto 5, 3) := by decide +kernel
theorem dX1_plan_68 : decode cX1_plan 68 = .ok (.ldc 71, 2) := by decide +kernel
theorem dX1_plan_70 : decode cX1_plan 70 = .ok (.istore 5, 2) := by decide +kernel
theorem dX1_plan_72 : decode cX1_plan 72 = .ok (.iload 5, 2) := by decide +kernel
theorem dX1_plan_74 : decode cX1_plan 74 = .ok (.ldc 71, 2) := by decide +kernel
theorem dX1_plan_76 : decode cX1_plan 76 = .ok (.if_icmp .ge 15, 3) := by decide +kernel
theorem dX1_plan_79 : decode cX1_plan 79 = .ok (.iload 5, 2) := by decide +kernel
theorem dX1_plan_81 : decode cX1_plan 81 = .ok (.iload_n 2, 1) := by decide +kernel
theorem dX1_plan_82 : decode cX1_plan 82 = .ok (.if_icmp .gt 9, 3) := by decide +kernel
theorem dX1_plan_85 : decode cX1_plan 85 = .ok (.iload 5, 2) := by decide +kernel
theorem dX1_plan_87 : decode cX1_plan 87 = .ok (.istore_n 2, 1) := by decide +kernel
theorem dX1_plan_88 : decode cX1_plan 88 = .ok (.iload 4, 2) := by decide +kernel
theorem dX1_plan_90 : decode cX1_plan 90 = .ok (.istore_n 3, 1) := by decide +kernel
theorem dX1_plan_91 : decode cX1_plan 91 = .ok (.aload_n 0, 1) := by decide +kernel
theorem dX1_plan_92 : decode cX1_plan 92 = .ok (.getfield 27, 3) := by decide +kernel
theorem dX1_plan_95 : decode cX1_plan 95 = .ok (.iload_n 1, 1) := by decide +kernel
theorem dX1_plan_96 : decode cX1_plan 96 = .ok (.sipush 301, 3) := by decide +kernel
theorem dX1_plan_99 : decode cX1_plan 99 = .ok (.imul, 1) := by decide +kernel
theorem dX1_plan_100 : decode cX1_plan 100 = .ok (.iload 4, 2) := by decide +kernel
theorem dX1_plan_102 : decode cX1_plan 102 = .ok (.iadd, 1) := by decide +kernel
theorem dX1_plan_103 : decode cX1_plan 103 = .ok (.iload_n 2, 1) := by decide +kernel
theorem dX1_plan_104 : decode cX1_plan 104 = .ok (.iastore, 1) := by decide +kernel
theorem dX1_plan_105 : decode cX1_plan 105 = .ok (.aload_n 0, 1) := by decide +kernel
theorem dX1_plan_106 : decode cX1_plan 106 = .ok (.getfield 30, 3) := by decide +kernel
theorem dX1_plan_109 : decode cX1_plan 109 = .ok (.iload_n 1, 1) := by decide +kernel
theorem dX1_plan_110 : decode cX1_plan 110 = .ok (.sipush 301, 3) := by decide +kernel
theorem dX1_plan_113 : decode cX1_plan 113 = .ok (.imul, 1) := by decide +kernel
theorem dX1_plan_114 : decode cX1_plan 114 = .ok (.iload 4, 2) := by decide +kernel
theorem dX1_plan_116 : decode cX1_plan 116 = .ok (.iadd, 1) := by decide +kernel
theorem dX1_plan_117 : decode cX1_plan 117 = .ok (.iload_n 3, 1) := by decide +kernel
theorem dX1_plan_118 : decode cX1_plan 118 = .ok (.iastore, 1) := by decide +kernel
theorem dX1_plan_119 : decode cX1_plan 119 = .ok (.iinc 4 (-1), 3) := by decide +kernel
theorem dX1_plan_122 : decode cX1_plan 122 = .ok (.goto (-88), 3) := by decide +kernel
theorem dX1_plan_125 : decode cX1_plan 125 = .ok (.iinc 1 (-1), 3) := by decide +kernel
theorem dX1_plan_128 : decode cX1_plan 128 = .ok (.goto (-108), 3) := by decide +kernel
theorem dX1_plan_131 : decode cX1_plan 131 = .ok (.aload_n 0, 1) := by decide +kernel
theorem dX1_plan_132 : decode cX1_plan 132 = .ok (.aload_n 0, 1) := by decide +kernel
theorem dX1_plan_133 : decode cX1_plan 133 = .ok (.getfield 55, 3) := by decide +kernel
theorem dX1_plan_136 : decode cX1_plan 136 = .ok (.ifCond .le 12, 3) := by decide +kernel
theorem dX1_plan_139 : decode cX1_plan 139 = .ok (.aload_n 0, 1) := by decide +kernel
theorem dX1_plan_140 : decode cX1_plan 140 = .ok (.getfield 27, 3) := by decide +kernel
theorem dX1_plan_143 : decode cX1_plan 143 = .ok (.iconst 0, 1) := by decide +kernel
theorem dX1_plan_144 : decode cX1_plan 144 = .ok (.iaload, 1) := by decide +kernel
theorem dX1_plan_145 : decode cX1_plan 145 = .ok (.goto 4, 3) := by decide +kernel
theorem dX1_plan_148 : decode cX1_plan 148 = .ok (.iconst 0, 1) := by decide +kernel
theorem dX1_plan_149 : decode cX1_plan 149 = .ok (.putfield 68, 3) := by decide +kernel
theorem dX1_plan_152 : decode cX1_plan 152 = .ok (.aload_n 0, 1) := by decide +kernel
theorem dX1_plan_153 : decode cX1_plan 153 = .ok (.invokevirtual 94, 3) := by decide +kernel
theorem dX1_plan_156 : decode cX1_plan 156 = .ok (.return_, 1) := by decide +kernel
theorem dX1_walkBest_0 : decode cX1_walkBest 0 = .ok (.aload_n 0, 1) := by decide +kernel
theorem dX1_walkBest_1 : decode cX1_walkBest 1 = .ok (.iconst 0, 1) := by decide +kernel
theorem dX1_walkBest_2 : decode cX1_walkBest 2 = .ok (.putfield 72, 3) := by decide +kernel
theorem dX1_walkBest_5 : decode cX1_walkBest 5 = .ok (.iconst 0, 1) := by decide +kernel
theorem dX1_walkBest_6 : decode cX1_walkBest 6 = .ok (.istore_n 1, 1) := by decide +kernel
theorem dX1_walkBest_7 : decode cX1_walkBest 7 = .ok (.iconst 0, 1) := by decide +kernel
theorem dX1_walkBest_8 : decode cX1_walkBest 8 = .ok (.istore_n 2, 1) := by decide +kernel
theorem dX1_walkBest_9 : decode cX1_walkBest 9 = .ok (.iconst 0, 1) := by decide +kernel
theorem dX1_walkBest_10 : decode cX1_walkBest 10 = .ok (.istore_n 3, 1) := by decide +kernel
theorem dX1_walkBest_11 : decode cX1_walkBest 11 = .ok (.iload_n 3, 1) := by decide +kernel
theorem dX1_walkBest_12 : decode cX1_walkBest 12 = .ok (.bipush 10, 2) := by decide +kernel
theorem dX1_walkBest_14 : decode cX1_walkBest 14 = .ok (.if_icmp .ge 102, 3) := by decide +kernel
theorem dX1_walkBest_17 : decode cX1_walkBest 17 = .ok (.iload_n 1, 1) := by decide +kernel
theorem dX1_walkBest_18 : decode cX1_walkBest 18 = .ok (.aload_n 0, 1) := by decide +kernel
theorem dX1_walkBest_19 : decode cX1_walkBest 19 = .ok (.getfield 55, 3) := by decide +kernel
theorem dX1_walkBest_22 : decode cX1_walkBest 22 = .ok (.if_icmp .ge 94, 3) := by decide +kernel
theorem dX1_walkBest_25 : decode cX1_walkBest 25 = .ok (.aload_n 0, 1) := by decide +kernel
theorem dX1_walkBest_26 : decode cX1_walkBest 26 = .ok (.getfield 30, 3) := by decide +kernel
theorem dX1_walkBest_29 : decode cX1_walkBest 29 = .ok (.iload_n 1, 1) := by decide +kernel
theorem dX1_walkBest_30 : decode cX1_walkBest 30 = .ok (.sipush 301, 3) := by decide +kernel
theorem dX1_walkBest_33 : decode cX1_walkBest 33 = .ok (.imul, 1) := by decide +kernel
theorem dX1_walkBest_34 : decode cX1_walkBest 34 = .ok (.iload_n 2, 1) := by decide +kernel
theorem dX1_walkBest_35 : decode cX1_walkBest 35 = .ok (.sipush 300, 3) := by decide +kernel
theorem dX1_walkBest_38 : decode cX1_walkBest 38 = .ok (.invokestatic 97, 3) := by decide +kernel
theorem dX1_walkBest_41 : decode cX1_walkBest 41 = .ok (.iadd, 1) := by decide +kernel
theorem dX1_walkBest_42 : decode cX1_walkBest 42 = .ok (.iaload, 1) := by decide +kernel
theorem dX1_walkBest_43 : decode cX1_walkBest 43 = .ok (.istore 4, 2) := by decide +kernel
theorem dX1_walkBest_45 : decode cX1_walkBest 45 = .ok (.iload 4, 2) := by decide +kernel
theorem dX1_walkBest_47 : decode cX1_walkBest 47 = .ok (.iconst (-1), 1) := by decide +kernel
theorem dX1_walkBest_48 : decode cX1_walkBest 48 = .ok (.if_icmp .ne 4, 3) := by decide +kernel
theorem dX1_walkBest_51 : decode cX1_walkBest 51 = .ok (.return_, 1) := by decide +kernel
theorem dX1_walkBest_52 : decode cX1_walkBest 52 = .ok (.aload_n 0, 1) := by decide +kernel
theorem dX1_walkBest_53 : decode cX1_walkBest 53 = .ok (.getfield 33, 3) := by decide +kernel
theorem dX1_walkBest_56 : decode cX1_walkBest 56 = .ok (.iload_n 3, 1) := by decide +kernel
theorem dX1_walkBest_57 : decode cX1_walkBest 57 = .ok (.iload 4, 2) := by decide +kernel
theorem dX1_walkBest_59 : decode cX1_walkBest 59 = .ok (.iastore, 1) := by decide +kernel
theorem dX1_walkBest_60 : decode cX1_walkBest 60 = .ok (.aload_n 0, 1) := by decide +kernel
theorem dX1_walkBest_61 : decode cX1_walkBest 61 = .ok (.getfield 36, 3) := by decide +kernel
theorem dX1_walkBest_64 : decode cX1_walkBest 64 = .ok (.iload_n 3, 1) := by decide +kernel
theorem dX1_walkBest_65 : decode cX1_walkBest 65 = .ok (.aload_n 0, 1) := by decide +kernel
theorem dX1_walkBest_66 : decode cX1_walkBest 66 = .ok (.getfield 18, 3) := by decide +kernel
theorem dX1_walkBest_69 : decode cX1_walkBest 69 = .ok (.iload 4, 2) := by decide +kernel
theorem dX1_walkBest_71 : decode cX1_walkBest 71 = .ok (.iaload, 1) := by decide +kernel
theorem dX1_walkBest_72 : decode cX1_walkBest 72 = .ok (.iload_n 1, 1) := by decide +kernel
theorem dX1_walkBest_73 : decode cX1_walkBest 73 = .ok (.isub, 1) := by decide +kernel
theorem dX1_walkBest_74 : decode cX1_walkBest 74 = .ok (.iastore, 1) := by decide +kernel
theorem dX1_walkBest_75 : decode cX1_walkBest 75 = .ok (.aload_n 0, 1) := by decide +kernel
theorem dX1_walkBest_76 : decode cX1_walkBest 76 = .ok (.getfield 39, 3) := by decide +kernel
theorem dX1_walkBest_79 : decode cX1_walkBest 79 = .ok (.iload_n 3, 1) := by decide +kernel
theorem dX1_walkBest_80 : decode cX1_walkBest 80 = .ok (.aload_n 0, 1) := by decide +kernel
theorem dX1_walkBest_81 : decode cX1_walkBest 81 = .ok (.iload_n 1, 1) := by decide +kernel
theorem dX1_walkBest_82 : decode cX1_walkBest 82 = .ok (.iload 4, 2) := by decide +kernel
theorem dX1_walkBest_84 : decode cX1_walkBest 84 = .ok (.invokevirtual 88, 3) := by decide +kernel
theorem dX1_walkBest_87 : decode cX1_walkBest 87 = .ok (.iastore, 1) := by decide +kernel
theorem dX1_walkBest_88 : decode cX1_walkBest 88 = .ok (.aload_n 0, 1) := by decide +kernel
theorem dX1_walkBest_89 : decode cX1_walkBest 89 = .ok (.iload_n 3, 1) := by decide +kernel
theorem dX1_walkBest_90 : decode cX1_walkBest 90 = .ok (.iconst 1, 1) := by decide +kernel
theorem dX1_walkBest_91 : decode cX1_walkBest 91 = .ok (.iadd, 1) := by decide +kernel
theorem dX1_walkBest_92 : decode cX1_walkBest 92 = .ok (.putfield 72, 3) := by decide +kernel
theorem dX1_walkBest_95 : decode cX1_walkBest 95 = .ok (.aload_n 0, 1) := by decide +kernel
theorem dX1_walkBest_96 : decode cX1_walkBest 96 = .ok (.getfield 39, 3) := by decide +kernel
theorem dX1_walkBest_99 : decode cX1_walkBest 99 = .ok (.iload_n 3, 1) := by decide +kernel
theorem dX1_walkBest_100 : decode cX1_walkBest 100 = .ok (.iaload, 1) := by decide +kernel
theorem dX1_walkBest_101 : decode cX1_walkBest 101 = .ok (.istore_n 2, 1) := by decide +kernel
theorem dX1_walkBest_102 : decode cX1_walkBest 102 = .ok (.aload_n 0, 1) := by decide +kernel
theorem dX1_walkBest_103 : decode cX1_walkBest 103 = .ok (.getfield 18, 3) := by decide +kernel
theorem dX1_walkBest_106 : decode cX1_walkBest 106 = .ok (.iload 4, 2) := by decide +kernel
theorem dX1_walkBest_108 : decode cX1_walkBest 108 = .ok (.iaload, 1) := by decide +kernel
theorem dX1_walkBest_109 : decode cX1_walkBest 109 = .ok (.istore_n 1, 1) := by decide +kernel
theorem dX1_walkBest_110 : decode cX1_walkBest 110 = .ok (.iinc 3 1, 3) := by decide +kernel
theorem dX1_walkBest_113 : decode cX1_walkBest 113 = .ok (.goto (-102), 3) := by decide +kernel
theorem dX1_walkBest_116 : decode cX1_walkBest 116 = .ok (.return_, 1) := by decide +kernel
theorem dX1_waitsFrom_0 : decode cX1_waitsFrom 0 = .ok (.aload_n 0, 1) := by decide +kernel
theorem dX1_waitsFrom_1 : decode cX1_waitsFrom 1 = .ok (.iload_n 1, 1) := by decide +kernel
theorem dX1_waitsFrom_2 : decode cX1_waitsFrom 2 = .ok (.iload_n 2, 1) := by decide +kernel
theorem dX1_waitsFrom_3 : decode cX1_waitsFrom 3 = .ok (.invokevirtual 85, 3) := by decide +kernel
theorem dX1_waitsFrom_6 : decode cX1_waitsFrom 6 = .ok (.istore_n 3, 1) := by decide +kernel
theorem dX1_waitsFrom_7 : decode cX1_waitsFrom 7 = .ok (.aload_n 0, 1) := by decide +kernel
theorem dX1_waitsFrom_8 : decode cX1_waitsFrom 8 = .ok (.getfield 18, 3) := by decide +kernel
theorem dX1_waitsFrom_11 : decode cX1_waitsFrom 11 = .ok (.iload_n 2, 1) := by decide +kernel
theorem dX1_waitsFrom_12 : decode cX1_waitsFrom 12 = .ok (.iaload, 1) := by decide +kernel
theorem dX1_waitsFrom_13 : decode cX1_waitsFrom 13 = .ok (.istore 4, 2) := by decide +kernel
theorem dX1_waitsFrom_15 : decode cX1_waitsFrom 15 = .ok (.iload 4, 2) := by decide +kernel
theorem dX1_waitsFrom_17 : decode cX1_waitsFrom 17 = .ok (.aload_n 0, 1) := by decide +kernel
theorem dX1_waitsFrom_18 : decode cX1_waitsFrom 18 = .ok (.getfield 55, 3) := by decide +kernel
theorem dX1_waitsFrom_21 : decode cX1_waitsFrom 21 = .ok (.if_icmp .lt 5, 3) := by decide +kernel
theorem dX1_waitsFrom_24 : decode cX1_waitsFrom 24 = .ok (.iload_n 3, 1) := by decide +kernel
theorem dX1_waitsFrom_25 : decode cX1_waitsFrom 25 = .ok (.ireturn, 1) := by decide +kernel
theorem dX1_waitsFrom_26 : decode cX1_waitsFrom 26 = .ok (.aload_n 0, 1) := by decide +kernel
theorem dX1_waitsFrom_27 : decode cX1_waitsFrom 27 = .ok (.getfield 27, 3) := by decide +kernel
theorem dX1_waitsFrom_30 : decode cX1_waitsFrom 30 = .ok (.iload 4, 2) := by decide +kernel
theorem dX1_waitsFrom_32 : decode cX1_waitsFrom 32 = .ok (.sipush 301, 3) := by decide +kernel
theorem dX1_waitsFrom_35 : decode cX1_waitsFrom 35 = .ok (.imul, 1) := by decide +kernel
theorem dX1_waitsFrom_36 : decode cX1_waitsFrom 36 = .ok (.aload_n 0, 1) := by decide +kernel
theorem dX1_waitsFrom_37 : decode cX1_waitsFrom 37 = .ok (.iload_n 1, 1) := by decide +kernel
theorem dX1_waitsFrom_38 : decode cX1_waitsFrom 38 = .ok (.iload_n 2, 1) := by decide +kernel
theorem dX1_waitsFrom_39 : decode cX1_waitsFrom 39 = .ok (.invokevirtual 88, 3) := by decide +kernel
theorem dX1_waitsFrom_42 : decode cX1_waitsFrom 42 = .ok (.sipush 300, 3) := by decide +kernel
theorem dX1_waitsFrom_45 : decode cX1_waitsFrom 45 = .ok (.invokestatic 97, 3) := by decide +kernel
theorem dX1_waitsFrom_48 : decode cX1_waitsFrom 48 = .ok (.iadd, 1) := by decide +kernel
theorem dX1_waitsFrom_49 : decode cX1_waitsFrom 49 = .ok (.iaload, 1) := by decide +kernel
theorem dX1_waitsFrom_50 : decode cX1_waitsFrom 50 = .ok (.istore 5, 2) := by decide +kernel
theorem dX1_waitsFrom_52 : decode cX1_waitsFrom 52 = .ok (.iload 5, 2) := by decide +kernel
theorem dX1_waitsFrom_54 : decode cX1_waitsFrom 54 = .ok (.ldc 71, 2) := by decide +kernel
theorem dX1_waitsFrom_56 : decode cX1_waitsFrom 56 = .ok (.if_icmp .lt 8, 3) := by decide +kernel
theorem dX1_waitsFrom_59 : decode cX1_waitsFrom 59 = .ok (.ldc 71, 2) := by decide +kernel
theorem dX1_waitsFrom_61 : decode cX1_waitsFrom 61 = .ok (.goto 7, 3) := by decide +kernel
theorem dX1_waitsFrom_64 : decode cX1_waitsFrom 64 = .ok (.iload_n 3, 1) := by decide +kernel
theorem dX1_waitsFrom_65 : decode cX1_waitsFrom 65 = .ok (.iload 5, 2) := by decide +kernel
theorem dX1_waitsFrom_67 : decode cX1_waitsFrom 67 = .ok (.iadd, 1) := by decide +kernel
theorem dX1_waitsFrom_68 : decode cX1_waitsFrom 68 = .ok (.ireturn, 1) := by decide +kernel
theorem dX1_endOfOpening_0 : decode cX1_endOfOpening 0 = .ok (.iload_n 2, 1) := by decide +kernel
theorem dX1_endOfOpening_1 : decode cX1_endOfOpening 1 = .ok (.aload_n 0, 1) := by decide +kernel
theorem dX1_endOfOpening_2 : decode cX1_endOfOpening 2 = .ok (.getfield 42, 3) := by decide +kernel
theorem dX1_endOfOpening_5 : decode cX1_endOfOpening 5 = .ok (.iadd, 1) := by decide +kernel
theorem dX1_endOfOpening_6 : decode cX1_endOfOpening 6 = .ok (.aload_n 0, 1) := by decide +kernel
theorem dX1_endOfOpening_7 : decode cX1_endOfOpening 7 = .ok (.getfield 46, 3) := by decide +kernel
theorem dX1_endOfOpening_10 : decode cX1_endOfOpening 10 = .ok (.aload_n 0, 1) := by decide +kernel
theorem dX1_endOfOpening_11 : decode cX1_endOfOpening 11 = .ok (.getfield 18, 3) := by decide +kernel
theorem dX1_endOfOpening_14 : decode cX1_endOfOpening 14 = .ok (.iload_n 2, 1) := by decide +kernel
theorem dX1_endOfOpening_15 : decode cX1_endOfOpening 15 = .ok (.iaload, 1) := by decide +kernel
theorem dX1_endOfOpening_16 : decode cX1_endOfOpening 16 = .ok (.iload_n 1, 1) := by decide +kernel
theorem dX1_endOfOpening_17 : decode cX1_endOfOpening 17 = .ok (.isub, 1) := by decide +kernel
theorem dX1_endOfOpening_18 : decode cX1_endOfOpening 18 = .ok (.imul, 1) := by decide +kernel
theorem dX1_endOfOpening_19 : decode cX1_endOfOpening 19 = .ok (.iadd, 1) := by decide +kernel
theorem dX1_endOfOpening_20 : decode cX1_endOfOpening 20 = .ok (.aload_n 0, 1) := by decide +kernel
theorem dX1_endOfOpening_21 : decode cX1_endOfOpening 21 = .ok (.getfield 49, 3) := by decide +kernel
theorem dX1_endOfOpening_24 : decode cX1_endOfOpening 24 = .ok (.iadd, 1) := by decide +kernel
theorem dX1_endOfOpening_25 : decode cX1_endOfOpening 25 = .ok (.ireturn, 1) := by decide +kernel
theorem dX1_waitsOfOpening_0 : decode cX1_waitsOfOpening 0 = .ok (.aload_n 0, 1) := by decide +kernel
theorem dX1_waitsOfOpening_1 : decode cX1_waitsOfOpening 1 = .ok (.getfield 18, 3) := by decide +kernel
theorem dX1_waitsOfOpening_4 : decode cX1_waitsOfOpening 4 = .ok (.iload_n 2, 1) := by decide +kernel
theorem dX1_waitsOfOpening_5 : decode cX1_waitsOfOpening 5 = .ok (.iaload, 1) := by decide +kernel
theorem dX1_waitsOfOpening_6 : decode cX1_waitsOfOpening 6 = .ok (.istore_n 3, 1) := by decide +kernel
theorem dX1_waitsOfOpening_7 : decode cX1_waitsOfOpening 7 = .ok (.iload_n 3, 1) := by decide +kernel
theorem dX1_waitsOfOpening_8 : decode cX1_waitsOfOpening 8 = .ok (.iload_n 1, 1) := by decide +kernel
theorem dX1_waitsOfOpening_9 : decode cX1_waitsOfOpening 9 = .ok (.isub, 1) := by decide +kernel
theorem dX1_waitsOfOpening_10 : decode cX1_waitsOfOpening 10 = .ok (.istore 4, 2) := by decide +kernel
theorem dX1_waitsOfOpening_12 : decode cX1_waitsOfOpening 12 = .ok (.iload 4, 2) := by decide +kernel
theorem dX1_waitsOfOpening_14 : decode cX1_waitsOfOpening 14 = .ok (.iload_n 2, 1) := by decide +kernel
theorem dX1_waitsOfOpening_15 : decode cX1_waitsOfOpening 15 = .ok (.aload_n 0, 1) := by decide +kernel
theorem dX1_waitsOfOpening_16 : decode cX1_waitsOfOpening 16 = .ok (.getfield 42, 3) := by decide +kernel
theorem dX1_waitsOfOpening_19 : decode cX1_waitsOfOpening 19 = .ok (.iadd, 1) := by decide +kernel
theorem dX1_waitsOfOpening_20 : decode cX1_waitsOfOpening 20 = .ok (.imul, 1) := by decide +kernel
theorem dX1_waitsOfOpening_21 : decode cX1_waitsOfOpening 21 = .ok (.aload_n 0, 1) := by decide +kernel
theorem dX1_waitsOfOpening_22 : decode cX1_waitsOfOpening 22 = .ok (.getfield 46, 3) := by decide +kernel
theorem dX1_waitsOfOpening_25 : decode cX1_waitsOfOpening 25 = .ok (.iload 4, 2) := by decide +kernel
theorem dX1_waitsOfOpening_27 : decode cX1_waitsOfOpening 27 = .ok (.iload 4, 2) := by decide +kernel
theorem dX1_waitsOfOpening_29 : decode cX1_waitsOfOpening 29 = .ok (.iconst 1, 1) := by decide +kernel
theorem dX1_waitsOfOpening_30 : decode cX1_waitsOfOpening 30 = .ok (.iadd, 1) := by decide +kernel
theorem dX1_waitsOfOpening_31 : decode cX1_waitsOfOpening 31 = .ok (.imul, 1) := by decide +kernel
theorem dX1_waitsOfOpening_32 : decode cX1_waitsOfOpening 32 = .ok (.iconst 2, 1) := by decide +kernel
theorem dX1_waitsOfOpening_33 : decode cX1_waitsOfOpening 33 = .ok (.idiv, 1) := by decide +kernel
theorem dX1_waitsOfOpening_34 : decode cX1_waitsOfOpening 34 = .ok (.imul, 1) := by decide +kernel
theorem dX1_waitsOfOpening_35 : decode cX1_waitsOfOpening 35 = .ok (.iadd, 1) := by decide +kernel
theorem dX1_waitsOfOpening_36 : decode cX1_waitsOfOpening 36 = .ok (.istore 5, 2) := by decide +kernel
theorem dX1_waitsOfOpening_38 : decode cX1_waitsOfOpening 38 = .ok (.iload 5, 2) := by decide +kernel
theorem dX1_waitsOfOpening_40 : decode cX1_waitsOfOpening 40 = .ok (.aload_n 0, 1) := by decide +kernel
theorem dX1_waitsOfOpening_41 : decode cX1_waitsOfOpening 41 = .ok (.getfield 15, 3) := by decide +kernel
theorem dX1_waitsOfOpening_44 : decode cX1_waitsOfOpening 44 = .ok (.iload_n 3, 1) := by decide +kernel
theorem dX1_waitsOfOpening_45 : decode cX1_waitsOfOpening 45 = .ok (.iaload, 1) := by decide +kernel
theorem dX1_waitsOfOpening_46 : decode cX1_waitsOfOpening 46 = .ok (.aload_n 0, 1) := by decide +kernel
theorem dX1_waitsOfOpening_47 : decode cX1_waitsOfOpening 47 = .ok (.getfield 15, 3) := by decide +kernel
theorem dX1_waitsOfOpening_50 : decode cX1_waitsOfOpening 50 = .ok (.iload_n 1, 1) := by decide +kernel
theorem dX1_waitsOfOpening_51 : decode cX1_waitsOfOpening 51 = .ok (.iaload, 1) := by decide +kernel
theorem dX1_waitsOfOpening_52 : decode cX1_waitsOfOpening 52 = .ok (.isub, 1) := by decide +kernel
theorem dX1_waitsOfOpening_53 : decode cX1_waitsOfOpening 53 = .ok (.isub, 1) := by decide +kernel
theorem dX1_waitsOfOpening_54 : decode cX1_waitsOfOpening 54 = .ok (.istore 6, 2) := by decide +kernel
theorem dX1_waitsOfOpening_56 : decode cX1_waitsOfOpening 56 = .ok (.aload_n 0, 1) := by decide +kernel
theorem dX1_waitsOfOpening_57 : decode cX1_waitsOfOpening 57 = .ok (.getfield 52, 3) := by decide +kernel
theorem dX1_waitsOfOpening_60 : decode cX1_waitsOfOpening 60 = .ok (.iload 6, 2) := by decide +kernel
theorem dX1_waitsOfOpening_62 : decode cX1_waitsOfOpening 62 = .ok (.imul, 1) := by decide +kernel
theorem dX1_waitsOfOpening_63 : decode cX1_waitsOfOpening 63 = .ok (.aload_n 0, 1) := by decide +kernel
theorem dX1_waitsOfOpening_64 : decode cX1_waitsOfOpening 64 = .ok (.iload_n 2, 1) := by decide +kernel
theorem dX1_waitsOfOpening_65 : decode cX1_waitsOfOpening 65 = .ok (.aload_n 0, 1) := by decide +kernel
theorem dX1_waitsOfOpening_66 : decode cX1_waitsOfOpening 66 = .ok (.iload_n 1, 1) := by decide +kernel
theorem dX1_waitsOfOpening_67 : decode cX1_waitsOfOpening 67 = .ok (.iload_n 2, 1) := by decide +kernel
theorem dX1_waitsOfOpening_68 : decode cX1_waitsOfOpening 68 = .ok (.invokevirtual 88, 3) := by decide +kernel
theorem dX1_waitsOfOpening_71 : decode cX1_waitsOfOpening 71 = .ok (.invokevirtual 100, 3) := by decide +kernel
theorem dX1_waitsOfOpening_74 : decode cX1_waitsOfOpening 74 = .ok (.iadd, 1) := by decide +kernel
theorem dX1_waitsOfOpening_75 : decode cX1_waitsOfOpening 75 = .ok (.ireturn, 1) := by decide +kernel
theorem dX1_crosserWaits_0 : decode cX1_crosserWaits 0 = .ok (.iload_n 1, 1) := by decide +kernel
theorem dX1_crosserWaits_1 : decode cX1_crosserWaits 1 = .ok (.sipush 240, 3) := by decide +kernel
theorem dX1_crosserWaits_4 : decode cX1_crosserWaits 4 = .ok (.invokestatic 97, 3) := by decide +kernel
theorem dX1_crosserWaits_7 : decode cX1_crosserWaits 7 = .ok (.istore_n 3, 1) := by decide +kernel
theorem dX1_crosserWaits_8 : decode cX1_crosserWaits 8 = .ok (.iload_n 2, 1) := by decide +kernel
theorem dX1_crosserWaits_9 : decode cX1_crosserWaits 9 = .ok (.sipush 240, 3) := by decide +kernel
theorem dX1_crosserWaits_12 : decode cX1_crosserWaits 12 = .ok (.invokestatic 97, 3) := by decide +kernel
theorem dX1_crosserWaits_15 : decode cX1_crosserWaits 15 = .ok (.istore 4, 2) := by decide +kernel
theorem dX1_crosserWaits_17 : decode cX1_crosserWaits 17 = .ok (.aload_n 0, 1) := by decide +kernel
theorem dX1_crosserWaits_18 : decode cX1_crosserWaits 18 = .ok (.getfield 21, 3) := by decide +kernel
theorem dX1_crosserWaits_21 : decode cX1_crosserWaits 21 = .ok (.iload 4, 2) := by decide +kernel
theorem dX1_crosserWaits_23 : decode cX1_crosserWaits 23 = .ok (.iaload, 1) := by decide +kernel
theorem dX1_crosserWaits_24 : decode cX1_crosserWaits 24 = .ok (.aload_n 0, 1) := by decide +kernel
theorem dX1_crosserWaits_25 : decode cX1_crosserWaits 25 = .ok (.getfield 21, 3) := by decide +kernel
theorem dX1_crosserWaits_28 : decode cX1_crosserWaits 28 = .ok (.iload_n 3, 1) := by decide +kernel
theorem dX1_crosserWaits_29 : decode cX1_crosserWaits 29 = .ok (.iaload, 1) := by decide +kernel
theorem dX1_crosserWaits_30 : decode cX1_crosserWaits 30 = .ok (.isub, 1) := by decide +kernel
theorem dX1_crosserWaits_31 : decode cX1_crosserWaits 31 = .ok (.istore 5, 2) := by decide +kernel
theorem dX1_crosserWaits_33 : decode cX1_crosserWaits 33 = .ok (.iload 5, 2) := by decide +kernel
theorem dX1_crosserWaits_35 : decode cX1_crosserWaits 35 = .ok (.iload_n 2, 1) := by decide +kernel
theorem dX1_crosserWaits_36 : decode cX1_crosserWaits 36 = .ok (.imul, 1) := by decide +kernel
theorem dX1_crosserWaits_37 : decode cX1_crosserWaits 37 = .ok (.aload_n 0, 1) := by decide +kernel
theorem dX1_crosserWaits_38 : decode cX1_crosserWaits 38 = .ok (.getfield 24, 3) := by decide +kernel
theorem dX1_crosserWaits_41 : decode cX1_crosserWaits 41 = .ok (.iload 4, 2) := by decide +kernel
theorem dX1_crosserWaits_43 : decode cX1_crosserWaits 43 = .ok (.iaload, 1) := by decide +kernel
theorem dX1_crosserWaits_44 : decode cX1_crosserWaits 44 = .ok (.aload_n 0, 1) := by decide +kernel
theorem dX1_crosserWaits_45 : decode cX1_crosserWaits 45 = .ok (.getfield 24, 3) := by decide +kernel
theorem dX1_crosserWaits_48 : decode cX1_crosserWaits 48 = .ok (.iload_n 3, 1) := by decide +kernel
theorem dX1_crosserWaits_49 : decode cX1_crosserWaits 49 = .ok (.iaload, 1) := by decide +kernel
theorem dX1_crosserWaits_50 : decode cX1_crosserWaits 50 = .ok (.isub, 1) := by decide +kernel
theorem dX1_crosserWaits_51 : decode cX1_crosserWaits 51 = .ok (.isub, 1) := by decide +kernel
theorem dX1_crosserWaits_52 : decode cX1_crosserWaits 52 = .ok (.ireturn, 1) := by decide +kernel
theorem dX2_init_0 : decode cX2_init 0 = .ok (.aload_n 0, 1) := by decide +kernel
theorem dX2_init_1 : decode cX2_init 1 = .ok (.invokespecial 3, 3) := by decide +kernel
theorem dX2_init_4 : decode cX2_init 4 = .ok (.aload_n 0, 1) := by decide +kernel
theorem dX2_init_5 : decode cX2_init 5 = .ok (.bipush 60, 2) := by decide +kernel
theorem dX2_init_7 : decode cX2_init 7 = .ok (.newarray .int, 2) := by decide +kernel
theorem dX2_init_9 : decode cX2_init 9 = .ok (.putfield 9, 3) := by decide +kernel
theorem dX2_init_12 : decode cX2_init 12 = .ok (.aload_n 0, 1) := by decide +kernel
theorem dX2_init_13 : decode cX2_init 13 = .ok (.bipush 60, 2) := by decide +kernel
theorem dX2_init_15 : decode cX2_init 15 = .ok (.newarray .boolean, 2) := by decide +kernel
theorem dX2_init_17 : decode cX2_init 17 = .ok (.putfield 15, 3) := by decide +kernel
theorem dX2_init_20 : decode cX2_init 20 = .ok (.aload_n 0, 1) := by decide +kernel
theorem dX2_init_21 : decode cX2_init 21 = .ok (.sipush 610, 3) := by decide +kernel
theorem dX2_init_24 : decode cX2_init 24 = .ok (.newarray .int, 2) := by decide +kernel
theorem dX2_init_26 : decode cX2_init 26 = .ok (.putfield 19, 3) := by decide +kernel
theorem dX2_init_29 : decode cX2_init 29 = .ok (.aload_n 0, 1) := by decide +kernel
theorem dX2_init_30 : decode cX2_init 30 = .ok (.bipush 50, 2) := by decide +kernel
theorem dX2_init_32 : decode cX2_init 32 = .ok (.putfield 22, 3) := by decide +kernel
theorem dX2_init_35 : decode cX2_init 35 = .ok (.aload_n 0, 1) := by decide +kernel
theorem dX2_init_36 : decode cX2_init 36 = .ok (.iconst 3, 1) := by decide +kernel
theorem dX2_init_37 : decode cX2_init 37 = .ok (.putfield 26, 3) := by decide +kernel
theorem dX2_init_40 : decode cX2_init 40 = .ok (.aload_n 0, 1) := by decide +kernel
theorem dX2_init_41 : decode cX2_init 41 = .ok (.getfield 9, 3) := by decide +kernel
theorem dX2_init_44 : decode cX2_init 44 = .ok (.iconst (-1), 1) := by decide +kernel
theorem dX2_init_45 : decode cX2_init 45 = .ok (.invokestatic 29, 3) := by decide +kernel
theorem dX2_init_48 : decode cX2_init 48 = .ok (.return_, 1) := by decide +kernel
theorem dX2_foretell_0 : decode cX2_foretell 0 = .ok (.aload_n 0, 1) := by decide +kernel
theorem dX2_foretell_1 : decode cX2_foretell 1 = .ok (.getfield 9, 3) := by decide +kernel
theorem dX2_foretell_4 : decode cX2_foretell 4 = .ok (.iload_n 1, 1) := by decide +kernel
theorem dX2_foretell_5 : decode cX2_foretell 5 = .ok (.iload_n 2, 1) := by decide +kernel
theorem dX2_foretell_6 : decode cX2_foretell 6 = .ok (.iastore, 1) := by decide +kernel
theorem dX2_foretell_7 : decode cX2_foretell 7 = .ok (.aload_n 0, 1) := by decide +kernel
theorem dX2_foretell_8 : decode cX2_foretell 8 = .ok (.iconst 0, 1) := by decide +kernel
theorem dX2_foretell_9 : decode cX2_foretell 9 = .ok (.putfield 35, 3) := by decide +kernel
theorem dX2_foretell_12 : decode cX2_foretell 12 = .ok (.return_, 1) := by decide +kernel
theorem dX2_setLimits_0 : decode cX2_setLimits 0 = .ok (.aload_n 0, 1) := by decide +kernel
theorem dX2_setLimits_1 : decode cX2_setLimits 1 = .ok (.iload_n 1, 1) := by decide +kernel
theorem dX2_setLimits_2 : decode cX2_setLimits 2 = .ok (.putfield 22, 3) := by decide +kernel
theorem dX2_setLimits_5 : decode cX2_setLimits 5 = .ok (.aload_n 0, 1) := by decide +kernel
theorem dX2_setLimits_6 : decode cX2_setLimits 6 = .ok (.iload_n 2, 1) := by decide +kernel
theorem dX2_setLimits_7 : decode cX2_setLimits 7 = .ok (.putfield 26, 3) := by decide +kernel
theorem dX2_setLimits_10 : decode cX2_setLimits 10 = .ok (.aload_n 0, 1) := by decide +kernel
theorem dX2_setLimits_11 : decode cX2_setLimits 11 = .ok (.iconst 0, 1) := by decide +kernel
theorem dX2_setLimits_12 : decode cX2_setLimits 12 = .ok (.putfield 35, 3) := by decide +kernel
theorem dX2_setLimits_15 : decode cX2_setLimits 15 = .ok (.return_, 1) := by decide +kernel
theorem dX2_isBad_0 : decode cX2_isBad 0 = .ok (.aload_n 0, 1) := by decide +kernel
theorem dX2_isBad_1 : decode cX2_isBad 1 = .ok (.getfield 9, 3) := by decide +kernel
theorem dX2_isBad_4 : decode cX2_isBad 4 = .ok (.iload_n 1, 1) := by decide +kernel
theorem dX2_isBad_5 : decode cX2_isBad 5 = .ok (.iaload, 1) := by decide +kernel
theorem dX2_isBad_6 : decode cX2_isBad 6 = .ok (.iconst (-1), 1) := by decide +kernel
theorem dX2_isBad_7 : decode cX2_isBad 7 = .ok (.if_icmp .eq 16, 3) := by decide +kernel
theorem dX2_isBad_10 : decode cX2_isBad 10 = .ok (.aload_n 0, 1) := by decide +kernel
theorem dX2_isBad_11 : decode cX2_isBad 11 = .ok (.getfield 9, 3) := by decide +kernel
theorem dX2_isBad_14 : decode cX2_isBad 14 = .ok (.iload_n 1, 1) := by decide +kernel
theorem dX2_isBad_15 : decode cX2_isBad 15 = .ok (.iaload, 1) := by decide +kernel
theorem dX2_isBad_16 : decode cX2_isBad 16 = .ok (.aload_n 0, 1) := by decide +kernel
theorem dX2_isBad_17 : decode cX2_isBad 17 = .ok (.getfield 22, 3) := by decide +kernel
theorem dX2_isBad_20 : decode cX2_isBad 20 = .ok (.if_icmp .le 7, 3) := by decide +kernel
theorem dX2_isBad_23 : decode cX2_isBad 23 = .ok (.iconst 1, 1) := by decide +kernel
theorem dX2_isBad_24 : decode cX2_isBad 24 = .ok (.goto 4, 3) := by decide +kernel
theorem dX2_isBad_27 : decode cX2_isBad 27 = .ok (.iconst 0, 1) := by decide +kernel
theorem dX2_isBad_28 : decode cX2_isBad 28 = .ok (.ireturn, 1) := by decide +kernel
theorem dX2_isOut_0 : decode cX2_isOut 0 = .ok (.aload_n 0, 1) := by decide +kernel
theorem dX2_isOut_1 : decode cX2_isOut 1 = .ok (.invokevirtual 39, 3) := by decide +kernel
theorem dX2_isOut_4 : decode cX2_isOut 4 = .ok (.aload_n 0, 1) := by decide +kernel
theorem dX2_isOut_5 : decode cX2_isOut 5 = .ok (.getfield 15, 3) := by decide +kernel
theorem dX2_isOut_8 : decode cX2_isOut 8 = .ok (.iload_n 1, 1) := by decide +kernel
theorem dX2_isOut_9 : decode cX2_isOut 9 = .ok (.baload, 1) := by decide +kernel
theorem dX2_isOut_10 : decode cX2_isOut 10 = .ok (.ireturn, 1) := by decide +kernel
theorem dX2_fewest_0 : decode cX2_fewest 0 = .ok (.aload_n 0, 1) := by decide +kernel
theorem dX2_fewest_1 : decode cX2_fewest 1 = .ok (.invokevirtual 39, 3) := by decide +kernel
theorem dX2_fewest_4 : decode cX2_fewest 4 = .ok (.aload_n 0, 1) := by decide +kernel
theorem dX2_fewest_5 : decode cX2_fewest 5 = .ok (.getfield 19, 3) := by decide +kernel
theorem dX2_fewest_8 : decode cX2_fewest 8 = .ok (.iconst 0, 1) := by decide +kernel
theorem dX2_fewest_9 : decode cX2_fewest 9 = .ok (.iaload, 1) := by decide +kernel
theorem dX2_fewest_10 : decode cX2_fewest 10 = .ok (.ireturn, 1) := by decide +kernel
theorem dX2_plan_0 : decode cX2_plan 0 = .ok (.aload_n 0, 1) := by decide +kernel
