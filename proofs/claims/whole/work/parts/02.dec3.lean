theorem dX7_cameBy_23 : decode cX7_cameBy 23 = .ok (.iconst 1, 1) := by decide +kernel
theorem dX7_cameBy_24 : decode cX7_cameBy 24 = .ok (.goto 4, 3) := by decide +kernel
theorem dX7_cameBy_27 : decode cX7_cameBy 27 = .ok (.iconst 0, 1) := by decide +kernel
theorem dX7_cameBy_28 : decode cX7_cameBy 28 = .ok (.iadd, 1) := by decide +kernel
theorem dX7_cameBy_29 : decode cX7_cameBy 29 = .ok (.istore_n 2, 1) := by decide +kernel
theorem dX7_cameBy_30 : decode cX7_cameBy 30 = .ok (.iinc 3 1, 3) := by decide +kernel
theorem dX7_cameBy_33 : decode cX7_cameBy 33 = .ok (.goto (-29), 3) := by decide +kernel
theorem dX7_cameBy_36 : decode cX7_cameBy 36 = .ok (.iload_n 2, 1) := by decide +kernel
theorem dX7_cameBy_37 : decode cX7_cameBy 37 = .ok (.ireturn, 1) := by decide +kernel
theorem dX7_endOf_0 : decode cX7_endOf 0 = .ok (.iload_n 1, 1) := by decide +kernel
theorem dX7_endOf_1 : decode cX7_endOf 1 = .ok (.aload_n 0, 1) := by decide +kernel
theorem dX7_endOf_2 : decode cX7_endOf 2 = .ok (.getfield 31, 3) := by decide +kernel
theorem dX7_endOf_5 : decode cX7_endOf 5 = .ok (.iconst 0, 1) := by decide +kernel
theorem dX7_endOf_6 : decode cX7_endOf 6 = .ok (.iaload, 1) := by decide +kernel
theorem dX7_endOf_7 : decode cX7_endOf 7 = .ok (.iadd, 1) := by decide +kernel
theorem dX7_endOf_8 : decode cX7_endOf 8 = .ok (.aload_n 0, 1) := by decide +kernel
theorem dX7_endOf_9 : decode cX7_endOf 9 = .ok (.getfield 31, 3) := by decide +kernel
theorem dX7_endOf_12 : decode cX7_endOf 12 = .ok (.iconst 1, 1) := by decide +kernel
theorem dX7_endOf_13 : decode cX7_endOf 13 = .ok (.iaload, 1) := by decide +kernel
theorem dX7_endOf_14 : decode cX7_endOf 14 = .ok (.iload_n 2, 1) := by decide +kernel
theorem dX7_endOf_15 : decode cX7_endOf 15 = .ok (.imul, 1) := by decide +kernel
theorem dX7_endOf_16 : decode cX7_endOf 16 = .ok (.iadd, 1) := by decide +kernel
theorem dX7_endOf_17 : decode cX7_endOf 17 = .ok (.aload_n 0, 1) := by decide +kernel
theorem dX7_endOf_18 : decode cX7_endOf 18 = .ok (.getfield 31, 3) := by decide +kernel
theorem dX7_endOf_21 : decode cX7_endOf 21 = .ok (.iconst 2, 1) := by decide +kernel
theorem dX7_endOf_22 : decode cX7_endOf 22 = .ok (.iaload, 1) := by decide +kernel
theorem dX7_endOf_23 : decode cX7_endOf 23 = .ok (.iadd, 1) := by decide +kernel
theorem dX7_endOf_24 : decode cX7_endOf 24 = .ok (.ireturn, 1) := by decide +kernel
theorem dX7_waitsOf_0 : decode cX7_waitsOf 0 = .ok (.aload_n 0, 1) := by decide +kernel
theorem dX7_waitsOf_1 : decode cX7_waitsOf 1 = .ok (.iload_n 2, 1) := by decide +kernel
theorem dX7_waitsOf_2 : decode cX7_waitsOf 2 = .ok (.invokevirtual 139, 3) := by decide +kernel
theorem dX7_waitsOf_5 : decode cX7_waitsOf 5 = .ok (.iload_n 1, 1) := by decide +kernel
theorem dX7_waitsOf_6 : decode cX7_waitsOf 6 = .ok (.isub, 1) := by decide +kernel
theorem dX7_waitsOf_7 : decode cX7_waitsOf 7 = .ok (.istore_n 3, 1) := by decide +kernel
theorem dX7_waitsOf_8 : decode cX7_waitsOf 8 = .ok (.iconst 0, 1) := by decide +kernel
theorem dX7_waitsOf_9 : decode cX7_waitsOf 9 = .ok (.istore 4, 2) := by decide +kernel
theorem dX7_waitsOf_11 : decode cX7_waitsOf 11 = .ok (.iconst 1, 1) := by decide +kernel
theorem dX7_waitsOf_12 : decode cX7_waitsOf 12 = .ok (.istore 5, 2) := by decide +kernel
theorem dX7_waitsOf_14 : decode cX7_waitsOf 14 = .ok (.iload 5, 2) := by decide +kernel
theorem dX7_waitsOf_16 : decode cX7_waitsOf 16 = .ok (.iload_n 3, 1) := by decide +kernel
theorem dX7_waitsOf_17 : decode cX7_waitsOf 17 = .ok (.if_icmp .gt 51, 3) := by decide +kernel
theorem dX7_waitsOf_20 : decode cX7_waitsOf 20 = .ok (.iload 4, 2) := by decide +kernel
theorem dX7_waitsOf_22 : decode cX7_waitsOf 22 = .ok (.aload_n 0, 1) := by decide +kernel
theorem dX7_waitsOf_23 : decode cX7_waitsOf 23 = .ok (.getfield 31, 3) := by decide +kernel
theorem dX7_waitsOf_26 : decode cX7_waitsOf 26 = .ok (.iconst 3, 1) := by decide +kernel
theorem dX7_waitsOf_27 : decode cX7_waitsOf 27 = .ok (.iaload, 1) := by decide +kernel
theorem dX7_waitsOf_28 : decode cX7_waitsOf 28 = .ok (.iload_n 2, 1) := by decide +kernel
theorem dX7_waitsOf_29 : decode cX7_waitsOf 29 = .ok (.aload_n 0, 1) := by decide +kernel
theorem dX7_waitsOf_30 : decode cX7_waitsOf 30 = .ok (.getfield 31, 3) := by decide +kernel
theorem dX7_waitsOf_33 : decode cX7_waitsOf 33 = .ok (.iconst 0, 1) := by decide +kernel
theorem dX7_waitsOf_34 : decode cX7_waitsOf 34 = .ok (.iaload, 1) := by decide +kernel
theorem dX7_waitsOf_35 : decode cX7_waitsOf 35 = .ok (.iadd, 1) := by decide +kernel
theorem dX7_waitsOf_36 : decode cX7_waitsOf 36 = .ok (.iload 5, 2) := by decide +kernel
theorem dX7_waitsOf_38 : decode cX7_waitsOf 38 = .ok (.aload_n 0, 1) := by decide +kernel
theorem dX7_waitsOf_39 : decode cX7_waitsOf 39 = .ok (.getfield 31, 3) := by decide +kernel
theorem dX7_waitsOf_42 : decode cX7_waitsOf 42 = .ok (.iconst 1, 1) := by decide +kernel
theorem dX7_waitsOf_43 : decode cX7_waitsOf 43 = .ok (.iaload, 1) := by decide +kernel
theorem dX7_waitsOf_44 : decode cX7_waitsOf 44 = .ok (.imul, 1) := by decide +kernel
theorem dX7_waitsOf_45 : decode cX7_waitsOf 45 = .ok (.iadd, 1) := by decide +kernel
theorem dX7_waitsOf_46 : decode cX7_waitsOf 46 = .ok (.aload_n 0, 1) := by decide +kernel
theorem dX7_waitsOf_47 : decode cX7_waitsOf 47 = .ok (.getfield 72, 3) := by decide +kernel
theorem dX7_waitsOf_50 : decode cX7_waitsOf 50 = .ok (.iload_n 1, 1) := by decide +kernel
theorem dX7_waitsOf_51 : decode cX7_waitsOf 51 = .ok (.iload 5, 2) := by decide +kernel
theorem dX7_waitsOf_53 : decode cX7_waitsOf 53 = .ok (.iadd, 1) := by decide +kernel
theorem dX7_waitsOf_54 : decode cX7_waitsOf 54 = .ok (.iconst 1, 1) := by decide +kernel
theorem dX7_waitsOf_55 : decode cX7_waitsOf 55 = .ok (.isub, 1) := by decide +kernel
theorem dX7_waitsOf_56 : decode cX7_waitsOf 56 = .ok (.iaload, 1) := by decide +kernel
theorem dX7_waitsOf_57 : decode cX7_waitsOf 57 = .ok (.isub, 1) := by decide +kernel
theorem dX7_waitsOf_58 : decode cX7_waitsOf 58 = .ok (.imul, 1) := by decide +kernel
theorem dX7_waitsOf_59 : decode cX7_waitsOf 59 = .ok (.iadd, 1) := by decide +kernel
theorem dX7_waitsOf_60 : decode cX7_waitsOf 60 = .ok (.istore 4, 2) := by decide +kernel
theorem dX7_waitsOf_62 : decode cX7_waitsOf 62 = .ok (.iinc 5 1, 3) := by decide +kernel
theorem dX7_waitsOf_65 : decode cX7_waitsOf 65 = .ok (.goto (-51), 3) := by decide +kernel
theorem dX7_waitsOf_68 : decode cX7_waitsOf 68 = .ok (.aload_n 0, 1) := by decide +kernel
theorem dX7_waitsOf_69 : decode cX7_waitsOf 69 = .ok (.iload_n 2, 1) := by decide +kernel
theorem dX7_waitsOf_70 : decode cX7_waitsOf 70 = .ok (.iload_n 3, 1) := by decide +kernel
theorem dX7_waitsOf_71 : decode cX7_waitsOf 71 = .ok (.invokevirtual 143, 3) := by decide +kernel
theorem dX7_waitsOf_74 : decode cX7_waitsOf 74 = .ok (.istore 5, 2) := by decide +kernel
theorem dX7_waitsOf_76 : decode cX7_waitsOf 76 = .ok (.iconst 0, 1) := by decide +kernel
theorem dX7_waitsOf_77 : decode cX7_waitsOf 77 = .ok (.istore 6, 2) := by decide +kernel
theorem dX7_waitsOf_79 : decode cX7_waitsOf 79 = .ok (.iload 6, 2) := by decide +kernel
theorem dX7_waitsOf_81 : decode cX7_waitsOf 81 = .ok (.aload_n 0, 1) := by decide +kernel
theorem dX7_waitsOf_82 : decode cX7_waitsOf 82 = .ok (.getfield 134, 3) := by decide +kernel
theorem dX7_waitsOf_85 : decode cX7_waitsOf 85 = .ok (.if_icmp .ge 49, 3) := by decide +kernel
theorem dX7_waitsOf_88 : decode cX7_waitsOf 88 = .ok (.iload 4, 2) := by decide +kernel
theorem dX7_waitsOf_90 : decode cX7_waitsOf 90 = .ok (.aload_n 0, 1) := by decide +kernel
theorem dX7_waitsOf_91 : decode cX7_waitsOf 91 = .ok (.getfield 28, 3) := by decide +kernel
theorem dX7_waitsOf_94 : decode cX7_waitsOf 94 = .ok (.iload 6, 2) := by decide +kernel
theorem dX7_waitsOf_96 : decode cX7_waitsOf 96 = .ok (.iaload, 1) := by decide +kernel
theorem dX7_waitsOf_97 : decode cX7_waitsOf 97 = .ok (.i2l, 1) := by decide +kernel
theorem dX7_waitsOf_98 : decode cX7_waitsOf 98 = .ok (.iload_n 2, 1) := by decide +kernel
theorem dX7_waitsOf_99 : decode cX7_waitsOf 99 = .ok (.i2l, 1) := by decide +kernel
theorem dX7_waitsOf_100 : decode cX7_waitsOf 100 = .ok (.iload 5, 2) := by decide +kernel
theorem dX7_waitsOf_102 : decode cX7_waitsOf 102 = .ok (.iconst 1, 1) := by decide +kernel
theorem dX7_waitsOf_103 : decode cX7_waitsOf 103 = .ok (.isub, 1) := by decide +kernel
theorem dX7_waitsOf_104 : decode cX7_waitsOf 104 = .ok (.i2l, 1) := by decide +kernel
theorem dX7_waitsOf_105 : decode cX7_waitsOf 105 = .ok (.invokestatic 84, 3) := by decide +kernel
theorem dX7_waitsOf_108 : decode cX7_waitsOf 108 = .ok (.ifCond .eq 16, 3) := by decide +kernel
theorem dX7_waitsOf_111 : decode cX7_waitsOf 111 = .ok (.iload 5, 2) := by decide +kernel
theorem dX7_waitsOf_113 : decode cX7_waitsOf 113 = .ok (.aload_n 0, 1) := by decide +kernel
theorem dX7_waitsOf_114 : decode cX7_waitsOf 114 = .ok (.getfield 28, 3) := by decide +kernel
theorem dX7_waitsOf_117 : decode cX7_waitsOf 117 = .ok (.iload 6, 2) := by decide +kernel
theorem dX7_waitsOf_119 : decode cX7_waitsOf 119 = .ok (.iaload, 1) := by decide +kernel
theorem dX7_waitsOf_120 : decode cX7_waitsOf 120 = .ok (.isub, 1) := by decide +kernel
theorem dX7_waitsOf_121 : decode cX7_waitsOf 121 = .ok (.goto 4, 3) := by decide +kernel
theorem dX7_waitsOf_124 : decode cX7_waitsOf 124 = .ok (.iconst 0, 1) := by decide +kernel
theorem dX7_waitsOf_125 : decode cX7_waitsOf 125 = .ok (.iadd, 1) := by decide +kernel
theorem dX7_waitsOf_126 : decode cX7_waitsOf 126 = .ok (.istore 4, 2) := by decide +kernel
theorem dX7_waitsOf_128 : decode cX7_waitsOf 128 = .ok (.iinc 6 1, 3) := by decide +kernel
theorem dX7_waitsOf_131 : decode cX7_waitsOf 131 = .ok (.goto (-52), 3) := by decide +kernel
theorem dX7_waitsOf_134 : decode cX7_waitsOf 134 = .ok (.iload 4, 2) := by decide +kernel
theorem dX7_waitsOf_136 : decode cX7_waitsOf 136 = .ok (.ireturn, 1) := by decide +kernel
theorem dX7_rest_0 : decode cX7_rest 0 = .ok (.iload_n 1, 1) := by decide +kernel
theorem dX7_rest_1 : decode cX7_rest 1 = .ok (.aload_n 0, 1) := by decide +kernel
theorem dX7_rest_2 : decode cX7_rest 2 = .ok (.getfield 131, 3) := by decide +kernel
theorem dX7_rest_5 : decode cX7_rest 5 = .ok (.if_icmp .ne 7, 3) := by decide +kernel
theorem dX7_rest_8 : decode cX7_rest 8 = .ok (.iconst 0, 1) := by decide +kernel
theorem dX7_rest_9 : decode cX7_rest 9 = .ok (.goto 27, 3) := by decide +kernel
theorem dX7_rest_12 : decode cX7_rest 12 = .ok (.iload_n 2, 1) := by decide +kernel
theorem dX7_rest_13 : decode cX7_rest 13 = .ok (.sipush 299, 3) := by decide +kernel
theorem dX7_rest_16 : decode cX7_rest 16 = .ok (.if_icmp .le 8, 3) := by decide +kernel
theorem dX7_rest_19 : decode cX7_rest 19 = .ok (.ldc 112, 2) := by decide +kernel
theorem dX7_rest_21 : decode cX7_rest 21 = .ok (.goto 15, 3) := by decide +kernel
theorem dX7_rest_24 : decode cX7_rest 24 = .ok (.aload_n 0, 1) := by decide +kernel
theorem dX7_rest_25 : decode cX7_rest 25 = .ok (.getfield 75, 3) := by decide +kernel
theorem dX7_rest_28 : decode cX7_rest 28 = .ok (.sipush 301, 3) := by decide +kernel
theorem dX7_rest_31 : decode cX7_rest 31 = .ok (.iload_n 1, 1) := by decide +kernel
theorem dX7_rest_32 : decode cX7_rest 32 = .ok (.imul, 1) := by decide +kernel
theorem dX7_rest_33 : decode cX7_rest 33 = .ok (.iload_n 2, 1) := by decide +kernel
theorem dX7_rest_34 : decode cX7_rest 34 = .ok (.iadd, 1) := by decide +kernel
theorem dX7_rest_35 : decode cX7_rest 35 = .ok (.iaload, 1) := by decide +kernel
theorem dX7_rest_36 : decode cX7_rest 36 = .ok (.ireturn, 1) := by decide +kernel
theorem dX7_opens_0 : decode cX7_opens 0 = .ok (.aload_n 0, 1) := by decide +kernel
theorem dX7_opens_1 : decode cX7_opens 1 = .ok (.iload_n 2, 1) := by decide +kernel
theorem dX7_opens_2 : decode cX7_opens 2 = .ok (.invokevirtual 139, 3) := by decide +kernel
theorem dX7_opens_5 : decode cX7_opens 5 = .ok (.istore_n 3, 1) := by decide +kernel
theorem dX7_opens_6 : decode cX7_opens 6 = .ok (.iload_n 3, 1) := by decide +kernel
theorem dX7_opens_7 : decode cX7_opens 7 = .ok (.iload_n 1, 1) := by decide +kernel
theorem dX7_opens_8 : decode cX7_opens 8 = .ok (.if_icmp .gt 6, 3) := by decide +kernel
theorem dX7_opens_11 : decode cX7_opens 11 = .ok (.ldc 112, 2) := by decide +kernel
theorem dX7_opens_13 : decode cX7_opens 13 = .ok (.ireturn, 1) := by decide +kernel
theorem dX7_opens_14 : decode cX7_opens 14 = .ok (.aload_n 0, 1) := by decide +kernel
theorem dX7_opens_15 : decode cX7_opens 15 = .ok (.iload_n 3, 1) := by decide +kernel
theorem dX7_opens_16 : decode cX7_opens 16 = .ok (.aload_n 0, 1) := by decide +kernel
theorem dX7_opens_17 : decode cX7_opens 17 = .ok (.iload_n 2, 1) := by decide +kernel
theorem dX7_opens_18 : decode cX7_opens 18 = .ok (.iload_n 3, 1) := by decide +kernel
theorem dX7_opens_19 : decode cX7_opens 19 = .ok (.iload_n 1, 1) := by decide +kernel
theorem dX7_opens_20 : decode cX7_opens 20 = .ok (.isub, 1) := by decide +kernel
theorem dX7_opens_21 : decode cX7_opens 21 = .ok (.invokevirtual 143, 3) := by decide +kernel
theorem dX7_opens_24 : decode cX7_opens 24 = .ok (.invokevirtual 147, 3) := by decide +kernel
theorem dX7_opens_27 : decode cX7_opens 27 = .ok (.istore 4, 2) := by decide +kernel
theorem dX7_opens_29 : decode cX7_opens 29 = .ok (.iload 4, 2) := by decide +kernel
theorem dX7_opens_31 : decode cX7_opens 31 = .ok (.ldc 112, 2) := by decide +kernel
theorem dX7_opens_33 : decode cX7_opens 33 = .ok (.if_icmp .lt 8, 3) := by decide +kernel
theorem dX7_opens_36 : decode cX7_opens 36 = .ok (.ldc 112, 2) := by decide +kernel
theorem dX7_opens_38 : decode cX7_opens 38 = .ok (.goto 12, 3) := by decide +kernel
theorem dX7_opens_41 : decode cX7_opens 41 = .ok (.aload_n 0, 1) := by decide +kernel
theorem dX7_opens_42 : decode cX7_opens 42 = .ok (.iload_n 1, 1) := by decide +kernel
theorem dX7_opens_43 : decode cX7_opens 43 = .ok (.iload_n 2, 1) := by decide +kernel
theorem dX7_opens_44 : decode cX7_opens 44 = .ok (.invokevirtual 150, 3) := by decide +kernel
theorem dX7_opens_47 : decode cX7_opens 47 = .ok (.iload 4, 2) := by decide +kernel
theorem dX7_opens_49 : decode cX7_opens 49 = .ok (.iadd, 1) := by decide +kernel
theorem dX7_opens_50 : decode cX7_opens 50 = .ok (.ireturn, 1) := by decide +kernel
theorem dX7_bestWaits_0 : decode cX7_bestWaits 0 = .ok (.aload_n 0, 1) := by decide +kernel
theorem dX7_bestWaits_1 : decode cX7_bestWaits 1 = .ok (.invokevirtual 153, 3) := by decide +kernel
theorem dX7_bestWaits_4 : decode cX7_bestWaits 4 = .ok (.aload_n 0, 1) := by decide +kernel
theorem dX7_bestWaits_5 : decode cX7_bestWaits 5 = .ok (.getfield 131, 3) := by decide +kernel
theorem dX7_bestWaits_8 : decode cX7_bestWaits 8 = .ok (.iconst 1, 1) := by decide +kernel
theorem dX7_bestWaits_9 : decode cX7_bestWaits 9 = .ok (.isub, 1) := by decide +kernel
theorem dX7_bestWaits_10 : decode cX7_bestWaits 10 = .ok (.istore_n 1, 1) := by decide +kernel
theorem dX7_bestWaits_11 : decode cX7_bestWaits 11 = .ok (.iload_n 1, 1) := by decide +kernel
theorem dX7_bestWaits_12 : decode cX7_bestWaits 12 = .ok (.ifCond .lt 82, 3) := by decide +kernel
theorem dX7_bestWaits_15 : decode cX7_bestWaits 15 = .ok (.sipush 299, 3) := by decide +kernel
theorem dX7_bestWaits_18 : decode cX7_bestWaits 18 = .ok (.istore_n 2, 1) := by decide +kernel
theorem dX7_bestWaits_19 : decode cX7_bestWaits 19 = .ok (.iload_n 2, 1) := by decide +kernel
theorem dX7_bestWaits_20 : decode cX7_bestWaits 20 = .ok (.ifCond .lt 68, 3) := by decide +kernel
theorem dX7_bestWaits_23 : decode cX7_bestWaits 23 = .ok (.iload_n 2, 1) := by decide +kernel
theorem dX7_bestWaits_24 : decode cX7_bestWaits 24 = .ok (.sipush 299, 3) := by decide +kernel
theorem dX7_bestWaits_27 : decode cX7_bestWaits 27 = .ok (.if_icmp .ne 8, 3) := by decide +kernel
theorem dX7_bestWaits_30 : decode cX7_bestWaits 30 = .ok (.ldc 112, 2) := by decide +kernel
theorem dX7_bestWaits_32 : decode cX7_bestWaits 32 = .ok (.goto 17, 3) := by decide +kernel
theorem dX7_bestWaits_35 : decode cX7_bestWaits 35 = .ok (.aload_n 0, 1) := by decide +kernel
theorem dX7_bestWaits_36 : decode cX7_bestWaits 36 = .ok (.getfield 75, 3) := by decide +kernel
theorem dX7_bestWaits_39 : decode cX7_bestWaits 39 = .ok (.sipush 301, 3) := by decide +kernel
theorem dX7_bestWaits_42 : decode cX7_bestWaits 42 = .ok (.iload_n 1, 1) := by decide +kernel
theorem dX7_bestWaits_43 : decode cX7_bestWaits 43 = .ok (.imul, 1) := by decide +kernel
theorem dX7_bestWaits_44 : decode cX7_bestWaits 44 = .ok (.iload_n 2, 1) := by decide +kernel
theorem dX7_bestWaits_45 : decode cX7_bestWaits 45 = .ok (.iadd, 1) := by decide +kernel
theorem dX7_bestWaits_46 : decode cX7_bestWaits 46 = .ok (.iconst 1, 1) := by decide +kernel
theorem dX7_bestWaits_47 : decode cX7_bestWaits 47 = .ok (.iadd, 1) := by decide +kernel
theorem dX7_bestWaits_48 : decode cX7_bestWaits 48 = .ok (.iaload, 1) := by decide +kernel
theorem dX7_bestWaits_49 : decode cX7_bestWaits 49 = .ok (.istore_n 3, 1) := by decide +kernel
theorem dX7_bestWaits_50 : decode cX7_bestWaits 50 = .ok (.aload_n 0, 1) := by decide +kernel
theorem dX7_bestWaits_51 : decode cX7_bestWaits 51 = .ok (.iload_n 1, 1) := by decide +kernel
theorem dX7_bestWaits_52 : decode cX7_bestWaits 52 = .ok (.iload_n 2, 1) := by decide +kernel
theorem dX7_bestWaits_53 : decode cX7_bestWaits 53 = .ok (.invokevirtual 156, 3) := by decide +kernel
theorem dX7_bestWaits_56 : decode cX7_bestWaits 56 = .ok (.istore 4, 2) := by decide +kernel
theorem dX7_bestWaits_58 : decode cX7_bestWaits 58 = .ok (.aload_n 0, 1) := by decide +kernel
theorem dX7_bestWaits_59 : decode cX7_bestWaits 59 = .ok (.getfield 75, 3) := by decide +kernel
theorem dX7_bestWaits_62 : decode cX7_bestWaits 62 = .ok (.sipush 301, 3) := by decide +kernel
theorem dX7_bestWaits_65 : decode cX7_bestWaits 65 = .ok (.iload_n 1, 1) := by decide +kernel
theorem dX7_bestWaits_66 : decode cX7_bestWaits 66 = .ok (.imul, 1) := by decide +kernel
theorem dX7_bestWaits_67 : decode cX7_bestWaits 67 = .ok (.iload_n 2, 1) := by decide +kernel
theorem dX7_bestWaits_68 : decode cX7_bestWaits 68 = .ok (.iadd, 1) := by decide +kernel
theorem dX7_bestWaits_69 : decode cX7_bestWaits 69 = .ok (.iload 4, 2) := by decide +kernel
theorem dX7_bestWaits_71 : decode cX7_bestWaits 71 = .ok (.iload_n 3, 1) := by decide +kernel
theorem dX7_bestWaits_72 : decode cX7_bestWaits 72 = .ok (.if_icmp .gt 8, 3) := by decide +kernel
theorem dX7_bestWaits_75 : decode cX7_bestWaits 75 = .ok (.iload 4, 2) := by decide +kernel
theorem dX7_bestWaits_77 : decode cX7_bestWaits 77 = .ok (.goto 4, 3) := by decide +kernel
theorem dX7_bestWaits_80 : decode cX7_bestWaits 80 = .ok (.iload_n 3, 1) := by decide +kernel
theorem dX7_bestWaits_81 : decode cX7_bestWaits 81 = .ok (.iastore, 1) := by decide +kernel
theorem dX7_bestWaits_82 : decode cX7_bestWaits 82 = .ok (.iinc 2 (-1), 3) := by decide +kernel
theorem dX7_bestWaits_85 : decode cX7_bestWaits 85 = .ok (.goto (-66), 3) := by decide +kernel
theorem dX7_bestWaits_88 : decode cX7_bestWaits 88 = .ok (.iinc 1 (-1), 3) := by decide +kernel
theorem dX7_bestWaits_91 : decode cX7_bestWaits 91 = .ok (.goto (-80), 3) := by decide +kernel
theorem dX7_bestWaits_94 : decode cX7_bestWaits 94 = .ok (.aload_n 0, 1) := by decide +kernel
theorem dX7_bestWaits_95 : decode cX7_bestWaits 95 = .ok (.iconst 0, 1) := by decide +kernel
theorem dX7_bestWaits_96 : decode cX7_bestWaits 96 = .ok (.iconst 0, 1) := by decide +kernel
theorem dX7_bestWaits_97 : decode cX7_bestWaits 97 = .ok (.invokevirtual 147, 3) := by decide +kernel
theorem dX7_bestWaits_100 : decode cX7_bestWaits 100 = .ok (.ireturn, 1) := by decide +kernel
theorem dX7_waits_0 : decode cX7_waits 0 = .ok (.aload_n 0, 1) := by decide +kernel
theorem dX7_waits_1 : decode cX7_waits 1 = .ok (.invokevirtual 159, 3) := by decide +kernel
theorem dX7_waits_4 : decode cX7_waits 4 = .ok (.istore_n 1, 1) := by decide +kernel
theorem dX7_waits_5 : decode cX7_waits 5 = .ok (.iload_n 1, 1) := by decide +kernel
theorem dX7_waits_6 : decode cX7_waits 6 = .ok (.ldc 112, 2) := by decide +kernel
theorem dX7_waits_8 : decode cX7_waits 8 = .ok (.if_icmp .lt 7, 3) := by decide +kernel
theorem dX7_waits_11 : decode cX7_waits 11 = .ok (.iconst (-1), 1) := by decide +kernel
theorem dX7_waits_12 : decode cX7_waits 12 = .ok (.goto 4, 3) := by decide +kernel
theorem dX7_waits_15 : decode cX7_waits 15 = .ok (.iload_n 1, 1) := by decide +kernel
theorem dX7_waits_16 : decode cX7_waits 16 = .ok (.ireturn, 1) := by decide +kernel
theorem dX7_opening_0 : decode cX7_opening 0 = .ok (.iload_n 2, 1) := by decide +kernel
theorem dX7_opening_1 : decode cX7_opening 1 = .ok (.i2l, 1) := by decide +kernel
theorem dX7_opening_2 : decode cX7_opening 2 = .ok (.lconst 0, 1) := by decide +kernel
theorem dX7_opening_3 : decode cX7_opening 3 = .ok (.ldc2_w 122, 3) := by decide +kernel
theorem dX7_opening_6 : decode cX7_opening 6 = .ok (.invokestatic 84, 3) := by decide +kernel
theorem dX7_opening_9 : decode cX7_opening 9 = .ok (.ifCond .eq 16, 3) := by decide +kernel
theorem dX7_opening_12 : decode cX7_opening 12 = .ok (.iload_n 1, 1) := by decide +kernel
theorem dX7_opening_13 : decode cX7_opening 13 = .ok (.ifCond .lt 12, 3) := by decide +kernel
theorem dX7_opening_16 : decode cX7_opening 16 = .ok (.aload_n 0, 1) := by decide +kernel
theorem dX7_opening_17 : decode cX7_opening 17 = .ok (.invokevirtual 159, 3) := by decide +kernel
theorem dX7_opening_20 : decode cX7_opening 20 = .ok (.ldc 112, 2) := by decide +kernel
theorem dX7_opening_22 : decode cX7_opening 22 = .ok (.if_icmp .lt 5, 3) := by decide +kernel
theorem dX7_opening_25 : decode cX7_opening 25 = .ok (.iconst (-1), 1) := by decide +kernel
theorem dX7_opening_26 : decode cX7_opening 26 = .ok (.ireturn, 1) := by decide +kernel
theorem dX7_opening_27 : decode cX7_opening 27 = .ok (.iconst 0, 1) := by decide +kernel
theorem dX7_opening_28 : decode cX7_opening 28 = .ok (.istore_n 3, 1) := by decide +kernel
theorem dX7_opening_29 : decode cX7_opening 29 = .ok (.iconst 0, 1) := by decide +kernel
theorem dX7_opening_30 : decode cX7_opening 30 = .ok (.istore 4, 2) := by decide +kernel
theorem dX7_opening_32 : decode cX7_opening 32 = .ok (.iconst 0, 1) := by decide +kernel
theorem dX7_opening_33 : decode cX7_opening 33 = .ok (.istore 5, 2) := by decide +kernel
theorem dX7_opening_35 : decode cX7_opening 35 = .ok (.iload_n 3, 1) := by decide +kernel
theorem dX7_opening_36 : decode cX7_opening 36 = .ok (.aload_n 0, 1) := by decide +kernel
theorem dX7_opening_37 : decode cX7_opening 37 = .ok (.getfield 131, 3) := by decide +kernel
theorem dX7_opening_40 : decode cX7_opening 40 = .ok (.if_icmp .ge 95, 3) := by decide +kernel
theorem dX7_opening_43 : decode cX7_opening 43 = .ok (.iload 4, 2) := by decide +kernel
theorem dX7_opening_45 : decode cX7_opening 45 = .ok (.istore 6, 2) := by decide +kernel
theorem dX7_opening_47 : decode cX7_opening 47 = .ok (.aload_n 0, 1) := by decide +kernel
theorem dX7_opening_48 : decode cX7_opening 48 = .ok (.iload_n 3, 1) := by decide +kernel
theorem dX7_opening_49 : decode cX7_opening 49 = .ok (.iload 6, 2) := by decide +kernel
theorem dX7_opening_51 : decode cX7_opening 51 = .ok (.invokevirtual 156, 3) := by decide +kernel
theorem dX7_opening_54 : decode cX7_opening 54 = .ok (.aload_n 0, 1) := by decide +kernel
theorem dX7_opening_55 : decode cX7_opening 55 = .ok (.iload_n 3, 1) := by decide +kernel
theorem dX7_opening_56 : decode cX7_opening 56 = .ok (.iload 4, 2) := by decide +kernel
theorem dX7_opening_58 : decode cX7_opening 58 = .ok (.invokevirtual 147, 3) := by decide +kernel
theorem dX7_opening_61 : decode cX7_opening 61 = .ok (.if_icmp .eq 9, 3) := by decide +kernel
theorem dX7_opening_64 : decode cX7_opening 64 = .ok (.iinc 6 1, 3) := by decide +kernel
theorem dX7_opening_67 : decode cX7_opening 67 = .ok (.goto (-20), 3) := by decide +kernel
theorem dX7_opening_70 : decode cX7_opening 70 = .ok (.aload_n 0, 1) := by decide +kernel
theorem dX7_opening_71 : decode cX7_opening 71 = .ok (.iload 6, 2) := by decide +kernel
theorem dX7_opening_73 : decode cX7_opening 73 = .ok (.invokevirtual 139, 3) := by decide +kernel
theorem dX7_opening_76 : decode cX7_opening 76 = .ok (.iload_n 3, 1) := by decide +kernel
theorem dX7_opening_77 : decode cX7_opening 77 = .ok (.isub, 1) := by decide +kernel
theorem dX7_opening_78 : decode cX7_opening 78 = .ok (.istore 7, 2) := by decide +kernel
theorem dX7_opening_80 : decode cX7_opening 80 = .ok (.iload 5, 2) := by decide +kernel
theorem dX7_opening_82 : decode cX7_opening 82 = .ok (.iload_n 1, 1) := by decide +kernel
theorem dX7_opening_83 : decode cX7_opening 83 = .ok (.if_icmp .ne 31, 3) := by decide +kernel
theorem dX7_opening_86 : decode cX7_opening 86 = .ok (.iload_n 2, 1) := by decide +kernel
theorem dX7_opening_87 : decode cX7_opening 87 = .ok (.ifCond .ne 8, 3) := by decide +kernel
theorem dX7_opening_90 : decode cX7_opening 90 = .ok (.iload 6, 2) := by decide +kernel
theorem dX7_opening_92 : decode cX7_opening 92 = .ok (.goto 21, 3) := by decide +kernel
theorem dX7_opening_95 : decode cX7_opening 95 = .ok (.iload_n 2, 1) := by decide +kernel
theorem dX7_opening_96 : decode cX7_opening 96 = .ok (.iconst 1, 1) := by decide +kernel
theorem dX7_opening_97 : decode cX7_opening 97 = .ok (.if_icmp .ne 8, 3) := by decide +kernel
theorem dX7_opening_100 : decode cX7_opening 100 = .ok (.iload 7, 2) := by decide +kernel
theorem dX7_opening_102 : decode cX7_opening 102 = .ok (.goto 11, 3) := by decide +kernel
theorem dX7_opening_105 : decode cX7_opening 105 = .ok (.aload_n 0, 1) := by decide +kernel
theorem dX7_opening_106 : decode cX7_opening 106 = .ok (.iload 6, 2) := by decide +kernel
theorem dX7_opening_108 : decode cX7_opening 108 = .ok (.iload 7, 2) := by decide +kernel
theorem dX7_opening_110 : decode cX7_opening 110 = .ok (.invokevirtual 143, 3) := by decide +kernel
theorem dX7_opening_113 : decode cX7_opening 113 = .ok (.ireturn, 1) := by decide +kernel
theorem dX7_opening_114 : decode cX7_opening 114 = .ok (.iload_n 3, 1) := by decide +kernel
theorem dX7_opening_115 : decode cX7_opening 115 = .ok (.iload 7, 2) := by decide +kernel
theorem dX7_opening_117 : decode cX7_opening 117 = .ok (.iadd, 1) := by decide +kernel
theorem dX7_opening_118 : decode cX7_opening 118 = .ok (.istore_n 3, 1) := by decide +kernel
theorem dX7_opening_119 : decode cX7_opening 119 = .ok (.aload_n 0, 1) := by decide +kernel
theorem dX7_opening_120 : decode cX7_opening 120 = .ok (.iload 6, 2) := by decide +kernel
theorem dX7_opening_122 : decode cX7_opening 122 = .ok (.iload 7, 2) := by decide +kernel
theorem dX7_opening_124 : decode cX7_opening 124 = .ok (.invokevirtual 143, 3) := by decide +kernel
theorem dX7_opening_127 : decode cX7_opening 127 = .ok (.istore 4, 2) := by decide +kernel
theorem dX7_opening_129 : decode cX7_opening 129 = .ok (.iinc 5 1, 3) := by decide +kernel
theorem dX7_opening_132 : decode cX7_opening 132 = .ok (.goto (-97), 3) := by decide +kernel
theorem dX7_opening_135 : decode cX7_opening 135 = .ok (.iconst (-1), 1) := by decide +kernel
theorem dX7_opening_136 : decode cX7_opening 136 = .ok (.ireturn, 1) := by decide +kernel
theorem dX7_atOnce_0 : decode cX7_atOnce 0 = .ok (.aload_n 0, 1) := by decide +kernel
theorem dX7_atOnce_1 : decode cX7_atOnce 1 = .ok (.invokevirtual 153, 3) := by decide +kernel
theorem dX7_atOnce_4 : decode cX7_atOnce 4 = .ok (.iconst 0, 1) := by decide +kernel
theorem dX7_atOnce_5 : decode cX7_atOnce 5 = .ok (.istore_n 1, 1) := by decide +kernel
theorem dX7_atOnce_6 : decode cX7_atOnce 6 = .ok (.iconst 0, 1) := by decide +kernel
theorem dX7_atOnce_7 : decode cX7_atOnce 7 = .ok (.istore_n 2, 1) := by decide +kernel
theorem dX7_atOnce_8 : decode cX7_atOnce 8 = .ok (.iconst 0, 1) := by decide +kernel
theorem dX7_atOnce_9 : decode cX7_atOnce 9 = .ok (.istore_n 3, 1) := by decide +kernel
theorem dX7_atOnce_10 : decode cX7_atOnce 10 = .ok (.iload_n 1, 1) := by decide +kernel
theorem dX7_atOnce_11 : decode cX7_atOnce 11 = .ok (.aload_n 0, 1) := by decide +kernel
theorem dX7_atOnce_12 : decode cX7_atOnce 12 = .ok (.getfield 131, 3) := by decide +kernel
theorem dX7_atOnce_15 : decode cX7_atOnce 15 = .ok (.if_icmp .ge 72, 3) := by decide +kernel
theorem dX7_atOnce_18 : decode cX7_atOnce 18 = .ok (.iload_n 2, 1) := by decide +kernel
theorem dX7_atOnce_19 : decode cX7_atOnce 19 = .ok (.aload_n 0, 1) := by decide +kernel
theorem dX7_atOnce_20 : decode cX7_atOnce 20 = .ok (.getfield 72, 3) := by decide +kernel
theorem dX7_atOnce_23 : decode cX7_atOnce 23 = .ok (.iload_n 1, 1) := by decide +kernel
theorem dX7_atOnce_24 : decode cX7_atOnce 24 = .ok (.iaload, 1) := by decide +kernel
theorem dX7_atOnce_25 : decode cX7_atOnce 25 = .ok (.if_icmp .le 7, 3) := by decide +kernel
theorem dX7_atOnce_28 : decode cX7_atOnce 28 = .ok (.iload_n 2, 1) := by decide +kernel
theorem dX7_atOnce_29 : decode cX7_atOnce 29 = .ok (.goto 9, 3) := by decide +kernel
theorem dX7_atOnce_32 : decode cX7_atOnce 32 = .ok (.aload_n 0, 1) := by decide +kernel
theorem dX7_atOnce_33 : decode cX7_atOnce 33 = .ok (.getfield 72, 3) := by decide +kernel
theorem dX7_atOnce_36 : decode cX7_atOnce 36 = .ok (.iload_n 1, 1) := by decide +kernel
theorem dX7_atOnce_37 : decode cX7_atOnce 37 = .ok (.iaload, 1) := by decide +kernel
theorem dX7_atOnce_38 : decode cX7_atOnce 38 = .ok (.istore 4, 2) := by decide +kernel
theorem dX7_atOnce_40 : decode cX7_atOnce 40 = .ok (.iload 4, 2) := by decide +kernel
theorem dX7_atOnce_42 : decode cX7_atOnce 42 = .ok (.sipush 299, 3) := by decide +kernel
theorem dX7_atOnce_45 : decode cX7_atOnce 45 = .ok (.if_icmp .le 5, 3) := by decide +kernel
theorem dX7_atOnce_48 : decode cX7_atOnce 48 = .ok (.iconst (-1), 1) := by decide +kernel
theorem dX7_atOnce_49 : decode cX7_atOnce 49 = .ok (.ireturn, 1) := by decide +kernel
theorem dX7_atOnce_50 : decode cX7_atOnce 50 = .ok (.aload_n 0, 1) := by decide +kernel
theorem dX7_atOnce_51 : decode cX7_atOnce 51 = .ok (.iload 4, 2) := by decide +kernel
theorem dX7_atOnce_53 : decode cX7_atOnce 53 = .ok (.invokevirtual 139, 3) := by decide +kernel
theorem dX7_atOnce_56 : decode cX7_atOnce 56 = .ok (.iload_n 1, 1) := by decide +kernel
theorem dX7_atOnce_57 : decode cX7_atOnce 57 = .ok (.isub, 1) := by decide +kernel
theorem dX7_atOnce_58 : decode cX7_atOnce 58 = .ok (.istore 5, 2) := by decide +kernel
theorem dX7_atOnce_60 : decode cX7_atOnce 60 = .ok (.iload_n 3, 1) := by decide +kernel
theorem dX7_atOnce_61 : decode cX7_atOnce 61 = .ok (.aload_n 0, 1) := by decide +kernel
theorem dX7_atOnce_62 : decode cX7_atOnce 62 = .ok (.iload_n 1, 1) := by decide +kernel
theorem dX7_atOnce_63 : decode cX7_atOnce 63 = .ok (.iload 4, 2) := by decide +kernel
theorem dX7_atOnce_65 : decode cX7_atOnce 65 = .ok (.invokevirtual 150, 3) := by decide +kernel
theorem dX7_atOnce_68 : decode cX7_atOnce 68 = .ok (.iadd, 1) := by decide +kernel
theorem dX7_atOnce_69 : decode cX7_atOnce 69 = .ok (.istore_n 3, 1) := by decide +kernel
theorem dX7_atOnce_70 : decode cX7_atOnce 70 = .ok (.iload_n 1, 1) := by decide +kernel
theorem dX7_atOnce_71 : decode cX7_atOnce 71 = .ok (.iload 5, 2) := by decide +kernel
theorem dX7_atOnce_73 : decode cX7_atOnce 73 = .ok (.iadd, 1) := by decide +kernel
theorem dX7_atOnce_74 : decode cX7_atOnce 74 = .ok (.istore_n 1, 1) := by decide +kernel
theorem dX7_atOnce_75 : decode cX7_atOnce 75 = .ok (.aload_n 0, 1) := by decide +kernel
theorem dX7_atOnce_76 : decode cX7_atOnce 76 = .ok (.iload 4, 2) := by decide +kernel
theorem dX7_atOnce_78 : decode cX7_atOnce 78 = .ok (.iload 5, 2) := by decide +kernel
theorem dX7_atOnce_80 : decode cX7_atOnce 80 = .ok (.invokevirtual 143, 3) := by decide +kernel
theorem dX7_atOnce_83 : decode cX7_atOnce 83 = .ok (.istore_n 2, 1) := by decide +kernel
theorem dX7_atOnce_84 : decode cX7_atOnce 84 = .ok (.goto (-74), 3) := by decide +kernel
theorem dX7_atOnce_87 : decode cX7_atOnce 87 = .ok (.iload_n 3, 1) := by decide +kernel
theorem dX7_atOnce_88 : decode cX7_atOnce 88 = .ok (.ireturn, 1) := by decide +kernel
theorem dX7_level_0 : decode cX7_level 0 = .ok (.iload_n 1, 1) := by decide +kernel
theorem dX7_level_1 : decode cX7_level 1 = .ok (.i2l, 1) := by decide +kernel
theorem dX7_level_2 : decode cX7_level 2 = .ok (.lconst 0, 1) := by decide +kernel
theorem dX7_level_3 : decode cX7_level 3 = .ok (.ldc2_w 163, 3) := by decide +kernel
theorem dX7_level_6 : decode cX7_level 6 = .ok (.invokestatic 84, 3) := by decide +kernel
theorem dX7_level_9 : decode cX7_level 9 = .ok (.ifCond .eq 33, 3) := by decide +kernel
theorem dX7_level_12 : decode cX7_level 12 = .ok (.iload_n 2, 1) := by decide +kernel
theorem dX7_level_13 : decode cX7_level 13 = .ok (.iconst (-1), 1) := by decide +kernel
theorem dX7_level_14 : decode cX7_level 14 = .ok (.if_icmp .eq 30, 3) := by decide +kernel
theorem dX7_level_17 : decode cX7_level 17 = .ok (.iload_n 2, 1) := by decide +kernel
theorem dX7_level_18 : decode cX7_level 18 = .ok (.i2l, 1) := by decide +kernel
theorem dX7_level_19 : decode cX7_level 19 = .ok (.lconst 0, 1) := by decide +kernel
theorem dX7_level_20 : decode cX7_level 20 = .ok (.ldc2_w 165, 3) := by decide +kernel
theorem dX7_level_23 : decode cX7_level 23 = .ok (.invokestatic 84, 3) := by decide +kernel
theorem dX7_level_26 : decode cX7_level 26 = .ok (.ifCond .eq 16, 3) := by decide +kernel
theorem dX7_level_29 : decode cX7_level 29 = .ok (.iload_n 3, 1) := by decide +kernel
theorem dX7_level_30 : decode cX7_level 30 = .ok (.i2l, 1) := by decide +kernel
theorem dX7_level_31 : decode cX7_level 31 = .ok (.iload_n 2, 1) := by decide +kernel
theorem dX7_level_32 : decode cX7_level 32 = .ok (.i2l, 1) := by decide +kernel
theorem dX7_level_33 : decode cX7_level 33 = .ok (.ldc2_w 165, 3) := by decide +kernel
theorem dX7_level_36 : decode cX7_level 36 = .ok (.invokestatic 84, 3) := by decide +kernel
theorem dX7_level_39 : decode cX7_level 39 = .ok (.ifCond .ne 5, 3) := by decide +kernel
theorem dX7_level_42 : decode cX7_level 42 = .ok (.iconst 0, 1) := by decide +kernel
theorem dX7_level_43 : decode cX7_level 43 = .ok (.ireturn, 1) := by decide +kernel
theorem dX7_level_44 : decode cX7_level 44 = .ok (.aload_n 0, 1) := by decide +kernel
theorem dX7_level_45 : decode cX7_level 45 = .ok (.getfield 34, 3) := by decide +kernel
theorem dX7_level_48 : decode cX7_level 48 = .ok (.iload_n 1, 1) := by decide +kernel
theorem dX7_level_49 : decode cX7_level 49 = .ok (.iload_n 2, 1) := by decide +kernel
theorem dX7_level_50 : decode cX7_level 50 = .ok (.iastore, 1) := by decide +kernel
theorem dX7_level_51 : decode cX7_level 51 = .ok (.aload_n 0, 1) := by decide +kernel
theorem dX7_level_52 : decode cX7_level 52 = .ok (.getfield 37, 3) := by decide +kernel
theorem dX7_level_55 : decode cX7_level 55 = .ok (.iload_n 1, 1) := by decide +kernel
theorem dX7_level_56 : decode cX7_level 56 = .ok (.iload_n 3, 1) := by decide +kernel
theorem dX7_level_57 : decode cX7_level 57 = .ok (.iastore, 1) := by decide +kernel
theorem dX7_level_58 : decode cX7_level 58 = .ok (.iconst 1, 1) := by decide +kernel
theorem dX7_level_59 : decode cX7_level 59 = .ok (.ireturn, 1) := by decide +kernel
theorem dX7_flood_0 : decode cX7_flood 0 = .ok (.iload_n 1, 1) := by decide +kernel
theorem dX7_flood_1 : decode cX7_flood 1 = .ok (.i2l, 1) := by decide +kernel
theorem dX7_flood_2 : decode cX7_flood 2 = .ok (.lconst 0, 1) := by decide +kernel
theorem dX7_flood_3 : decode cX7_flood 3 = .ok (.ldc2_w 165, 3) := by decide +kernel
theorem dX7_flood_6 : decode cX7_flood 6 = .ok (.invokestatic 84, 3) := by decide +kernel
theorem dX7_flood_9 : decode cX7_flood 9 = .ok (.ifCond .eq 15, 3) := by decide +kernel
theorem dX7_flood_12 : decode cX7_flood 12 = .ok (.iload_n 2, 1) := by decide +kernel
theorem dX7_flood_13 : decode cX7_flood 13 = .ok (.i2l, 1) := by decide +kernel
theorem dX7_flood_14 : decode cX7_flood 14 = .ok (.lconst 1, 1) := by decide +kernel
theorem dX7_flood_15 : decode cX7_flood 15 = .ok (.ldc2_w 94, 3) := by decide +kernel
theorem dX7_flood_18 : decode cX7_flood 18 = .ok (.invokestatic 84, 3) := by decide +kernel
theorem dX7_flood_21 : decode cX7_flood 21 = .ok (.ifCond .ne 5, 3) := by decide +kernel
theorem dX7_flood_24 : decode cX7_flood 24 = .ok (.iconst 0, 1) := by decide +kernel
theorem dX7_flood_25 : decode cX7_flood 25 = .ok (.ireturn, 1) := by decide +kernel
theorem dX7_flood_26 : decode cX7_flood 26 = .ok (.aload_n 0, 1) := by decide +kernel
theorem dX7_flood_27 : decode cX7_flood 27 = .ok (.iload_n 1, 1) := by decide +kernel
theorem dX7_flood_28 : decode cX7_flood 28 = .ok (.putfield 40, 3) := by decide +kernel
theorem dX7_flood_31 : decode cX7_flood 31 = .ok (.aload_n 0, 1) := by decide +kernel
theorem dX7_flood_32 : decode cX7_flood 32 = .ok (.iload_n 2, 1) := by decide +kernel
theorem dX7_flood_33 : decode cX7_flood 33 = .ok (.putfield 44, 3) := by decide +kernel
theorem dX7_flood_36 : decode cX7_flood 36 = .ok (.iconst 1, 1) := by decide +kernel
theorem dX7_flood_37 : decode cX7_flood 37 = .ok (.ireturn, 1) := by decide +kernel
theorem dX7_isBad_0 : decode cX7_isBad 0 = .ok (.aload_n 0, 1) := by decide +kernel
theorem dX7_isBad_1 : decode cX7_isBad 1 = .ok (.getfield 34, 3) := by decide +kernel
theorem dX7_isBad_4 : decode cX7_isBad 4 = .ok (.iload_n 1, 1) := by decide +kernel
theorem dX7_isBad_5 : decode cX7_isBad 5 = .ok (.iaload, 1) := by decide +kernel
theorem dX7_isBad_6 : decode cX7_isBad 6 = .ok (.iconst (-1), 1) := by decide +kernel
theorem dX7_isBad_7 : decode cX7_isBad 7 = .ok (.if_icmp .eq 16, 3) := by decide +kernel
theorem dX7_isBad_10 : decode cX7_isBad 10 = .ok (.aload_n 0, 1) := by decide +kernel
theorem dX7_isBad_11 : decode cX7_isBad 11 = .ok (.getfield 37, 3) := by decide +kernel
theorem dX7_isBad_14 : decode cX7_isBad 14 = .ok (.iload_n 1, 1) := by decide +kernel
theorem dX7_isBad_15 : decode cX7_isBad 15 = .ok (.iaload, 1) := by decide +kernel
theorem dX7_isBad_16 : decode cX7_isBad 16 = .ok (.aload_n 0, 1) := by decide +kernel
theorem dX7_isBad_17 : decode cX7_isBad 17 = .ok (.getfield 40, 3) := by decide +kernel
theorem dX7_isBad_20 : decode cX7_isBad 20 = .ok (.if_icmp .le 7, 3) := by decide +kernel
theorem dX7_isBad_23 : decode cX7_isBad 23 = .ok (.iconst 1, 1) := by decide +kernel
theorem dX7_isBad_24 : decode cX7_isBad 24 = .ok (.goto 4, 3) := by decide +kernel
theorem dX7_isBad_27 : decode cX7_isBad 27 = .ok (.iconst 0, 1) := by decide +kernel
theorem dX7_isBad_28 : decode cX7_isBad 28 = .ok (.ireturn, 1) := by decide +kernel
theorem dX7_from_0 : decode cX7_from 0 = .ok (.iload_n 1, 1) := by decide +kernel
theorem dX7_from_1 : decode cX7_from 1 = .ok (.bipush 60, 2) := by decide +kernel
theorem dX7_from_3 : decode cX7_from 3 = .ok (.if_icmp .ne 7, 3) := by decide +kernel
theorem dX7_from_6 : decode cX7_from 6 = .ok (.iconst 0, 1) := by decide +kernel
theorem dX7_from_7 : decode cX7_from 7 = .ok (.goto 14, 3) := by decide +kernel
theorem dX7_from_10 : decode cX7_from 10 = .ok (.aload_n 0, 1) := by decide +kernel
theorem dX7_from_11 : decode cX7_from 11 = .ok (.getfield 78, 3) := by decide +kernel
theorem dX7_from_14 : decode cX7_from 14 = .ok (.bipush 10, 2) := by decide +kernel
theorem dX7_from_16 : decode cX7_from 16 = .ok (.iload_n 1, 1) := by decide +kernel
theorem dX7_from_17 : decode cX7_from 17 = .ok (.imul, 1) := by decide +kernel
theorem dX7_from_18 : decode cX7_from 18 = .ok (.iload_n 2, 1) := by decide +kernel
theorem dX7_from_19 : decode cX7_from 19 = .ok (.iadd, 1) := by decide +kernel
theorem dX7_from_20 : decode cX7_from 20 = .ok (.iaload, 1) := by decide +kernel
theorem dX7_from_21 : decode cX7_from 21 = .ok (.ireturn, 1) := by decide +kernel
theorem dX7_goes_0 : decode cX7_goes 0 = .ok (.iload_n 3, 1) := by decide +kernel
theorem dX7_goes_1 : decode cX7_goes 1 = .ok (.ifCond .ne 37, 3) := by decide +kernel
theorem dX7_goes_4 : decode cX7_goes 4 = .ok (.aload_n 0, 1) := by decide +kernel
theorem dX7_goes_5 : decode cX7_goes 5 = .ok (.iload_n 1, 1) := by decide +kernel
theorem dX7_goes_6 : decode cX7_goes 6 = .ok (.invokevirtual 167, 3) := by decide +kernel
theorem dX7_goes_9 : decode cX7_goes 9 = .ok (.ifCond .ne 15, 3) := by decide +kernel
theorem dX7_goes_12 : decode cX7_goes 12 = .ok (.iload_n 2, 1) := by decide +kernel
theorem dX7_goes_13 : decode cX7_goes 13 = .ok (.ifCond .le 16, 3) := by decide +kernel
theorem dX7_goes_16 : decode cX7_goes 16 = .ok (.iload_n 2, 1) := by decide +kernel
theorem dX7_goes_17 : decode cX7_goes 17 = .ok (.aload_n 0, 1) := by decide +kernel
theorem dX7_goes_18 : decode cX7_goes 18 = .ok (.getfield 44, 3) := by decide +kernel
theorem dX7_goes_21 : decode cX7_goes 21 = .ok (.if_icmp .ge 8, 3) := by decide +kernel
theorem dX7_goes_24 : decode cX7_goes 24 = .ok (.ldc 112, 2) := by decide +kernel
theorem dX7_goes_26 : decode cX7_goes 26 = .ok (.goto 11, 3) := by decide +kernel
theorem dX7_goes_29 : decode cX7_goes 29 = .ok (.aload_n 0, 1) := by decide +kernel
theorem dX7_goes_30 : decode cX7_goes 30 = .ok (.iload_n 1, 1) := by decide +kernel
theorem dX7_goes_31 : decode cX7_goes 31 = .ok (.iconst 1, 1) := by decide +kernel
theorem dX7_goes_32 : decode cX7_goes 32 = .ok (.iadd, 1) := by decide +kernel
theorem dX7_goes_33 : decode cX7_goes 33 = .ok (.iconst 0, 1) := by decide +kernel
theorem dX7_goes_34 : decode cX7_goes 34 = .ok (.invokevirtual 170, 3) := by decide +kernel
theorem dX7_goes_37 : decode cX7_goes 37 = .ok (.ireturn, 1) := by decide +kernel
theorem dX7_goes_38 : decode cX7_goes 38 = .ok (.aload_n 0, 1) := by decide +kernel
theorem dX7_goes_39 : decode cX7_goes 39 = .ok (.iload_n 1, 1) := by decide +kernel
theorem dX7_goes_40 : decode cX7_goes 40 = .ok (.iconst 1, 1) := by decide +kernel
theorem dX7_goes_41 : decode cX7_goes 41 = .ok (.iadd, 1) := by decide +kernel
theorem dX7_goes_42 : decode cX7_goes 42 = .ok (.iload_n 2, 1) := by decide +kernel
theorem dX7_goes_43 : decode cX7_goes 43 = .ok (.aload_n 0, 1) := by decide +kernel
theorem dX7_goes_44 : decode cX7_goes 44 = .ok (.getfield 44, 3) := by decide +kernel
theorem dX7_goes_47 : decode cX7_goes 47 = .ok (.if_icmp .ge 9, 3) := by decide +kernel
theorem dX7_goes_50 : decode cX7_goes 50 = .ok (.iload_n 2, 1) := by decide +kernel
theorem dX7_goes_51 : decode cX7_goes 51 = .ok (.iconst 1, 1) := by decide +kernel
theorem dX7_goes_52 : decode cX7_goes 52 = .ok (.iadd, 1) := by decide +kernel
theorem dX7_goes_53 : decode cX7_goes 53 = .ok (.goto 7, 3) := by decide +kernel
theorem dX7_goes_56 : decode cX7_goes 56 = .ok (.aload_n 0, 1) := by decide +kernel
theorem dX7_goes_57 : decode cX7_goes 57 = .ok (.getfield 44, 3) := by decide +kernel
theorem dX7_goes_60 : decode cX7_goes 60 = .ok (.invokevirtual 170, 3) := by decide +kernel
theorem dX7_goes_63 : decode cX7_goes 63 = .ok (.istore 4, 2) := by decide +kernel
theorem dX7_goes_65 : decode cX7_goes 65 = .ok (.iload 4, 2) := by decide +kernel
theorem dX7_goes_67 : decode cX7_goes 67 = .ok (.ldc 112, 2) := by decide +kernel
theorem dX7_goes_69 : decode cX7_goes 69 = .ok (.if_icmp .lt 8, 3) := by decide +kernel
theorem dX7_goes_72 : decode cX7_goes 72 = .ok (.ldc 112, 2) := by decide +kernel
theorem dX7_goes_74 : decode cX7_goes 74 = .ok (.goto 7, 3) := by decide +kernel
theorem dX7_goes_77 : decode cX7_goes 77 = .ok (.iload 4, 2) := by decide +kernel
theorem dX7_goes_79 : decode cX7_goes 79 = .ok (.iconst 1, 1) := by decide +kernel
theorem dX7_goes_80 : decode cX7_goes 80 = .ok (.iadd, 1) := by decide +kernel
theorem dX7_goes_81 : decode cX7_goes 81 = .ok (.ireturn, 1) := by decide +kernel
theorem dX7_fewestOut_0 : decode cX7_fewestOut 0 = .ok (.bipush 59, 2) := by decide +kernel
theorem dX7_fewestOut_2 : decode cX7_fewestOut 2 = .ok (.istore_n 1, 1) := by decide +kernel
theorem dX7_fewestOut_3 : decode cX7_fewestOut 3 = .ok (.iload_n 1, 1) := by decide +kernel
theorem dX7_fewestOut_4 : decode cX7_fewestOut 4 = .ok (.ifCond .lt 65, 3) := by decide +kernel
theorem dX7_fewestOut_7 : decode cX7_fewestOut 7 = .ok (.iconst 0, 1) := by decide +kernel
theorem dX7_fewestOut_8 : decode cX7_fewestOut 8 = .ok (.istore_n 2, 1) := by decide +kernel
theorem dX7_fewestOut_9 : decode cX7_fewestOut 9 = .ok (.iload_n 2, 1) := by decide +kernel
theorem dX7_fewestOut_10 : decode cX7_fewestOut 10 = .ok (.aload_n 0, 1) := by decide +kernel
theorem dX7_fewestOut_11 : decode cX7_fewestOut 11 = .ok (.getfield 44, 3) := by decide +kernel
theorem dX7_fewestOut_14 : decode cX7_fewestOut 14 = .ok (.if_icmp .gt 49, 3) := by decide +kernel
theorem dX7_fewestOut_17 : decode cX7_fewestOut 17 = .ok (.aload_n 0, 1) := by decide +kernel
theorem dX7_fewestOut_18 : decode cX7_fewestOut 18 = .ok (.iload_n 1, 1) := by decide +kernel
theorem dX7_fewestOut_19 : decode cX7_fewestOut 19 = .ok (.iload_n 2, 1) := by decide +kernel
theorem dX7_fewestOut_20 : decode cX7_fewestOut 20 = .ok (.iconst 0, 1) := by decide +kernel
theorem dX7_fewestOut_21 : decode cX7_fewestOut 21 = .ok (.invokevirtual 173, 3) := by decide +kernel
theorem dX7_fewestOut_24 : decode cX7_fewestOut 24 = .ok (.istore_n 3, 1) := by decide +kernel
theorem dX7_fewestOut_25 : decode cX7_fewestOut 25 = .ok (.aload_n 0, 1) := by decide +kernel
theorem dX7_fewestOut_26 : decode cX7_fewestOut 26 = .ok (.iload_n 1, 1) := by decide +kernel
theorem dX7_fewestOut_27 : decode cX7_fewestOut 27 = .ok (.iload_n 2, 1) := by decide +kernel
theorem dX7_fewestOut_28 : decode cX7_fewestOut 28 = .ok (.iconst 1, 1) := by decide +kernel
theorem dX7_fewestOut_29 : decode cX7_fewestOut 29 = .ok (.invokevirtual 173, 3) := by decide +kernel
theorem dX7_fewestOut_32 : decode cX7_fewestOut 32 = .ok (.istore 4, 2) := by decide +kernel
theorem dX7_fewestOut_34 : decode cX7_fewestOut 34 = .ok (.aload_n 0, 1) := by decide +kernel
theorem dX7_fewestOut_35 : decode cX7_fewestOut 35 = .ok (.getfield 78, 3) := by decide +kernel
theorem dX7_fewestOut_38 : decode cX7_fewestOut 38 = .ok (.bipush 10, 2) := by decide +kernel
theorem dX7_fewestOut_40 : decode cX7_fewestOut 40 = .ok (.iload_n 1, 1) := by decide +kernel
theorem dX7_fewestOut_41 : decode cX7_fewestOut 41 = .ok (.imul, 1) := by decide +kernel
theorem dX7_fewestOut_42 : decode cX7_fewestOut 42 = .ok (.iload_n 2, 1) := by decide +kernel
theorem dX7_fewestOut_43 : decode cX7_fewestOut 43 = .ok (.iadd, 1) := by decide +kernel
theorem dX7_fewestOut_44 : decode cX7_fewestOut 44 = .ok (.iload_n 3, 1) := by decide +kernel
theorem dX7_fewestOut_45 : decode cX7_fewestOut 45 = .ok (.iload 4, 2) := by decide +kernel
theorem dX7_fewestOut_47 : decode cX7_fewestOut 47 = .ok (.if_icmp .ge 7, 3) := by decide +kernel
theorem dX7_fewestOut_50 : decode cX7_fewestOut 50 = .ok (.iload_n 3, 1) := by decide +kernel
theorem dX7_fewestOut_51 : decode cX7_fewestOut 51 = .ok (.goto 5, 3) := by decide +kernel
theorem dX7_fewestOut_54 : decode cX7_fewestOut 54 = .ok (.iload 4, 2) := by decide +kernel
theorem dX7_fewestOut_56 : decode cX7_fewestOut 56 = .ok (.iastore, 1) := by decide +kernel
theorem dX7_fewestOut_57 : decode cX7_fewestOut 57 = .ok (.iinc 2 1, 3) := by decide +kernel
theorem dX7_fewestOut_60 : decode cX7_fewestOut 60 = .ok (.goto (-51), 3) := by decide +kernel
theorem dX7_fewestOut_63 : decode cX7_fewestOut 63 = .ok (.iinc 1 (-1), 3) := by decide +kernel
theorem dX7_fewestOut_66 : decode cX7_fewestOut 66 = .ok (.goto (-63), 3) := by decide +kernel
theorem dX7_fewestOut_69 : decode cX7_fewestOut 69 = .ok (.aload_n 0, 1) := by decide +kernel
theorem dX7_fewestOut_70 : decode cX7_fewestOut 70 = .ok (.iconst 0, 1) := by decide +kernel
theorem dX7_fewestOut_71 : decode cX7_fewestOut 71 = .ok (.iconst 0, 1) := by decide +kernel
theorem dX7_fewestOut_72 : decode cX7_fewestOut 72 = .ok (.invokevirtual 170, 3) := by decide +kernel
theorem dX7_fewestOut_75 : decode cX7_fewestOut 75 = .ok (.ireturn, 1) := by decide +kernel
theorem dX7_out_0 : decode cX7_out 0 = .ok (.aload_n 0, 1) := by decide +kernel
theorem dX7_out_1 : decode cX7_out 1 = .ok (.invokevirtual 177, 3) := by decide +kernel
theorem dX7_out_4 : decode cX7_out 4 = .ok (.ireturn, 1) := by decide +kernel
theorem dX7_outOn_0 : decode cX7_outOn 0 = .ok (.iload_n 1, 1) := by decide +kernel
theorem dX7_outOn_1 : decode cX7_outOn 1 = .ok (.i2l, 1) := by decide +kernel
theorem dX7_outOn_2 : decode cX7_outOn 2 = .ok (.lconst 0, 1) := by decide +kernel
theorem dX7_outOn_3 : decode cX7_outOn 3 = .ok (.ldc2_w 163, 3) := by decide +kernel
theorem dX7_outOn_6 : decode cX7_outOn 6 = .ok (.invokestatic 84, 3) := by decide +kernel
theorem dX7_outOn_9 : decode cX7_outOn 9 = .ok (.ifCond .eq 13, 3) := by decide +kernel
theorem dX7_outOn_12 : decode cX7_outOn 12 = .ok (.iload_n 2, 1) := by decide +kernel
theorem dX7_outOn_13 : decode cX7_outOn 13 = .ok (.i2l, 1) := by decide +kernel
theorem dX7_outOn_14 : decode cX7_outOn 14 = .ok (.lconst 0, 1) := by decide +kernel
theorem dX7_outOn_15 : decode cX7_outOn 15 = .ok (.lconst 1, 1) := by decide +kernel
theorem dX7_outOn_16 : decode cX7_outOn 16 = .ok (.invokestatic 84, 3) := by decide +kernel
theorem dX7_outOn_19 : decode cX7_outOn 19 = .ok (.ifCond .ne 5, 3) := by decide +kernel
theorem dX7_outOn_22 : decode cX7_outOn 22 = .ok (.iconst (-1), 1) := by decide +kernel
theorem dX7_outOn_23 : decode cX7_outOn 23 = .ok (.ireturn, 1) := by decide +kernel
theorem dX7_outOn_24 : decode cX7_outOn 24 = .ok (.iload_n 2, 1) := by decide +kernel
theorem dX7_outOn_25 : decode cX7_outOn 25 = .ok (.iconst 1, 1) := by decide +kernel
theorem dX7_outOn_26 : decode cX7_outOn 26 = .ok (.if_icmp .ne 17, 3) := by decide +kernel
theorem dX7_outOn_29 : decode cX7_outOn 29 = .ok (.aload_n 0, 1) := by decide +kernel
theorem dX7_outOn_30 : decode cX7_outOn 30 = .ok (.iload_n 1, 1) := by decide +kernel
theorem dX7_outOn_31 : decode cX7_outOn 31 = .ok (.invokevirtual 167, 3) := by decide +kernel
theorem dX7_outOn_34 : decode cX7_outOn 34 = .ok (.ifCond .eq 7, 3) := by decide +kernel
theorem dX7_outOn_37 : decode cX7_outOn 37 = .ok (.iconst 1, 1) := by decide +kernel
theorem dX7_outOn_38 : decode cX7_outOn 38 = .ok (.goto 4, 3) := by decide +kernel
theorem dX7_outOn_41 : decode cX7_outOn 41 = .ok (.iconst 0, 1) := by decide +kernel
theorem dX7_outOn_42 : decode cX7_outOn 42 = .ok (.ireturn, 1) := by decide +kernel
theorem dX7_outOn_43 : decode cX7_outOn 43 = .ok (.aload_n 0, 1) := by decide +kernel
theorem dX7_outOn_44 : decode cX7_outOn 44 = .ok (.invokevirtual 177, 3) := by decide +kernel
theorem dX7_outOn_47 : decode cX7_outOn 47 = .ok (.istore_n 3, 1) := by decide +kernel
theorem dX7_outOn_48 : decode cX7_outOn 48 = .ok (.iconst 0, 1) := by decide +kernel
theorem dX7_outOn_49 : decode cX7_outOn 49 = .ok (.istore 4, 2) := by decide +kernel
theorem dX7_outOn_51 : decode cX7_outOn 51 = .ok (.iconst 0, 1) := by decide +kernel
theorem dX7_outOn_52 : decode cX7_outOn 52 = .ok (.istore 5, 2) := by decide +kernel
theorem dX7_outOn_54 : decode cX7_outOn 54 = .ok (.iconst 0, 1) := by decide +kernel
theorem dX7_outOn_55 : decode cX7_outOn 55 = .ok (.istore 6, 2) := by decide +kernel
theorem dX7_outOn_57 : decode cX7_outOn 57 = .ok (.iload 6, 2) := by decide +kernel
theorem dX7_outOn_59 : decode cX7_outOn 59 = .ok (.iload_n 1, 1) := by decide +kernel
theorem dX7_outOn_60 : decode cX7_outOn 60 = .ok (.if_icmp .gt 67, 3) := by decide +kernel
theorem dX7_outOn_63 : decode cX7_outOn 63 = .ok (.aload_n 0, 1) := by decide +kernel
theorem dX7_outOn_64 : decode cX7_outOn 64 = .ok (.iload 6, 2) := by decide +kernel
theorem dX7_outOn_66 : decode cX7_outOn 66 = .ok (.iload 4, 2) := by decide +kernel
theorem dX7_outOn_68 : decode cX7_outOn 68 = .ok (.iconst 0, 1) := by decide +kernel
theorem dX7_outOn_69 : decode cX7_outOn 69 = .ok (.invokevirtual 173, 3) := by decide +kernel
theorem dX7_outOn_72 : decode cX7_outOn 72 = .ok (.aload_n 0, 1) := by decide +kernel
theorem dX7_outOn_73 : decode cX7_outOn 73 = .ok (.iload 6, 2) := by decide +kernel
theorem dX7_outOn_75 : decode cX7_outOn 75 = .ok (.iload 4, 2) := by decide +kernel
theorem dX7_outOn_77 : decode cX7_outOn 77 = .ok (.invokevirtual 170, 3) := by decide +kernel
theorem dX7_outOn_80 : decode cX7_outOn 80 = .ok (.if_icmp .eq 7, 3) := by decide +kernel
theorem dX7_outOn_83 : decode cX7_outOn 83 = .ok (.iconst 1, 1) := by decide +kernel
theorem dX7_outOn_84 : decode cX7_outOn 84 = .ok (.goto 4, 3) := by decide +kernel
theorem dX7_outOn_87 : decode cX7_outOn 87 = .ok (.iconst 0, 1) := by decide +kernel
theorem dX7_outOn_88 : decode cX7_outOn 88 = .ok (.istore 5, 2) := by decide +kernel
theorem dX7_outOn_90 : decode cX7_outOn 90 = .ok (.iload 5, 2) := by decide +kernel
theorem dX7_outOn_92 : decode cX7_outOn 92 = .ok (.ifCond .eq 26, 3) := by decide +kernel
theorem dX7_outOn_95 : decode cX7_outOn 95 = .ok (.iload 4, 2) := by decide +kernel
theorem dX7_outOn_97 : decode cX7_outOn 97 = .ok (.aload_n 0, 1) := by decide +kernel
theorem dX7_outOn_98 : decode cX7_outOn 98 = .ok (.getfield 44, 3) := by decide +kernel
theorem dX7_outOn_101 : decode cX7_outOn 101 = .ok (.if_icmp .ge 10, 3) := by decide +kernel
theorem dX7_outOn_104 : decode cX7_outOn 104 = .ok (.iload 4, 2) := by decide +kernel
theorem dX7_outOn_106 : decode cX7_outOn 106 = .ok (.iconst 1, 1) := by decide +kernel
theorem dX7_outOn_107 : decode cX7_outOn 107 = .ok (.iadd, 1) := by decide +kernel
theorem dX7_outOn_108 : decode cX7_outOn 108 = .ok (.goto 11, 3) := by decide +kernel
theorem dX7_outOn_111 : decode cX7_outOn 111 = .ok (.aload_n 0, 1) := by decide +kernel
theorem dX7_outOn_112 : decode cX7_outOn 112 = .ok (.getfield 44, 3) := by decide +kernel
theorem dX7_outOn_115 : decode cX7_outOn 115 = .ok (.goto 4, 3) := by decide +kernel
theorem dX7_outOn_118 : decode cX7_outOn 118 = .ok (.iconst 0, 1) := by decide +kernel
theorem dX7_outOn_119 : decode cX7_outOn 119 = .ok (.istore 4, 2) := by decide +kernel
theorem dX7_outOn_121 : decode cX7_outOn 121 = .ok (.iinc 6 1, 3) := by decide +kernel
theorem dX7_outOn_124 : decode cX7_outOn 124 = .ok (.goto (-67), 3) := by decide +kernel
theorem dX7_outOn_127 : decode cX7_outOn 127 = .ok (.iload 5, 2) := by decide +kernel
theorem dX7_outOn_129 : decode cX7_outOn 129 = .ok (.ifCond .eq 7, 3) := by decide +kernel
theorem dX7_outOn_132 : decode cX7_outOn 132 = .ok (.iconst 1, 1) := by decide +kernel
theorem dX7_outOn_133 : decode cX7_outOn 133 = .ok (.goto 4, 3) := by decide +kernel
theorem dX7_outOn_136 : decode cX7_outOn 136 = .ok (.iconst 0, 1) := by decide +kernel
theorem dX7_outOn_137 : decode cX7_outOn 137 = .ok (.ireturn, 1) := by decide +kernel
theorem dX7_put_0 : decode cX7_put 0 = .ok (.aload_n 0, 1) := by decide +kernel
theorem dX7_put_1 : decode cX7_put 1 = .ok (.getfield 47, 3) := by decide +kernel
theorem dX7_put_4 : decode cX7_put 4 = .ok (.aload_n 0, 1) := by decide +kernel
theorem dX7_put_5 : decode cX7_put 5 = .ok (.getfield 180, 3) := by decide +kernel
theorem dX7_put_8 : decode cX7_put 8 = .ok (.iload_n 1, 1) := by decide +kernel
theorem dX7_put_9 : decode cX7_put 9 = .ok (.bipush 24, 2) := by decide +kernel
theorem dX7_put_11 : decode cX7_put 11 = .ok (.ishr, 1) := by decide +kernel
theorem dX7_put_12 : decode cX7_put 12 = .ok (.i2b, 1) := by decide +kernel
theorem dX7_put_13 : decode cX7_put 13 = .ok (.bastore, 1) := by decide +kernel
theorem dX7_put_14 : decode cX7_put 14 = .ok (.aload_n 0, 1) := by decide +kernel
theorem dX7_put_15 : decode cX7_put 15 = .ok (.getfield 47, 3) := by decide +kernel
theorem dX7_put_18 : decode cX7_put 18 = .ok (.aload_n 0, 1) := by decide +kernel
theorem dX7_put_19 : decode cX7_put 19 = .ok (.getfield 180, 3) := by decide +kernel
theorem dX7_put_22 : decode cX7_put 22 = .ok (.iconst 1, 1) := by decide +kernel
theorem dX7_put_23 : decode cX7_put 23 = .ok (.iadd, 1) := by decide +kernel
theorem dX7_put_24 : decode cX7_put 24 = .ok (.iload_n 1, 1) := by decide +kernel
theorem dX7_put_25 : decode cX7_put 25 = .ok (.bipush 16, 2) := by decide +kernel
theorem dX7_put_27 : decode cX7_put 27 = .ok (.ishr, 1) := by decide +kernel
theorem dX7_put_28 : decode cX7_put 28 = .ok (.i2b, 1) := by decide +kernel
theorem dX7_put_29 : decode cX7_put 29 = .ok (.bastore, 1) := by decide +kernel
theorem dX7_put_30 : decode cX7_put 30 = .ok (.aload_n 0, 1) := by decide +kernel
theorem dX7_put_31 : decode cX7_put 31 = .ok (.getfield 47, 3) := by decide +kernel
theorem dX7_put_34 : decode cX7_put 34 = .ok (.aload_n 0, 1) := by decide +kernel
theorem dX7_put_35 : decode cX7_put 35 = .ok (.getfield 180, 3) := by decide +kernel
theorem dX7_put_38 : decode cX7_put 38 = .ok (.iconst 2, 1) := by decide +kernel
theorem dX7_put_39 : decode cX7_put 39 = .ok (.iadd, 1) := by decide +kernel
theorem dX7_put_40 : decode cX7_put 40 = .ok (.iload_n 1, 1) := by decide +kernel
theorem dX7_put_41 : decode cX7_put 41 = .ok (.bipush 8, 2) := by decide +kernel
theorem dX7_put_43 : decode cX7_put 43 = .ok (.ishr, 1) := by decide +kernel
theorem dX7_put_44 : decode cX7_put 44 = .ok (.i2b, 1) := by decide +kernel
theorem dX7_put_45 : decode cX7_put 45 = .ok (.bastore, 1) := by decide +kernel
theorem dX7_put_46 : decode cX7_put 46 = .ok (.aload_n 0, 1) := by decide +kernel
theorem dX7_put_47 : decode cX7_put 47 = .ok (.getfield 47, 3) := by decide +kernel
theorem dX7_put_50 : decode cX7_put 50 = .ok (.aload_n 0, 1) := by decide +kernel
theorem dX7_put_51 : decode cX7_put 51 = .ok (.getfield 180, 3) := by decide +kernel
theorem dX7_put_54 : decode cX7_put 54 = .ok (.iconst 3, 1) := by decide +kernel
theorem dX7_put_55 : decode cX7_put 55 = .ok (.iadd, 1) := by decide +kernel
theorem dX7_put_56 : decode cX7_put 56 = .ok (.iload_n 1, 1) := by decide +kernel
theorem dX7_put_57 : decode cX7_put 57 = .ok (.i2b, 1) := by decide +kernel
theorem dX7_put_58 : decode cX7_put 58 = .ok (.bastore, 1) := by decide +kernel
theorem dX7_put_59 : decode cX7_put 59 = .ok (.aload_n 0, 1) := by decide +kernel
theorem dX7_put_60 : decode cX7_put 60 = .ok (.dup, 1) := by decide +kernel
theorem dX7_put_61 : decode cX7_put 61 = .ok (.getfield 180, 3) := by decide +kernel
theorem dX7_put_64 : decode cX7_put 64 = .ok (.iconst 4, 1) := by decide +kernel
theorem dX7_put_65 : decode cX7_put 65 = .ok (.iadd, 1) := by decide +kernel
theorem dX7_put_66 : decode cX7_put 66 = .ok (.putfield 180, 3) := by decide +kernel
theorem dX7_put_69 : decode cX7_put 69 = .ok (.return_, 1) := by decide +kernel
theorem dX7_feed_0 : decode cX7_feed 0 = .ok (.aload_n 0, 1) := by decide +kernel
theorem dX7_feed_1 : decode cX7_feed 1 = .ok (.getfield 180, 3) := by decide +kernel
theorem dX7_feed_4 : decode cX7_feed 4 = .ok (.bipush 20, 2) := by decide +kernel
theorem dX7_feed_6 : decode cX7_feed 6 = .ok (.iadd, 1) := by decide +kernel
theorem dX7_feed_7 : decode cX7_feed 7 = .ok (.sipush 200, 3) := by decide +kernel
theorem dX7_feed_10 : decode cX7_feed 10 = .ok (.if_icmp .le 5, 3) := by decide +kernel
theorem dX7_feed_13 : decode cX7_feed 13 = .ok (.iconst (-1), 1) := by decide +kernel
theorem dX7_feed_14 : decode cX7_feed 14 = .ok (.ireturn, 1) := by decide +kernel
theorem dX7_feed_15 : decode cX7_feed 15 = .ok (.aload_n 0, 1) := by decide +kernel
theorem dX7_feed_16 : decode cX7_feed 16 = .ok (.iload_n 1, 1) := by decide +kernel
theorem dX7_feed_17 : decode cX7_feed 17 = .ok (.invokevirtual 183, 3) := by decide +kernel
theorem dX7_feed_20 : decode cX7_feed 20 = .ok (.aload_n 0, 1) := by decide +kernel
theorem dX7_feed_21 : decode cX7_feed 21 = .ok (.iload_n 2, 1) := by decide +kernel
theorem dX7_feed_22 : decode cX7_feed 22 = .ok (.invokevirtual 183, 3) := by decide +kernel
theorem dX7_feed_25 : decode cX7_feed 25 = .ok (.aload_n 0, 1) := by decide +kernel
theorem dX7_feed_26 : decode cX7_feed 26 = .ok (.iload_n 3, 1) := by decide +kernel
theorem dX7_feed_27 : decode cX7_feed 27 = .ok (.invokevirtual 183, 3) := by decide +kernel
theorem dX7_feed_30 : decode cX7_feed 30 = .ok (.aload_n 0, 1) := by decide +kernel
theorem dX7_feed_31 : decode cX7_feed 31 = .ok (.iload 4, 2) := by decide +kernel
theorem dX7_feed_33 : decode cX7_feed 33 = .ok (.invokevirtual 183, 3) := by decide +kernel
theorem dX7_feed_36 : decode cX7_feed 36 = .ok (.aload_n 0, 1) := by decide +kernel
theorem dX7_feed_37 : decode cX7_feed 37 = .ok (.iload 5, 2) := by decide +kernel
theorem dX7_feed_39 : decode cX7_feed 39 = .ok (.invokevirtual 183, 3) := by decide +kernel
theorem dX7_feed_42 : decode cX7_feed 42 = .ok (.aload_n 0, 1) := by decide +kernel
theorem dX7_feed_43 : decode cX7_feed 43 = .ok (.getfield 180, 3) := by decide +kernel
theorem dX7_feed_46 : decode cX7_feed 46 = .ok (.ireturn, 1) := by decide +kernel
theorem dX7_end_0 : decode cX7_end 0 = .ok (.iload_n 1, 1) := by decide +kernel
theorem dX7_end_1 : decode cX7_end 1 = .ok (.i2l, 1) := by decide +kernel
theorem dX7_end_2 : decode cX7_end 2 = .ok (.lconst 0, 1) := by decide +kernel
theorem dX7_end_3 : decode cX7_end 3 = .ok (.aload_n 0, 1) := by decide +kernel
theorem dX7_end_4 : decode cX7_end 4 = .ok (.getfield 180, 3) := by decide +kernel
theorem dX7_end_7 : decode cX7_end 7 = .ok (.i2l, 1) := by decide +kernel
theorem dX7_end_8 : decode cX7_end 8 = .ok (.invokestatic 84, 3) := by decide +kernel
theorem dX7_end_11 : decode cX7_end 11 = .ok (.ifCond .ne 5, 3) := by decide +kernel
theorem dX7_end_14 : decode cX7_end 14 = .ok (.iconst (-1), 1) := by decide +kernel
theorem dX7_end_15 : decode cX7_end 15 = .ok (.ireturn, 1) := by decide +kernel
theorem dX7_end_16 : decode cX7_end 16 = .ok (.aload_n 0, 1) := by decide +kernel
theorem dX7_end_17 : decode cX7_end 17 = .ok (.iload_n 1, 1) := by decide +kernel
theorem dX7_end_18 : decode cX7_end 18 = .ok (.putfield 180, 3) := by decide +kernel
theorem dX7_end_21 : decode cX7_end 21 = .ok (.iload_n 1, 1) := by decide +kernel
theorem dX7_end_22 : decode cX7_end 22 = .ok (.ireturn, 1) := by decide +kernel
theorem dX7_isLetter_0 : decode cX7_isLetter 0 = .ok (.iload_n 0, 1) := by decide +kernel
theorem dX7_isLetter_1 : decode cX7_isLetter 1 = .ok (.i2l, 1) := by decide +kernel
theorem dX7_isLetter_2 : decode cX7_isLetter 2 = .ok (.ldc2_w 186, 3) := by decide +kernel
theorem dX7_isLetter_5 : decode cX7_isLetter 5 = .ok (.ldc2_w 188, 3) := by decide +kernel
theorem dX7_isLetter_8 : decode cX7_isLetter 8 = .ok (.invokestatic 84, 3) := by decide +kernel
theorem dX7_isLetter_11 : decode cX7_isLetter 11 = .ok (.ifCond .ne 17, 3) := by decide +kernel
theorem dX7_isLetter_14 : decode cX7_isLetter 14 = .ok (.iload_n 0, 1) := by decide +kernel
theorem dX7_isLetter_15 : decode cX7_isLetter 15 = .ok (.i2l, 1) := by decide +kernel
theorem dX7_isLetter_16 : decode cX7_isLetter 16 = .ok (.ldc2_w 190, 3) := by decide +kernel
theorem dX7_isLetter_19 : decode cX7_isLetter 19 = .ok (.ldc2_w 192, 3) := by decide +kernel
theorem dX7_isLetter_22 : decode cX7_isLetter 22 = .ok (.invokestatic 84, 3) := by decide +kernel
theorem dX7_isLetter_25 : decode cX7_isLetter 25 = .ok (.ifCond .eq 7, 3) := by decide +kernel
theorem dX7_isLetter_28 : decode cX7_isLetter 28 = .ok (.iconst 1, 1) := by decide +kernel
theorem dX7_isLetter_29 : decode cX7_isLetter 29 = .ok (.goto 4, 3) := by decide +kernel
theorem dX7_isLetter_32 : decode cX7_isLetter 32 = .ok (.iconst 0, 1) := by decide +kernel
theorem dX7_isLetter_33 : decode cX7_isLetter 33 = .ok (.ireturn, 1) := by decide +kernel
theorem dX7_wordOf_0 : decode cX7_wordOf 0 = .ok (.lload_n 0, 1) := by decide +kernel
theorem dX7_wordOf_1 : decode cX7_wordOf 1 = .ok (.ldc2_w 194, 3) := by decide +kernel
theorem dX7_wordOf_4 : decode cX7_wordOf 4 = .ok (.lcmp, 1) := by decide +kernel
theorem dX7_wordOf_5 : decode cX7_wordOf 5 = .ok (.ifCond .ne 7, 3) := by decide +kernel
theorem dX7_wordOf_8 : decode cX7_wordOf 8 = .ok (.iconst 0, 1) := by decide +kernel
theorem dX7_wordOf_9 : decode cX7_wordOf 9 = .ok (.goto 16, 3) := by decide +kernel
theorem dX7_wordOf_12 : decode cX7_wordOf 12 = .ok (.lload_n 0, 1) := by decide +kernel
theorem dX7_wordOf_13 : decode cX7_wordOf 13 = .ok (.ldc2_w 196, 3) := by decide +kernel
theorem dX7_wordOf_16 : decode cX7_wordOf 16 = .ok (.lcmp, 1) := by decide +kernel
theorem dX7_wordOf_17 : decode cX7_wordOf 17 = .ok (.ifCond .ne 7, 3) := by decide +kernel
theorem dX7_wordOf_20 : decode cX7_wordOf 20 = .ok (.iconst 1, 1) := by decide +kernel
theorem dX7_wordOf_21 : decode cX7_wordOf 21 = .ok (.goto 4, 3) := by decide +kernel
theorem dX7_wordOf_24 : decode cX7_wordOf 24 = .ok (.iconst (-1), 1) := by decide +kernel
theorem dX7_wordOf_25 : decode cX7_wordOf 25 = .ok (.ireturn, 1) := by decide +kernel
theorem dX7_next_0 : decode cX7_next 0 = .ok (.aload_n 0, 1) := by decide +kernel
theorem dX7_next_1 : decode cX7_next 1 = .ok (.getfield 198, 3) := by decide +kernel
theorem dX7_next_4 : decode cX7_next 4 = .ok (.iload_n 1, 1) := by decide +kernel
theorem dX7_next_5 : decode cX7_next 5 = .ok (.if_icmp .ge 30, 3) := by decide +kernel
theorem dX7_next_8 : decode cX7_next 8 = .ok (.aload_n 0, 1) := by decide +kernel
theorem dX7_next_9 : decode cX7_next 9 = .ok (.getfield 47, 3) := by decide +kernel
theorem dX7_next_12 : decode cX7_next 12 = .ok (.aload_n 0, 1) := by decide +kernel
theorem dX7_next_13 : decode cX7_next 13 = .ok (.getfield 198, 3) := by decide +kernel
theorem dX7_next_16 : decode cX7_next 16 = .ok (.baload, 1) := by decide +kernel
theorem dX7_next_17 : decode cX7_next 17 = .ok (.bipush 32, 2) := by decide +kernel
theorem dX7_next_19 : decode cX7_next 19 = .ok (.if_icmp .ne 16, 3) := by decide +kernel
theorem dX7_next_22 : decode cX7_next 22 = .ok (.aload_n 0, 1) := by decide +kernel
theorem dX7_next_23 : decode cX7_next 23 = .ok (.dup, 1) := by decide +kernel
theorem dX7_next_24 : decode cX7_next 24 = .ok (.getfield 198, 3) := by decide +kernel
theorem dX7_next_27 : decode cX7_next 27 = .ok (.iconst 1, 1) := by decide +kernel
theorem dX7_next_28 : decode cX7_next 28 = .ok (.iadd, 1) := by decide +kernel
theorem dX7_next_29 : decode cX7_next 29 = .ok (.putfield 198, 3) := by decide +kernel
theorem dX7_next_32 : decode cX7_next 32 = .ok (.goto (-32), 3) := by decide +kernel
theorem dX7_next_35 : decode cX7_next 35 = .ok (.aload_n 0, 1) := by decide +kernel
theorem dX7_next_36 : decode cX7_next 36 = .ok (.aload_n 0, 1) := by decide +kernel
theorem dX7_next_37 : decode cX7_next 37 = .ok (.getfield 198, 3) := by decide +kernel
theorem dX7_next_40 : decode cX7_next 40 = .ok (.putfield 201, 3) := by decide +kernel
theorem dX7_next_43 : decode cX7_next 43 = .ok (.aload_n 0, 1) := by decide +kernel
theorem dX7_next_44 : decode cX7_next 44 = .ok (.getfield 198, 3) := by decide +kernel
theorem dX7_next_47 : decode cX7_next 47 = .ok (.iload_n 1, 1) := by decide +kernel
theorem dX7_next_48 : decode cX7_next 48 = .ok (.if_icmp .ne 9, 3) := by decide +kernel
theorem dX7_next_51 : decode cX7_next 51 = .ok (.aload_n 0, 1) := by decide +kernel
theorem dX7_next_52 : decode cX7_next 52 = .ok (.iconst 0, 1) := by decide +kernel
theorem dX7_next_53 : decode cX7_next 53 = .ok (.putfield 204, 3) := by decide +kernel
theorem dX7_next_56 : decode cX7_next 56 = .ok (.return_, 1) := by decide +kernel
theorem dX7_next_57 : decode cX7_next 57 = .ok (.aload_n 0, 1) := by decide +kernel
theorem dX7_next_58 : decode cX7_next 58 = .ok (.getfield 47, 3) := by decide +kernel
theorem dX7_next_61 : decode cX7_next 61 = .ok (.aload_n 0, 1) := by decide +kernel
theorem dX7_next_62 : decode cX7_next 62 = .ok (.getfield 198, 3) := by decide +kernel
theorem dX7_next_65 : decode cX7_next 65 = .ok (.baload, 1) := by decide +kernel
theorem dX7_next_66 : decode cX7_next 66 = .ok (.istore_n 2, 1) := by decide +kernel
theorem dX7_next_67 : decode cX7_next 67 = .ok (.iload_n 2, 1) := by decide +kernel
theorem dX7_next_68 : decode cX7_next 68 = .ok (.invokestatic 207, 3) := by decide +kernel
theorem dX7_next_71 : decode cX7_next 71 = .ok (.ifCond .eq 116, 3) := by decide +kernel
theorem dX7_next_74 : decode cX7_next 74 = .ok (.lconst 0, 1) := by decide +kernel
theorem dX7_next_75 : decode cX7_next 75 = .ok (.lstore_n 3, 1) := by decide +kernel
theorem dX7_next_76 : decode cX7_next 76 = .ok (.iconst 0, 1) := by decide +kernel
theorem dX7_next_77 : decode cX7_next 77 = .ok (.istore 5, 2) := by decide +kernel
theorem dX7_next_79 : decode cX7_next 79 = .ok (.aload_n 0, 1) := by decide +kernel
theorem dX7_next_80 : decode cX7_next 80 = .ok (.getfield 198, 3) := by decide +kernel
theorem dX7_next_83 : decode cX7_next 83 = .ok (.iload_n 1, 1) := by decide +kernel
theorem dX7_next_84 : decode cX7_next 84 = .ok (.if_icmp .ge 66, 3) := by decide +kernel
theorem dX7_next_87 : decode cX7_next 87 = .ok (.aload_n 0, 1) := by decide +kernel
theorem dX7_next_88 : decode cX7_next 88 = .ok (.getfield 47, 3) := by decide +kernel
theorem dX7_next_91 : decode cX7_next 91 = .ok (.aload_n 0, 1) := by decide +kernel
theorem dX7_next_92 : decode cX7_next 92 = .ok (.getfield 198, 3) := by decide +kernel
theorem dX7_next_95 : decode cX7_next 95 = .ok (.baload, 1) := by decide +kernel
theorem dX7_next_96 : decode cX7_next 96 = .ok (.invokestatic 207, 3) := by decide +kernel
theorem dX7_next_99 : decode cX7_next 99 = .ok (.ifCond .eq 51, 3) := by decide +kernel
theorem dX7_next_102 : decode cX7_next 102 = .ok (.iload 5, 2) := by decide +kernel
theorem dX7_next_104 : decode cX7_next 104 = .ok (.bipush 8, 2) := by decide +kernel
theorem dX7_next_106 : decode cX7_next 106 = .ok (.if_icmp .ge 26, 3) := by decide +kernel
theorem dX7_next_109 : decode cX7_next 109 = .ok (.ldc2_w 210, 3) := by decide +kernel
theorem dX7_next_112 : decode cX7_next 112 = .ok (.lload_n 3, 1) := by decide +kernel
theorem dX7_next_113 : decode cX7_next 113 = .ok (.lmul, 1) := by decide +kernel
theorem dX7_next_114 : decode cX7_next 114 = .ok (.aload_n 0, 1) := by decide +kernel
theorem dX7_next_115 : decode cX7_next 115 = .ok (.getfield 47, 3) := by decide +kernel
theorem dX7_next_118 : decode cX7_next 118 = .ok (.aload_n 0, 1) := by decide +kernel
theorem dX7_next_119 : decode cX7_next 119 = .ok (.getfield 198, 3) := by decide +kernel
theorem dX7_next_122 : decode cX7_next 122 = .ok (.baload, 1) := by decide +kernel
theorem dX7_next_123 : decode cX7_next 123 = .ok (.i2l, 1) := by decide +kernel
theorem dX7_next_124 : decode cX7_next 124 = .ok (.ladd, 1) := by decide +kernel
theorem dX7_next_125 : decode cX7_next 125 = .ok (.ldc2_w 210, 3) := by decide +kernel
theorem dX7_next_128 : decode cX7_next 128 = .ok (.lsub, 1) := by decide +kernel
theorem dX7_next_129 : decode cX7_next 129 = .ok (.goto 4, 3) := by decide +kernel
theorem dX7_next_132 : decode cX7_next 132 = .ok (.lload_n 3, 1) := by decide +kernel
theorem dX7_next_133 : decode cX7_next 133 = .ok (.lstore_n 3, 1) := by decide +kernel
theorem dX7_next_134 : decode cX7_next 134 = .ok (.iinc 5 1, 3) := by decide +kernel
theorem dX7_next_137 : decode cX7_next 137 = .ok (.aload_n 0, 1) := by decide +kernel
theorem dX7_next_138 : decode cX7_next 138 = .ok (.dup, 1) := by decide +kernel
theorem dX7_next_139 : decode cX7_next 139 = .ok (.getfield 198, 3) := by decide +kernel
theorem dX7_next_142 : decode cX7_next 142 = .ok (.iconst 1, 1) := by decide +kernel
theorem dX7_next_143 : decode cX7_next 143 = .ok (.iadd, 1) := by decide +kernel
theorem dX7_next_144 : decode cX7_next 144 = .ok (.putfield 198, 3) := by decide +kernel
theorem dX7_next_147 : decode cX7_next 147 = .ok (.goto (-68), 3) := by decide +kernel
theorem dX7_next_150 : decode cX7_next 150 = .ok (.aload_n 0, 1) := by decide +kernel
theorem dX7_next_151 : decode cX7_next 151 = .ok (.iload 5, 2) := by decide +kernel
theorem dX7_next_153 : decode cX7_next 153 = .ok (.iconst 5, 1) := by decide +kernel
theorem dX7_next_154 : decode cX7_next 154 = .ok (.if_icmp .le 7, 3) := by decide +kernel
theorem dX7_next_157 : decode cX7_next 157 = .ok (.iconst (-1), 1) := by decide +kernel
theorem dX7_next_158 : decode cX7_next 158 = .ok (.goto 7, 3) := by decide +kernel
theorem dX7_next_161 : decode cX7_next 161 = .ok (.lload_n 3, 1) := by decide +kernel
theorem dX7_next_162 : decode cX7_next 162 = .ok (.invokestatic 212, 3) := by decide +kernel
theorem dX7_next_165 : decode cX7_next 165 = .ok (.putfield 216, 3) := by decide +kernel
theorem dX7_next_168 : decode cX7_next 168 = .ok (.aload_n 0, 1) := by decide +kernel
theorem dX7_next_169 : decode cX7_next 169 = .ok (.aload_n 0, 1) := by decide +kernel
theorem dX7_next_170 : decode cX7_next 170 = .ok (.getfield 216, 3) := by decide +kernel
theorem dX7_next_173 : decode cX7_next 173 = .ok (.ifCond .ge 7, 3) := by decide +kernel
theorem dX7_next_176 : decode cX7_next 176 = .ok (.iconst 4, 1) := by decide +kernel
theorem dX7_next_177 : decode cX7_next 177 = .ok (.goto 4, 3) := by decide +kernel
theorem dX7_next_180 : decode cX7_next 180 = .ok (.iconst 1, 1) := by decide +kernel
theorem dX7_next_181 : decode cX7_next 181 = .ok (.putfield 204, 3) := by decide +kernel
theorem dX7_next_184 : decode cX7_next 184 = .ok (.goto 135, 3) := by decide +kernel
theorem dX7_next_187 : decode cX7_next 187 = .ok (.iload_n 2, 1) := by decide +kernel
theorem dX7_next_188 : decode cX7_next 188 = .ok (.i2l, 1) := by decide +kernel
theorem dX7_next_189 : decode cX7_next 189 = .ok (.ldc2_w 219, 3) := by decide +kernel
theorem dX7_next_192 : decode cX7_next 192 = .ok (.ldc2_w 221, 3) := by decide +kernel
theorem dX7_next_195 : decode cX7_next 195 = .ok (.invokestatic 84, 3) := by decide +kernel
theorem dX7_next_198 : decode cX7_next 198 = .ok (.ifCond .eq 96, 3) := by decide +kernel
theorem dX7_next_201 : decode cX7_next 201 = .ok (.aload_n 0, 1) := by decide +kernel
theorem dX7_next_202 : decode cX7_next 202 = .ok (.iconst 2, 1) := by decide +kernel
theorem dX7_next_203 : decode cX7_next 203 = .ok (.putfield 204, 3) := by decide +kernel
theorem dX7_next_206 : decode cX7_next 206 = .ok (.aload_n 0, 1) := by decide +kernel
theorem dX7_next_207 : decode cX7_next 207 = .ok (.iconst 0, 1) := by decide +kernel
theorem dX7_next_208 : decode cX7_next 208 = .ok (.putfield 216, 3) := by decide +kernel
theorem dX7_next_211 : decode cX7_next 211 = .ok (.aload_n 0, 1) := by decide +kernel
theorem dX7_next_212 : decode cX7_next 212 = .ok (.getfield 198, 3) := by decide +kernel
theorem dX7_next_215 : decode cX7_next 215 = .ok (.iload_n 1, 1) := by decide +kernel
theorem dX7_next_216 : decode cX7_next 216 = .ok (.if_icmp .ge 103, 3) := by decide +kernel
theorem dX7_next_219 : decode cX7_next 219 = .ok (.aload_n 0, 1) := by decide +kernel
theorem dX7_next_220 : decode cX7_next 220 = .ok (.getfield 47, 3) := by decide +kernel
theorem dX7_next_223 : decode cX7_next 223 = .ok (.aload_n 0, 1) := by decide +kernel
theorem dX7_next_224 : decode cX7_next 224 = .ok (.getfield 198, 3) := by decide +kernel
theorem dX7_next_227 : decode cX7_next 227 = .ok (.baload, 1) := by decide +kernel
theorem dX7_next_228 : decode cX7_next 228 = .ok (.i2l, 1) := by decide +kernel
theorem dX7_next_229 : decode cX7_next 229 = .ok (.ldc2_w 219, 3) := by decide +kernel
theorem dX7_next_232 : decode cX7_next 232 = .ok (.ldc2_w 221, 3) := by decide +kernel
theorem dX7_next_235 : decode cX7_next 235 = .ok (.invokestatic 84, 3) := by decide +kernel
theorem dX7_next_238 : decode cX7_next 238 = .ok (.ifCond .eq 81, 3) := by decide +kernel
theorem dX7_next_241 : decode cX7_next 241 = .ok (.aload_n 0, 1) := by decide +kernel
theorem dX7_next_242 : decode cX7_next 242 = .ok (.aload_n 0, 1) := by decide +kernel
theorem dX7_next_243 : decode cX7_next 243 = .ok (.getfield 216, 3) := by decide +kernel
theorem dX7_next_246 : decode cX7_next 246 = .ok (.ldc 223, 2) := by decide +kernel
theorem dX7_next_248 : decode cX7_next 248 = .ok (.if_icmp .le 10, 3) := by decide +kernel
theorem dX7_next_251 : decode cX7_next 251 = .ok (.aload_n 0, 1) := by decide +kernel
theorem dX7_next_252 : decode cX7_next 252 = .ok (.getfield 216, 3) := by decide +kernel
theorem dX7_next_255 : decode cX7_next 255 = .ok (.goto 23, 3) := by decide +kernel
theorem dX7_next_258 : decode cX7_next 258 = .ok (.bipush 10, 2) := by decide +kernel
theorem dX7_next_260 : decode cX7_next 260 = .ok (.aload_n 0, 1) := by decide +kernel
theorem dX7_next_261 : decode cX7_next 261 = .ok (.getfield 216, 3) := by decide +kernel
theorem dX7_next_264 : decode cX7_next 264 = .ok (.imul, 1) := by decide +kernel
theorem dX7_next_265 : decode cX7_next 265 = .ok (.aload_n 0, 1) := by decide +kernel
theorem dX7_next_266 : decode cX7_next 266 = .ok (.getfield 47, 3) := by decide +kernel
theorem dX7_next_269 : decode cX7_next 269 = .ok (.aload_n 0, 1) := by decide +kernel
theorem dX7_next_270 : decode cX7_next 270 = .ok (.getfield 198, 3) := by decide +kernel
theorem dX7_next_273 : decode cX7_next 273 = .ok (.baload, 1) := by decide +kernel
theorem dX7_next_274 : decode cX7_next 274 = .ok (.iadd, 1) := by decide +kernel
theorem dX7_next_275 : decode cX7_next 275 = .ok (.bipush 48, 2) := by decide +kernel
theorem dX7_next_277 : decode cX7_next 277 = .ok (.isub, 1) := by decide +kernel
theorem dX7_next_278 : decode cX7_next 278 = .ok (.putfield 216, 3) := by decide +kernel
theorem dX7_next_281 : decode cX7_next 281 = .ok (.aload_n 0, 1) := by decide +kernel
theorem dX7_next_282 : decode cX7_next 282 = .ok (.dup, 1) := by decide +kernel
theorem dX7_next_283 : decode cX7_next 283 = .ok (.getfield 198, 3) := by decide +kernel
theorem dX7_next_286 : decode cX7_next 286 = .ok (.iconst 1, 1) := by decide +kernel
theorem dX7_next_287 : decode cX7_next 287 = .ok (.iadd, 1) := by decide +kernel
theorem dX7_next_288 : decode cX7_next 288 = .ok (.putfield 198, 3) := by decide +kernel
theorem dX7_next_291 : decode cX7_next 291 = .ok (.goto (-80), 3) := by decide +kernel
theorem dX7_next_294 : decode cX7_next 294 = .ok (.aload_n 0, 1) := by decide +kernel
theorem dX7_next_295 : decode cX7_next 295 = .ok (.dup, 1) := by decide +kernel
theorem dX7_next_296 : decode cX7_next 296 = .ok (.getfield 198, 3) := by decide +kernel
theorem dX7_next_299 : decode cX7_next 299 = .ok (.iconst 1, 1) := by decide +kernel
theorem dX7_next_300 : decode cX7_next 300 = .ok (.iadd, 1) := by decide +kernel
theorem dX7_next_301 : decode cX7_next 301 = .ok (.putfield 198, 3) := by decide +kernel
theorem dX7_next_304 : decode cX7_next 304 = .ok (.aload_n 0, 1) := by decide +kernel
theorem dX7_next_305 : decode cX7_next 305 = .ok (.iload_n 2, 1) := by decide +kernel
theorem dX7_next_306 : decode cX7_next 306 = .ok (.bipush 59, 2) := by decide +kernel
theorem dX7_next_308 : decode cX7_next 308 = .ok (.if_icmp .ne 7, 3) := by decide +kernel
theorem dX7_next_311 : decode cX7_next 311 = .ok (.iconst 3, 1) := by decide +kernel
theorem dX7_next_312 : decode cX7_next 312 = .ok (.goto 4, 3) := by decide +kernel
theorem dX7_next_315 : decode cX7_next 315 = .ok (.iconst 4, 1) := by decide +kernel
theorem dX7_next_316 : decode cX7_next 316 = .ok (.putfield 204, 3) := by decide +kernel
theorem dX7_next_319 : decode cX7_next 319 = .ok (.return_, 1) := by decide +kernel
theorem dX7_fails_0 : decode cX7_fails 0 = .ok (.aload_n 0, 1) := by decide +kernel
theorem dX7_fails_1 : decode cX7_fails 1 = .ok (.getfield 224, 3) := by decide +kernel
theorem dX7_fails_4 : decode cX7_fails 4 = .ok (.ifCond .ne 16, 3) := by decide +kernel
theorem dX7_fails_7 : decode cX7_fails 7 = .ok (.aload_n 0, 1) := by decide +kernel
theorem dX7_fails_8 : decode cX7_fails 8 = .ok (.iload_n 1, 1) := by decide +kernel
theorem dX7_fails_9 : decode cX7_fails 9 = .ok (.putfield 224, 3) := by decide +kernel
theorem dX7_fails_12 : decode cX7_fails 12 = .ok (.aload_n 0, 1) := by decide +kernel
theorem dX7_fails_13 : decode cX7_fails 13 = .ok (.aload_n 0, 1) := by decide +kernel
theorem dX7_fails_14 : decode cX7_fails 14 = .ok (.getfield 201, 3) := by decide +kernel
theorem dX7_fails_17 : decode cX7_fails 17 = .ok (.putfield 227, 3) := by decide +kernel
theorem dX7_fails_20 : decode cX7_fails 20 = .ok (.return_, 1) := by decide +kernel
theorem dX7_clause_0 : decode cX7_clause 0 = .ok (.aload_n 0, 1) := by decide +kernel
theorem dX7_clause_1 : decode cX7_clause 1 = .ok (.getfield 204, 3) := by decide +kernel
theorem dX7_clause_4 : decode cX7_clause 4 = .ok (.iconst 1, 1) := by decide +kernel
theorem dX7_clause_5 : decode cX7_clause 5 = .ok (.if_icmp .eq 9, 3) := by decide +kernel
theorem dX7_clause_8 : decode cX7_clause 8 = .ok (.aload_n 0, 1) := by decide +kernel
theorem dX7_clause_9 : decode cX7_clause 9 = .ok (.iconst 1, 1) := by decide +kernel
theorem dX7_clause_10 : decode cX7_clause 10 = .ok (.invokevirtual 230, 3) := by decide +kernel
theorem dX7_clause_13 : decode cX7_clause 13 = .ok (.return_, 1) := by decide +kernel
theorem dX7_clause_14 : decode cX7_clause 14 = .ok (.aload_n 0, 1) := by decide +kernel
theorem dX7_clause_15 : decode cX7_clause 15 = .ok (.getfield 216, 3) := by decide +kernel
theorem dX7_clause_18 : decode cX7_clause 18 = .ok (.istore_n 2, 1) := by decide +kernel
theorem dX7_clause_19 : decode cX7_clause 19 = .ok (.aload_n 0, 1) := by decide +kernel
theorem dX7_clause_20 : decode cX7_clause 20 = .ok (.iload_n 1, 1) := by decide +kernel
theorem dX7_clause_21 : decode cX7_clause 21 = .ok (.invokevirtual 233, 3) := by decide +kernel
theorem dX7_clause_24 : decode cX7_clause 24 = .ok (.aload_n 0, 1) := by decide +kernel
theorem dX7_clause_25 : decode cX7_clause 25 = .ok (.getfield 204, 3) := by decide +kernel
theorem dX7_clause_28 : decode cX7_clause 28 = .ok (.iconst 2, 1) := by decide +kernel
theorem dX7_clause_29 : decode cX7_clause 29 = .ok (.if_icmp .eq 9, 3) := by decide +kernel
theorem dX7_clause_32 : decode cX7_clause 32 = .ok (.aload_n 0, 1) := by decide +kernel
theorem dX7_clause_33 : decode cX7_clause 33 = .ok (.iconst 1, 1) := by decide +kernel
theorem dX7_clause_34 : decode cX7_clause 34 = .ok (.invokevirtual 230, 3) := by decide +kernel
theorem dX7_clause_37 : decode cX7_clause 37 = .ok (.return_, 1) := by decide +kernel
theorem dX7_clause_38 : decode cX7_clause 38 = .ok (.aload_n 0, 1) := by decide +kernel
theorem dX7_clause_39 : decode cX7_clause 39 = .ok (.getfield 216, 3) := by decide +kernel
theorem dX7_clause_42 : decode cX7_clause 42 = .ok (.istore_n 3, 1) := by decide +kernel
theorem dX7_clause_43 : decode cX7_clause 43 = .ok (.iload_n 3, 1) := by decide +kernel
theorem dX7_clause_44 : decode cX7_clause 44 = .ok (.i2l, 1) := by decide +kernel
theorem dX7_clause_45 : decode cX7_clause 45 = .ok (.lconst 0, 1) := by decide +kernel
theorem dX7_clause_46 : decode cX7_clause 46 = .ok (.ldc2_w 236, 3) := by decide +kernel
theorem dX7_clause_49 : decode cX7_clause 49 = .ok (.invokestatic 84, 3) := by decide +kernel
theorem dX7_clause_52 : decode cX7_clause 52 = .ok (.ifCond .eq 33, 3) := by decide +kernel
theorem dX7_clause_55 : decode cX7_clause 55 = .ok (.iload_n 2, 1) := by decide +kernel
theorem dX7_clause_56 : decode cX7_clause 56 = .ok (.ifCond .ne 12, 3) := by decide +kernel
theorem dX7_clause_59 : decode cX7_clause 59 = .ok (.aload_n 0, 1) := by decide +kernel
theorem dX7_clause_60 : decode cX7_clause 60 = .ok (.getfield 57, 3) := by decide +kernel
theorem dX7_clause_63 : decode cX7_clause 63 = .ok (.iload_n 3, 1) := by decide +kernel
theorem dX7_clause_64 : decode cX7_clause 64 = .ok (.iaload, 1) := by decide +kernel
theorem dX7_clause_65 : decode cX7_clause 65 = .ok (.goto 9, 3) := by decide +kernel
theorem dX7_clause_68 : decode cX7_clause 68 = .ok (.aload_n 0, 1) := by decide +kernel
theorem dX7_clause_69 : decode cX7_clause 69 = .ok (.getfield 60, 3) := by decide +kernel
theorem dX7_clause_72 : decode cX7_clause 72 = .ok (.iload_n 3, 1) := by decide +kernel
theorem dX7_clause_73 : decode cX7_clause 73 = .ok (.iaload, 1) := by decide +kernel
theorem dX7_clause_74 : decode cX7_clause 74 = .ok (.ifCond .lt 11, 3) := by decide +kernel
theorem dX7_clause_77 : decode cX7_clause 77 = .ok (.aload_n 0, 1) := by decide +kernel
theorem dX7_clause_78 : decode cX7_clause 78 = .ok (.iconst 2, 1) := by decide +kernel
theorem dX7_clause_79 : decode cX7_clause 79 = .ok (.invokevirtual 230, 3) := by decide +kernel
theorem dX7_clause_82 : decode cX7_clause 82 = .ok (.goto 20, 3) := by decide +kernel
theorem dX7_clause_85 : decode cX7_clause 85 = .ok (.iload_n 3, 1) := by decide +kernel
theorem dX7_clause_86 : decode cX7_clause 86 = .ok (.i2l, 1) := by decide +kernel
theorem dX7_clause_87 : decode cX7_clause 87 = .ok (.lconst 0, 1) := by decide +kernel
theorem dX7_clause_88 : decode cX7_clause 88 = .ok (.ldc2_w 236, 3) := by decide +kernel
theorem dX7_clause_91 : decode cX7_clause 91 = .ok (.invokestatic 84, 3) := by decide +kernel
theorem dX7_clause_94 : decode cX7_clause 94 = .ok (.ifCond .ne 8, 3) := by decide +kernel
theorem dX7_clause_97 : decode cX7_clause 97 = .ok (.aload_n 0, 1) := by decide +kernel
theorem dX7_clause_98 : decode cX7_clause 98 = .ok (.iconst 3, 1) := by decide +kernel
theorem dX7_clause_99 : decode cX7_clause 99 = .ok (.invokevirtual 230, 3) := by decide +kernel
theorem dX7_clause_102 : decode cX7_clause 102 = .ok (.aload_n 0, 1) := by decide +kernel
theorem dX7_clause_103 : decode cX7_clause 103 = .ok (.getfield 224, 3) := by decide +kernel
theorem dX7_clause_106 : decode cX7_clause 106 = .ok (.ifCond .le 4, 3) := by decide +kernel
theorem dX7_clause_109 : decode cX7_clause 109 = .ok (.return_, 1) := by decide +kernel
theorem dX7_clause_110 : decode cX7_clause 110 = .ok (.aload_n 0, 1) := by decide +kernel
theorem dX7_clause_111 : decode cX7_clause 111 = .ok (.iload_n 1, 1) := by decide +kernel
theorem dX7_clause_112 : decode cX7_clause 112 = .ok (.invokevirtual 233, 3) := by decide +kernel
theorem dX7_clause_115 : decode cX7_clause 115 = .ok (.aload_n 0, 1) := by decide +kernel
theorem dX7_clause_116 : decode cX7_clause 116 = .ok (.getfield 204, 3) := by decide +kernel
theorem dX7_clause_119 : decode cX7_clause 119 = .ok (.iconst 2, 1) := by decide +kernel
theorem dX7_clause_120 : decode cX7_clause 120 = .ok (.if_icmp .eq 11, 3) := by decide +kernel
theorem dX7_clause_123 : decode cX7_clause 123 = .ok (.aload_n 0, 1) := by decide +kernel
theorem dX7_clause_124 : decode cX7_clause 124 = .ok (.iconst 1, 1) := by decide +kernel
theorem dX7_clause_125 : decode cX7_clause 125 = .ok (.invokevirtual 230, 3) := by decide +kernel
theorem dX7_clause_128 : decode cX7_clause 128 = .ok (.goto 24, 3) := by decide +kernel
theorem dX7_clause_131 : decode cX7_clause 131 = .ok (.aload_n 0, 1) := by decide +kernel
theorem dX7_clause_132 : decode cX7_clause 132 = .ok (.getfield 216, 3) := by decide +kernel
theorem dX7_clause_135 : decode cX7_clause 135 = .ok (.i2l, 1) := by decide +kernel
theorem dX7_clause_136 : decode cX7_clause 136 = .ok (.iload_n 2, 1) := by decide +kernel
theorem dX7_clause_137 : decode cX7_clause 137 = .ok (.i2l, 1) := by decide +kernel
theorem dX7_clause_138 : decode cX7_clause 138 = .ok (.ldc2_w 238, 3) := by decide +kernel
theorem dX7_clause_141 : decode cX7_clause 141 = .ok (.invokestatic 84, 3) := by decide +kernel
theorem dX7_clause_144 : decode cX7_clause 144 = .ok (.ifCond .ne 8, 3) := by decide +kernel
theorem dX7_clause_147 : decode cX7_clause 147 = .ok (.aload_n 0, 1) := by decide +kernel
theorem dX7_clause_148 : decode cX7_clause 148 = .ok (.iconst 3, 1) := by decide +kernel
theorem dX7_clause_149 : decode cX7_clause 149 = .ok (.invokevirtual 230, 3) := by decide +kernel
theorem dX7_clause_152 : decode cX7_clause 152 = .ok (.aload_n 0, 1) := by decide +kernel
theorem dX7_clause_153 : decode cX7_clause 153 = .ok (.getfield 224, 3) := by decide +kernel
theorem dX7_clause_156 : decode cX7_clause 156 = .ok (.ifCond .le 4, 3) := by decide +kernel
theorem dX7_clause_159 : decode cX7_clause 159 = .ok (.return_, 1) := by decide +kernel
theorem dX7_clause_160 : decode cX7_clause 160 = .ok (.iload_n 2, 1) := by decide +kernel
theorem dX7_clause_161 : decode cX7_clause 161 = .ok (.ifCond .ne 16, 3) := by decide +kernel
theorem dX7_clause_164 : decode cX7_clause 164 = .ok (.aload_n 0, 1) := by decide +kernel
