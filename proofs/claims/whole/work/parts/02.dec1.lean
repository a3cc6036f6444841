theorem dX2_plan_1 : decode cX2_plan 1 = .ok (.getfield 35, 3) := by decide +kernel
theorem dX2_plan_4 : decode cX2_plan 4 = .ok (.ifCond .eq 4, 3) := by decide +kernel
theorem dX2_plan_7 : decode cX2_plan 7 = .ok (.return_, 1) := by decide +kernel
theorem dX2_plan_8 : decode cX2_plan 8 = .ok (.aload_n 0, 1) := by decide +kernel
theorem dX2_plan_9 : decode cX2_plan 9 = .ok (.iconst 1, 1) := by decide +kernel
theorem dX2_plan_10 : decode cX2_plan 10 = .ok (.putfield 35, 3) := by decide +kernel
theorem dX2_plan_13 : decode cX2_plan 13 = .ok (.bipush 59, 2) := by decide +kernel
theorem dX2_plan_15 : decode cX2_plan 15 = .ok (.istore_n 1, 1) := by decide +kernel
theorem dX2_plan_16 : decode cX2_plan 16 = .ok (.iload_n 1, 1) := by decide +kernel
theorem dX2_plan_17 : decode cX2_plan 17 = .ok (.ifCond .lt 63, 3) := by decide +kernel
theorem dX2_plan_20 : decode cX2_plan 20 = .ok (.iconst 0, 1) := by decide +kernel
theorem dX2_plan_21 : decode cX2_plan 21 = .ok (.istore_n 2, 1) := by decide +kernel
theorem dX2_plan_22 : decode cX2_plan 22 = .ok (.iload_n 2, 1) := by decide +kernel
theorem dX2_plan_23 : decode cX2_plan 23 = .ok (.aload_n 0, 1) := by decide +kernel
theorem dX2_plan_24 : decode cX2_plan 24 = .ok (.getfield 26, 3) := by decide +kernel
theorem dX2_plan_27 : decode cX2_plan 27 = .ok (.if_icmp .gt 47, 3) := by decide +kernel
theorem dX2_plan_30 : decode cX2_plan 30 = .ok (.aload_n 0, 1) := by decide +kernel
theorem dX2_plan_31 : decode cX2_plan 31 = .ok (.iload_n 1, 1) := by decide +kernel
theorem dX2_plan_32 : decode cX2_plan 32 = .ok (.iload_n 2, 1) := by decide +kernel
theorem dX2_plan_33 : decode cX2_plan 33 = .ok (.invokevirtual 42, 3) := by decide +kernel
theorem dX2_plan_36 : decode cX2_plan 36 = .ok (.istore_n 3, 1) := by decide +kernel
theorem dX2_plan_37 : decode cX2_plan 37 = .ok (.aload_n 0, 1) := by decide +kernel
theorem dX2_plan_38 : decode cX2_plan 38 = .ok (.iload_n 1, 1) := by decide +kernel
theorem dX2_plan_39 : decode cX2_plan 39 = .ok (.iload_n 2, 1) := by decide +kernel
theorem dX2_plan_40 : decode cX2_plan 40 = .ok (.invokevirtual 46, 3) := by decide +kernel
theorem dX2_plan_43 : decode cX2_plan 43 = .ok (.ifCond .eq 13, 3) := by decide +kernel
theorem dX2_plan_46 : decode cX2_plan 46 = .ok (.iload_n 3, 1) := by decide +kernel
theorem dX2_plan_47 : decode cX2_plan 47 = .ok (.aload_n 0, 1) := by decide +kernel
theorem dX2_plan_48 : decode cX2_plan 48 = .ok (.iload_n 1, 1) := by decide +kernel
theorem dX2_plan_49 : decode cX2_plan 49 = .ok (.invokevirtual 50, 3) := by decide +kernel
theorem dX2_plan_52 : decode cX2_plan 52 = .ok (.invokestatic 54, 3) := by decide +kernel
theorem dX2_plan_55 : decode cX2_plan 55 = .ok (.istore_n 3, 1) := by decide +kernel
theorem dX2_plan_56 : decode cX2_plan 56 = .ok (.aload_n 0, 1) := by decide +kernel
theorem dX2_plan_57 : decode cX2_plan 57 = .ok (.getfield 19, 3) := by decide +kernel
theorem dX2_plan_60 : decode cX2_plan 60 = .ok (.iload_n 1, 1) := by decide +kernel
theorem dX2_plan_61 : decode cX2_plan 61 = .ok (.bipush 10, 2) := by decide +kernel
theorem dX2_plan_63 : decode cX2_plan 63 = .ok (.imul, 1) := by decide +kernel
theorem dX2_plan_64 : decode cX2_plan 64 = .ok (.iload_n 2, 1) := by decide +kernel
theorem dX2_plan_65 : decode cX2_plan 65 = .ok (.iadd, 1) := by decide +kernel
theorem dX2_plan_66 : decode cX2_plan 66 = .ok (.iload_n 3, 1) := by decide +kernel
theorem dX2_plan_67 : decode cX2_plan 67 = .ok (.iastore, 1) := by decide +kernel
theorem dX2_plan_68 : decode cX2_plan 68 = .ok (.iinc 2 1, 3) := by decide +kernel
theorem dX2_plan_71 : decode cX2_plan 71 = .ok (.goto (-49), 3) := by decide +kernel
theorem dX2_plan_74 : decode cX2_plan 74 = .ok (.iinc 1 (-1), 3) := by decide +kernel
theorem dX2_plan_77 : decode cX2_plan 77 = .ok (.goto (-61), 3) := by decide +kernel
theorem dX2_plan_80 : decode cX2_plan 80 = .ok (.aload_n 0, 1) := by decide +kernel
theorem dX2_plan_81 : decode cX2_plan 81 = .ok (.invokevirtual 59, 3) := by decide +kernel
theorem dX2_plan_84 : decode cX2_plan 84 = .ok (.return_, 1) := by decide +kernel
theorem dX2_chooseDays_0 : decode cX2_chooseDays 0 = .ok (.iconst 0, 1) := by decide +kernel
theorem dX2_chooseDays_1 : decode cX2_chooseDays 1 = .ok (.istore_n 1, 1) := by decide +kernel
theorem dX2_chooseDays_2 : decode cX2_chooseDays 2 = .ok (.iconst 0, 1) := by decide +kernel
theorem dX2_chooseDays_3 : decode cX2_chooseDays 3 = .ok (.istore_n 2, 1) := by decide +kernel
theorem dX2_chooseDays_4 : decode cX2_chooseDays 4 = .ok (.iload_n 2, 1) := by decide +kernel
theorem dX2_chooseDays_5 : decode cX2_chooseDays 5 = .ok (.bipush 60, 2) := by decide +kernel
theorem dX2_chooseDays_7 : decode cX2_chooseDays 7 = .ok (.if_icmp .ge 72, 3) := by decide +kernel
theorem dX2_chooseDays_10 : decode cX2_chooseDays 10 = .ok (.aload_n 0, 1) := by decide +kernel
theorem dX2_chooseDays_11 : decode cX2_chooseDays 11 = .ok (.iload_n 2, 1) := by decide +kernel
theorem dX2_chooseDays_12 : decode cX2_chooseDays 12 = .ok (.iload_n 1, 1) := by decide +kernel
theorem dX2_chooseDays_13 : decode cX2_chooseDays 13 = .ok (.invokevirtual 46, 3) := by decide +kernel
theorem dX2_chooseDays_16 : decode cX2_chooseDays 16 = .ok (.ifCond .eq 21, 3) := by decide +kernel
theorem dX2_chooseDays_19 : decode cX2_chooseDays 19 = .ok (.aload_n 0, 1) := by decide +kernel
theorem dX2_chooseDays_20 : decode cX2_chooseDays 20 = .ok (.iload_n 2, 1) := by decide +kernel
theorem dX2_chooseDays_21 : decode cX2_chooseDays 21 = .ok (.invokevirtual 50, 3) := by decide +kernel
theorem dX2_chooseDays_24 : decode cX2_chooseDays 24 = .ok (.aload_n 0, 1) := by decide +kernel
theorem dX2_chooseDays_25 : decode cX2_chooseDays 25 = .ok (.iload_n 2, 1) := by decide +kernel
theorem dX2_chooseDays_26 : decode cX2_chooseDays 26 = .ok (.iload_n 1, 1) := by decide +kernel
theorem dX2_chooseDays_27 : decode cX2_chooseDays 27 = .ok (.invokevirtual 42, 3) := by decide +kernel
theorem dX2_chooseDays_30 : decode cX2_chooseDays 30 = .ok (.if_icmp .gt 7, 3) := by decide +kernel
theorem dX2_chooseDays_33 : decode cX2_chooseDays 33 = .ok (.iconst 1, 1) := by decide +kernel
theorem dX2_chooseDays_34 : decode cX2_chooseDays 34 = .ok (.goto 4, 3) := by decide +kernel
theorem dX2_chooseDays_37 : decode cX2_chooseDays 37 = .ok (.iconst 0, 1) := by decide +kernel
theorem dX2_chooseDays_38 : decode cX2_chooseDays 38 = .ok (.istore_n 3, 1) := by decide +kernel
theorem dX2_chooseDays_39 : decode cX2_chooseDays 39 = .ok (.aload_n 0, 1) := by decide +kernel
theorem dX2_chooseDays_40 : decode cX2_chooseDays 40 = .ok (.getfield 15, 3) := by decide +kernel
theorem dX2_chooseDays_43 : decode cX2_chooseDays 43 = .ok (.iload_n 2, 1) := by decide +kernel
theorem dX2_chooseDays_44 : decode cX2_chooseDays 44 = .ok (.iload_n 3, 1) := by decide +kernel
theorem dX2_chooseDays_45 : decode cX2_chooseDays 45 = .ok (.ifCond .ne 7, 3) := by decide +kernel
theorem dX2_chooseDays_48 : decode cX2_chooseDays 48 = .ok (.iconst 1, 1) := by decide +kernel
theorem dX2_chooseDays_49 : decode cX2_chooseDays 49 = .ok (.goto 4, 3) := by decide +kernel
theorem dX2_chooseDays_52 : decode cX2_chooseDays 52 = .ok (.iconst 0, 1) := by decide +kernel
theorem dX2_chooseDays_53 : decode cX2_chooseDays 53 = .ok (.bastore, 1) := by decide +kernel
theorem dX2_chooseDays_54 : decode cX2_chooseDays 54 = .ok (.iload_n 3, 1) := by decide +kernel
theorem dX2_chooseDays_55 : decode cX2_chooseDays 55 = .ok (.ifCond .eq 7, 3) := by decide +kernel
theorem dX2_chooseDays_58 : decode cX2_chooseDays 58 = .ok (.iconst 0, 1) := by decide +kernel
theorem dX2_chooseDays_59 : decode cX2_chooseDays 59 = .ok (.goto 13, 3) := by decide +kernel
theorem dX2_chooseDays_62 : decode cX2_chooseDays 62 = .ok (.iload_n 1, 1) := by decide +kernel
theorem dX2_chooseDays_63 : decode cX2_chooseDays 63 = .ok (.iconst 1, 1) := by decide +kernel
theorem dX2_chooseDays_64 : decode cX2_chooseDays 64 = .ok (.iadd, 1) := by decide +kernel
theorem dX2_chooseDays_65 : decode cX2_chooseDays 65 = .ok (.aload_n 0, 1) := by decide +kernel
theorem dX2_chooseDays_66 : decode cX2_chooseDays 66 = .ok (.getfield 26, 3) := by decide +kernel
theorem dX2_chooseDays_69 : decode cX2_chooseDays 69 = .ok (.invokestatic 54, 3) := by decide +kernel
theorem dX2_chooseDays_72 : decode cX2_chooseDays 72 = .ok (.istore_n 1, 1) := by decide +kernel
theorem dX2_chooseDays_73 : decode cX2_chooseDays 73 = .ok (.iinc 2 1, 3) := by decide +kernel
theorem dX2_chooseDays_76 : decode cX2_chooseDays 76 = .ok (.goto (-72), 3) := by decide +kernel
theorem dX2_chooseDays_79 : decode cX2_chooseDays 79 = .ok (.return_, 1) := by decide +kernel
theorem dX2_mayBeIn_0 : decode cX2_mayBeIn 0 = .ok (.aload_n 0, 1) := by decide +kernel
theorem dX2_mayBeIn_1 : decode cX2_mayBeIn 1 = .ok (.iload_n 1, 1) := by decide +kernel
theorem dX2_mayBeIn_2 : decode cX2_mayBeIn 2 = .ok (.invokevirtual 62, 3) := by decide +kernel
theorem dX2_mayBeIn_5 : decode cX2_mayBeIn 5 = .ok (.ifCond .ne 19, 3) := by decide +kernel
theorem dX2_mayBeIn_8 : decode cX2_mayBeIn 8 = .ok (.iload_n 2, 1) := by decide +kernel
theorem dX2_mayBeIn_9 : decode cX2_mayBeIn 9 = .ok (.ifCond .eq 11, 3) := by decide +kernel
theorem dX2_mayBeIn_12 : decode cX2_mayBeIn 12 = .ok (.iload_n 2, 1) := by decide +kernel
theorem dX2_mayBeIn_13 : decode cX2_mayBeIn 13 = .ok (.aload_n 0, 1) := by decide +kernel
theorem dX2_mayBeIn_14 : decode cX2_mayBeIn 14 = .ok (.getfield 26, 3) := by decide +kernel
theorem dX2_mayBeIn_17 : decode cX2_mayBeIn 17 = .ok (.if_icmp .ne 7, 3) := by decide +kernel
theorem dX2_mayBeIn_20 : decode cX2_mayBeIn 20 = .ok (.iconst 1, 1) := by decide +kernel
theorem dX2_mayBeIn_21 : decode cX2_mayBeIn 21 = .ok (.goto 4, 3) := by decide +kernel
theorem dX2_mayBeIn_24 : decode cX2_mayBeIn 24 = .ok (.iconst 0, 1) := by decide +kernel
theorem dX2_mayBeIn_25 : decode cX2_mayBeIn 25 = .ok (.ireturn, 1) := by decide +kernel
theorem dX2_needIfIn_0 : decode cX2_needIfIn 0 = .ok (.aload_n 0, 1) := by decide +kernel
theorem dX2_needIfIn_1 : decode cX2_needIfIn 1 = .ok (.getfield 19, 3) := by decide +kernel
theorem dX2_needIfIn_4 : decode cX2_needIfIn 4 = .ok (.iload_n 1, 1) := by decide +kernel
theorem dX2_needIfIn_5 : decode cX2_needIfIn 5 = .ok (.iconst 1, 1) := by decide +kernel
theorem dX2_needIfIn_6 : decode cX2_needIfIn 6 = .ok (.iadd, 1) := by decide +kernel
theorem dX2_needIfIn_7 : decode cX2_needIfIn 7 = .ok (.bipush 10, 2) := by decide +kernel
theorem dX2_needIfIn_9 : decode cX2_needIfIn 9 = .ok (.imul, 1) := by decide +kernel
theorem dX2_needIfIn_10 : decode cX2_needIfIn 10 = .ok (.iaload, 1) := by decide +kernel
theorem dX2_needIfIn_11 : decode cX2_needIfIn 11 = .ok (.ireturn, 1) := by decide +kernel
theorem dX2_needIfOut_0 : decode cX2_needIfOut 0 = .ok (.iconst 1, 1) := by decide +kernel
theorem dX2_needIfOut_1 : decode cX2_needIfOut 1 = .ok (.aload_n 0, 1) := by decide +kernel
theorem dX2_needIfOut_2 : decode cX2_needIfOut 2 = .ok (.getfield 19, 3) := by decide +kernel
theorem dX2_needIfOut_5 : decode cX2_needIfOut 5 = .ok (.iload_n 1, 1) := by decide +kernel
theorem dX2_needIfOut_6 : decode cX2_needIfOut 6 = .ok (.iconst 1, 1) := by decide +kernel
theorem dX2_needIfOut_7 : decode cX2_needIfOut 7 = .ok (.iadd, 1) := by decide +kernel
theorem dX2_needIfOut_8 : decode cX2_needIfOut 8 = .ok (.bipush 10, 2) := by decide +kernel
theorem dX2_needIfOut_10 : decode cX2_needIfOut 10 = .ok (.imul, 1) := by decide +kernel
theorem dX2_needIfOut_11 : decode cX2_needIfOut 11 = .ok (.iload_n 2, 1) := by decide +kernel
theorem dX2_needIfOut_12 : decode cX2_needIfOut 12 = .ok (.iconst 1, 1) := by decide +kernel
theorem dX2_needIfOut_13 : decode cX2_needIfOut 13 = .ok (.iadd, 1) := by decide +kernel
theorem dX2_needIfOut_14 : decode cX2_needIfOut 14 = .ok (.aload_n 0, 1) := by decide +kernel
theorem dX2_needIfOut_15 : decode cX2_needIfOut 15 = .ok (.getfield 26, 3) := by decide +kernel
theorem dX2_needIfOut_18 : decode cX2_needIfOut 18 = .ok (.invokestatic 54, 3) := by decide +kernel
theorem dX2_needIfOut_21 : decode cX2_needIfOut 21 = .ok (.iadd, 1) := by decide +kernel
theorem dX2_needIfOut_22 : decode cX2_needIfOut 22 = .ok (.iaload, 1) := by decide +kernel
theorem dX2_needIfOut_23 : decode cX2_needIfOut 23 = .ok (.iadd, 1) := by decide +kernel
theorem dX2_needIfOut_24 : decode cX2_needIfOut 24 = .ok (.ireturn, 1) := by decide +kernel
theorem dX3_init_0 : decode cX3_init 0 = .ok (.aload_n 0, 1) := by decide +kernel
theorem dX3_init_1 : decode cX3_init 1 = .ok (.invokespecial 3, 3) := by decide +kernel
theorem dX3_init_4 : decode cX3_init 4 = .ok (.aload_n 0, 1) := by decide +kernel
theorem dX3_init_5 : decode cX3_init 5 = .ok (.sipush 200, 3) := by decide +kernel
theorem dX3_init_8 : decode cX3_init 8 = .ok (.newarray .byte, 2) := by decide +kernel
theorem dX3_init_10 : decode cX3_init 10 = .ok (.putfield 9, 3) := by decide +kernel
theorem dX3_init_13 : decode cX3_init 13 = .ok (.return_, 1) := by decide +kernel
theorem dX3_size_0 : decode cX3_size 0 = .ok (.aload_n 0, 1) := by decide +kernel
theorem dX3_size_1 : decode cX3_size 1 = .ok (.getfield 15, 3) := by decide +kernel
theorem dX3_size_4 : decode cX3_size 4 = .ok (.ireturn, 1) := by decide +kernel
theorem dX3_byteAt_0 : decode cX3_byteAt 0 = .ok (.iload_n 1, 1) := by decide +kernel
theorem dX3_byteAt_1 : decode cX3_byteAt 1 = .ok (.iconst 0, 1) := by decide +kernel
theorem dX3_byteAt_2 : decode cX3_byteAt 2 = .ok (.aload_n 0, 1) := by decide +kernel
theorem dX3_byteAt_3 : decode cX3_byteAt 3 = .ok (.getfield 15, 3) := by decide +kernel
theorem dX3_byteAt_6 : decode cX3_byteAt 6 = .ok (.iconst 1, 1) := by decide +kernel
theorem dX3_byteAt_7 : decode cX3_byteAt 7 = .ok (.isub, 1) := by decide +kernel
theorem dX3_byteAt_8 : decode cX3_byteAt 8 = .ok (.invokestatic 19, 3) := by decide +kernel
theorem dX3_byteAt_11 : decode cX3_byteAt 11 = .ok (.ifCond .eq 16, 3) := by decide +kernel
theorem dX3_byteAt_14 : decode cX3_byteAt 14 = .ok (.aload_n 0, 1) := by decide +kernel
theorem dX3_byteAt_15 : decode cX3_byteAt 15 = .ok (.getfield 9, 3) := by decide +kernel
theorem dX3_byteAt_18 : decode cX3_byteAt 18 = .ok (.iload_n 1, 1) := by decide +kernel
theorem dX3_byteAt_19 : decode cX3_byteAt 19 = .ok (.baload, 1) := by decide +kernel
theorem dX3_byteAt_20 : decode cX3_byteAt 20 = .ok (.sipush 255, 3) := by decide +kernel
theorem dX3_byteAt_23 : decode cX3_byteAt 23 = .ok (.iand, 1) := by decide +kernel
theorem dX3_byteAt_24 : decode cX3_byteAt 24 = .ok (.goto 4, 3) := by decide +kernel
theorem dX3_byteAt_27 : decode cX3_byteAt 27 = .ok (.iconst (-1), 1) := by decide +kernel
theorem dX3_byteAt_28 : decode cX3_byteAt 28 = .ok (.ireturn, 1) := by decide +kernel
theorem dX3_addWord_0 : decode cX3_addWord 0 = .ok (.bipush 24, 2) := by decide +kernel
theorem dX3_addWord_2 : decode cX3_addWord 2 = .ok (.istore_n 2, 1) := by decide +kernel
theorem dX3_addWord_3 : decode cX3_addWord 3 = .ok (.iload_n 2, 1) := by decide +kernel
theorem dX3_addWord_4 : decode cX3_addWord 4 = .ok (.ifCond .lt 42, 3) := by decide +kernel
theorem dX3_addWord_7 : decode cX3_addWord 7 = .ok (.aload_n 0, 1) := by decide +kernel
theorem dX3_addWord_8 : decode cX3_addWord 8 = .ok (.getfield 15, 3) := by decide +kernel
theorem dX3_addWord_11 : decode cX3_addWord 11 = .ok (.sipush 200, 3) := by decide +kernel
theorem dX3_addWord_14 : decode cX3_addWord 14 = .ok (.if_icmp .ge 32, 3) := by decide +kernel
theorem dX3_addWord_17 : decode cX3_addWord 17 = .ok (.aload_n 0, 1) := by decide +kernel
theorem dX3_addWord_18 : decode cX3_addWord 18 = .ok (.getfield 9, 3) := by decide +kernel
theorem dX3_addWord_21 : decode cX3_addWord 21 = .ok (.aload_n 0, 1) := by decide +kernel
theorem dX3_addWord_22 : decode cX3_addWord 22 = .ok (.getfield 15, 3) := by decide +kernel
theorem dX3_addWord_25 : decode cX3_addWord 25 = .ok (.iload_n 1, 1) := by decide +kernel
theorem dX3_addWord_26 : decode cX3_addWord 26 = .ok (.iload_n 2, 1) := by decide +kernel
theorem dX3_addWord_27 : decode cX3_addWord 27 = .ok (.ishr, 1) := by decide +kernel
theorem dX3_addWord_28 : decode cX3_addWord 28 = .ok (.i2b, 1) := by decide +kernel
theorem dX3_addWord_29 : decode cX3_addWord 29 = .ok (.bastore, 1) := by decide +kernel
theorem dX3_addWord_30 : decode cX3_addWord 30 = .ok (.aload_n 0, 1) := by decide +kernel
theorem dX3_addWord_31 : decode cX3_addWord 31 = .ok (.dup, 1) := by decide +kernel
theorem dX3_addWord_32 : decode cX3_addWord 32 = .ok (.getfield 15, 3) := by decide +kernel
theorem dX3_addWord_35 : decode cX3_addWord 35 = .ok (.iconst 1, 1) := by decide +kernel
theorem dX3_addWord_36 : decode cX3_addWord 36 = .ok (.iadd, 1) := by decide +kernel
theorem dX3_addWord_37 : decode cX3_addWord 37 = .ok (.putfield 15, 3) := by decide +kernel
theorem dX3_addWord_40 : decode cX3_addWord 40 = .ok (.iinc 2 (-8), 3) := by decide +kernel
theorem dX3_addWord_43 : decode cX3_addWord 43 = .ok (.goto (-40), 3) := by decide +kernel
theorem dX3_addWord_46 : decode cX3_addWord 46 = .ok (.return_, 1) := by decide +kernel
theorem dX3_cutTo_0 : decode cX3_cutTo 0 = .ok (.aload_n 0, 1) := by decide +kernel
theorem dX3_cutTo_1 : decode cX3_cutTo 1 = .ok (.iload_n 1, 1) := by decide +kernel
theorem dX3_cutTo_2 : decode cX3_cutTo 2 = .ok (.putfield 15, 3) := by decide +kernel
theorem dX3_cutTo_5 : decode cX3_cutTo 5 = .ok (.return_, 1) := by decide +kernel
theorem dX4_init_0 : decode cX4_init 0 = .ok (.aload_n 0, 1) := by decide +kernel
theorem dX4_init_1 : decode cX4_init 1 = .ok (.invokespecial 3, 3) := by decide +kernel
theorem dX4_init_4 : decode cX4_init 4 = .ok (.aload_n 0, 1) := by decide +kernel
theorem dX4_init_5 : decode cX4_init 5 = .ok (.bipush 6, 2) := by decide +kernel
theorem dX4_init_7 : decode cX4_init 7 = .ok (.newarray .int, 2) := by decide +kernel
theorem dX4_init_9 : decode cX4_init 9 = .ok (.putfield 9, 3) := by decide +kernel
theorem dX4_init_12 : decode cX4_init 12 = .ok (.aload_n 0, 1) := by decide +kernel
theorem dX4_init_13 : decode cX4_init 13 = .ok (.bipush 6, 2) := by decide +kernel
theorem dX4_init_15 : decode cX4_init 15 = .ok (.newarray .int, 2) := by decide +kernel
theorem dX4_init_17 : decode cX4_init 17 = .ok (.putfield 15, 3) := by decide +kernel
theorem dX4_init_20 : decode cX4_init 20 = .ok (.aload_n 0, 1) := by decide +kernel
theorem dX4_init_21 : decode cX4_init 21 = .ok (.bipush 120, 2) := by decide +kernel
theorem dX4_init_23 : decode cX4_init 23 = .ok (.newarray .int, 2) := by decide +kernel
theorem dX4_init_25 : decode cX4_init 25 = .ok (.putfield 18, 3) := by decide +kernel
theorem dX4_init_28 : decode cX4_init 28 = .ok (.aload_n 0, 1) := by decide +kernel
theorem dX4_init_29 : decode cX4_init 29 = .ok (.getfield 18, 3) := by decide +kernel
theorem dX4_init_32 : decode cX4_init 32 = .ok (.iconst (-1), 1) := by decide +kernel
theorem dX4_init_33 : decode cX4_init 33 = .ok (.invokestatic 21, 3) := by decide +kernel
theorem dX4_init_36 : decode cX4_init 36 = .ok (.return_, 1) := by decide +kernel
theorem dX4_tollOf_0 : decode cX4_tollOf 0 = .ok (.aload_n 0, 1) := by decide +kernel
theorem dX4_tollOf_1 : decode cX4_tollOf 1 = .ok (.getfield 9, 3) := by decide +kernel
theorem dX4_tollOf_4 : decode cX4_tollOf 4 = .ok (.iload_n 1, 1) := by decide +kernel
theorem dX4_tollOf_5 : decode cX4_tollOf 5 = .ok (.iaload, 1) := by decide +kernel
theorem dX4_tollOf_6 : decode cX4_tollOf 6 = .ok (.ireturn, 1) := by decide +kernel
theorem dX4_againOf_0 : decode cX4_againOf 0 = .ok (.aload_n 0, 1) := by decide +kernel
theorem dX4_againOf_1 : decode cX4_againOf 1 = .ok (.getfield 15, 3) := by decide +kernel
theorem dX4_againOf_4 : decode cX4_againOf 4 = .ok (.iload_n 1, 1) := by decide +kernel
theorem dX4_againOf_5 : decode cX4_againOf 5 = .ok (.iaload, 1) := by decide +kernel
theorem dX4_againOf_6 : decode cX4_againOf 6 = .ok (.ireturn, 1) := by decide +kernel
theorem dX4_latestMinute_0 : decode cX4_latestMinute 0 = .ok (.aload_n 0, 1) := by decide +kernel
theorem dX4_latestMinute_1 : decode cX4_latestMinute 1 = .ok (.getfield 27, 3) := by decide +kernel
theorem dX4_latestMinute_4 : decode cX4_latestMinute 4 = .ok (.ireturn, 1) := by decide +kernel
theorem dX4_paidTogether_0 : decode cX4_paidTogether 0 = .ok (.aload_n 0, 1) := by decide +kernel
theorem dX4_paidTogether_1 : decode cX4_paidTogether 1 = .ok (.getfield 31, 3) := by decide +kernel
theorem dX4_paidTogether_4 : decode cX4_paidTogether 4 = .ok (.ireturn, 1) := by decide +kernel
theorem dX4_wentFree_0 : decode cX4_wentFree 0 = .ok (.aload_n 0, 1) := by decide +kernel
theorem dX4_wentFree_1 : decode cX4_wentFree 1 = .ok (.getfield 34, 3) := by decide +kernel
theorem dX4_wentFree_4 : decode cX4_wentFree 4 = .ok (.ireturn, 1) := by decide +kernel
theorem dX4_adopt_0 : decode cX4_adopt 0 = .ok (.iconst 0, 1) := by decide +kernel
theorem dX4_adopt_1 : decode cX4_adopt 1 = .ok (.istore_n 2, 1) := by decide +kernel
theorem dX4_adopt_2 : decode cX4_adopt 2 = .ok (.iload_n 2, 1) := by decide +kernel
theorem dX4_adopt_3 : decode cX4_adopt 3 = .ok (.bipush 6, 2) := by decide +kernel
theorem dX4_adopt_5 : decode cX4_adopt 5 = .ok (.if_icmp .ge 31, 3) := by decide +kernel
theorem dX4_adopt_8 : decode cX4_adopt 8 = .ok (.aload_n 0, 1) := by decide +kernel
theorem dX4_adopt_9 : decode cX4_adopt 9 = .ok (.getfield 9, 3) := by decide +kernel
theorem dX4_adopt_12 : decode cX4_adopt 12 = .ok (.iload_n 2, 1) := by decide +kernel
theorem dX4_adopt_13 : decode cX4_adopt 13 = .ok (.aload_n 1, 1) := by decide +kernel
theorem dX4_adopt_14 : decode cX4_adopt 14 = .ok (.iload_n 2, 1) := by decide +kernel
theorem dX4_adopt_15 : decode cX4_adopt 15 = .ok (.invokevirtual 37, 3) := by decide +kernel
theorem dX4_adopt_18 : decode cX4_adopt 18 = .ok (.iastore, 1) := by decide +kernel
theorem dX4_adopt_19 : decode cX4_adopt 19 = .ok (.aload_n 0, 1) := by decide +kernel
theorem dX4_adopt_20 : decode cX4_adopt 20 = .ok (.getfield 15, 3) := by decide +kernel
theorem dX4_adopt_23 : decode cX4_adopt 23 = .ok (.iload_n 2, 1) := by decide +kernel
theorem dX4_adopt_24 : decode cX4_adopt 24 = .ok (.aload_n 1, 1) := by decide +kernel
theorem dX4_adopt_25 : decode cX4_adopt 25 = .ok (.iload_n 2, 1) := by decide +kernel
theorem dX4_adopt_26 : decode cX4_adopt 26 = .ok (.invokevirtual 43, 3) := by decide +kernel
theorem dX4_adopt_29 : decode cX4_adopt 29 = .ok (.iastore, 1) := by decide +kernel
theorem dX4_adopt_30 : decode cX4_adopt 30 = .ok (.iinc 2 1, 3) := by decide +kernel
theorem dX4_adopt_33 : decode cX4_adopt 33 = .ok (.goto (-31), 3) := by decide +kernel
theorem dX4_adopt_36 : decode cX4_adopt 36 = .ok (.return_, 1) := by decide +kernel
theorem dX4_charge_0 : decode cX4_charge 0 = .ok (.aload_n 0, 1) := by decide +kernel
theorem dX4_charge_1 : decode cX4_charge 1 = .ok (.iload_n 3, 1) := by decide +kernel
theorem dX4_charge_2 : decode cX4_charge 2 = .ok (.putfield 27, 3) := by decide +kernel
theorem dX4_charge_5 : decode cX4_charge 5 = .ok (.iload_n 2, 1) := by decide +kernel
theorem dX4_charge_6 : decode cX4_charge 6 = .ok (.bipush 6, 2) := by decide +kernel
theorem dX4_charge_8 : decode cX4_charge 8 = .ok (.imul, 1) := by decide +kernel
theorem dX4_charge_9 : decode cX4_charge 9 = .ok (.iload_n 1, 1) := by decide +kernel
theorem dX4_charge_10 : decode cX4_charge 10 = .ok (.iadd, 1) := by decide +kernel
theorem dX4_charge_11 : decode cX4_charge 11 = .ok (.istore 4, 2) := by decide +kernel
theorem dX4_charge_13 : decode cX4_charge 13 = .ok (.aload_n 0, 1) := by decide +kernel
theorem dX4_charge_14 : decode cX4_charge 14 = .ok (.iload_n 1, 1) := by decide +kernel
theorem dX4_charge_15 : decode cX4_charge 15 = .ok (.iload 4, 2) := by decide +kernel
theorem dX4_charge_17 : decode cX4_charge 17 = .ok (.iload_n 3, 1) := by decide +kernel
theorem dX4_charge_18 : decode cX4_charge 18 = .ok (.invokevirtual 46, 3) := by decide +kernel
theorem dX4_charge_21 : decode cX4_charge 21 = .ok (.ifCond .eq 23, 3) := by decide +kernel
theorem dX4_charge_24 : decode cX4_charge 24 = .ok (.aload_n 0, 1) := by decide +kernel
theorem dX4_charge_25 : decode cX4_charge 25 = .ok (.getfield 18, 3) := by decide +kernel
theorem dX4_charge_28 : decode cX4_charge 28 = .ok (.iload 4, 2) := by decide +kernel
theorem dX4_charge_30 : decode cX4_charge 30 = .ok (.iconst (-1), 1) := by decide +kernel
theorem dX4_charge_31 : decode cX4_charge 31 = .ok (.iastore, 1) := by decide +kernel
theorem dX4_charge_32 : decode cX4_charge 32 = .ok (.aload_n 0, 1) := by decide +kernel
theorem dX4_charge_33 : decode cX4_charge 33 = .ok (.dup, 1) := by decide +kernel
theorem dX4_charge_34 : decode cX4_charge 34 = .ok (.getfield 34, 3) := by decide +kernel
theorem dX4_charge_37 : decode cX4_charge 37 = .ok (.iconst 1, 1) := by decide +kernel
theorem dX4_charge_38 : decode cX4_charge 38 = .ok (.iadd, 1) := by decide +kernel
theorem dX4_charge_39 : decode cX4_charge 39 = .ok (.putfield 34, 3) := by decide +kernel
theorem dX4_charge_42 : decode cX4_charge 42 = .ok (.iconst 0, 1) := by decide +kernel
theorem dX4_charge_43 : decode cX4_charge 43 = .ok (.ireturn, 1) := by decide +kernel
theorem dX4_charge_44 : decode cX4_charge 44 = .ok (.aload_n 0, 1) := by decide +kernel
theorem dX4_charge_45 : decode cX4_charge 45 = .ok (.getfield 9, 3) := by decide +kernel
theorem dX4_charge_48 : decode cX4_charge 48 = .ok (.iload_n 1, 1) := by decide +kernel
theorem dX4_charge_49 : decode cX4_charge 49 = .ok (.iaload, 1) := by decide +kernel
theorem dX4_charge_50 : decode cX4_charge 50 = .ok (.ifCond .le 26, 3) := by decide +kernel
theorem dX4_charge_53 : decode cX4_charge 53 = .ok (.aload_n 0, 1) := by decide +kernel
theorem dX4_charge_54 : decode cX4_charge 54 = .ok (.getfield 18, 3) := by decide +kernel
theorem dX4_charge_57 : decode cX4_charge 57 = .ok (.iload 4, 2) := by decide +kernel
theorem dX4_charge_59 : decode cX4_charge 59 = .ok (.iload_n 3, 1) := by decide +kernel
theorem dX4_charge_60 : decode cX4_charge 60 = .ok (.iastore, 1) := by decide +kernel
theorem dX4_charge_61 : decode cX4_charge 61 = .ok (.aload_n 0, 1) := by decide +kernel
theorem dX4_charge_62 : decode cX4_charge 62 = .ok (.dup, 1) := by decide +kernel
theorem dX4_charge_63 : decode cX4_charge 63 = .ok (.getfield 31, 3) := by decide +kernel
theorem dX4_charge_66 : decode cX4_charge 66 = .ok (.aload_n 0, 1) := by decide +kernel
theorem dX4_charge_67 : decode cX4_charge 67 = .ok (.getfield 9, 3) := by decide +kernel
theorem dX4_charge_70 : decode cX4_charge 70 = .ok (.iload_n 1, 1) := by decide +kernel
theorem dX4_charge_71 : decode cX4_charge 71 = .ok (.iaload, 1) := by decide +kernel
theorem dX4_charge_72 : decode cX4_charge 72 = .ok (.iadd, 1) := by decide +kernel
theorem dX4_charge_73 : decode cX4_charge 73 = .ok (.putfield 31, 3) := by decide +kernel
theorem dX4_charge_76 : decode cX4_charge 76 = .ok (.aload_n 0, 1) := by decide +kernel
theorem dX4_charge_77 : decode cX4_charge 77 = .ok (.getfield 9, 3) := by decide +kernel
theorem dX4_charge_80 : decode cX4_charge 80 = .ok (.iload_n 1, 1) := by decide +kernel
theorem dX4_charge_81 : decode cX4_charge 81 = .ok (.iaload, 1) := by decide +kernel
theorem dX4_charge_82 : decode cX4_charge 82 = .ok (.ireturn, 1) := by decide +kernel
theorem dX4_goesFree_0 : decode cX4_goesFree 0 = .ok (.aload_n 0, 1) := by decide +kernel
theorem dX4_goesFree_1 : decode cX4_goesFree 1 = .ok (.getfield 15, 3) := by decide +kernel
theorem dX4_goesFree_4 : decode cX4_goesFree 4 = .ok (.iload_n 1, 1) := by decide +kernel
theorem dX4_goesFree_5 : decode cX4_goesFree 5 = .ok (.iaload, 1) := by decide +kernel
theorem dX4_goesFree_6 : decode cX4_goesFree 6 = .ok (.ifCond .le 34, 3) := by decide +kernel
theorem dX4_goesFree_9 : decode cX4_goesFree 9 = .ok (.aload_n 0, 1) := by decide +kernel
theorem dX4_goesFree_10 : decode cX4_goesFree 10 = .ok (.getfield 18, 3) := by decide +kernel
theorem dX4_goesFree_13 : decode cX4_goesFree 13 = .ok (.iload_n 2, 1) := by decide +kernel
theorem dX4_goesFree_14 : decode cX4_goesFree 14 = .ok (.iaload, 1) := by decide +kernel
theorem dX4_goesFree_15 : decode cX4_goesFree 15 = .ok (.iconst (-1), 1) := by decide +kernel
theorem dX4_goesFree_16 : decode cX4_goesFree 16 = .ok (.if_icmp .eq 24, 3) := by decide +kernel
theorem dX4_goesFree_19 : decode cX4_goesFree 19 = .ok (.iload_n 3, 1) := by decide +kernel
theorem dX4_goesFree_20 : decode cX4_goesFree 20 = .ok (.aload_n 0, 1) := by decide +kernel
theorem dX4_goesFree_21 : decode cX4_goesFree 21 = .ok (.getfield 18, 3) := by decide +kernel
theorem dX4_goesFree_24 : decode cX4_goesFree 24 = .ok (.iload_n 2, 1) := by decide +kernel
theorem dX4_goesFree_25 : decode cX4_goesFree 25 = .ok (.iaload, 1) := by decide +kernel
theorem dX4_goesFree_26 : decode cX4_goesFree 26 = .ok (.isub, 1) := by decide +kernel
theorem dX4_goesFree_27 : decode cX4_goesFree 27 = .ok (.aload_n 0, 1) := by decide +kernel
theorem dX4_goesFree_28 : decode cX4_goesFree 28 = .ok (.getfield 15, 3) := by decide +kernel
theorem dX4_goesFree_31 : decode cX4_goesFree 31 = .ok (.iload_n 1, 1) := by decide +kernel
theorem dX4_goesFree_32 : decode cX4_goesFree 32 = .ok (.iaload, 1) := by decide +kernel
theorem dX4_goesFree_33 : decode cX4_goesFree 33 = .ok (.if_icmp .gt 7, 3) := by decide +kernel
theorem dX4_goesFree_36 : decode cX4_goesFree 36 = .ok (.iconst 1, 1) := by decide +kernel
theorem dX4_goesFree_37 : decode cX4_goesFree 37 = .ok (.goto 4, 3) := by decide +kernel
theorem dX4_goesFree_40 : decode cX4_goesFree 40 = .ok (.iconst 0, 1) := by decide +kernel
theorem dX4_goesFree_41 : decode cX4_goesFree 41 = .ok (.ireturn, 1) := by decide +kernel
theorem dX5_init_0 : decode cX5_init 0 = .ok (.aload_n 0, 1) := by decide +kernel
theorem dX5_init_1 : decode cX5_init 1 = .ok (.invokespecial 3, 3) := by decide +kernel
theorem dX5_init_4 : decode cX5_init 4 = .ok (.aload_n 0, 1) := by decide +kernel
theorem dX5_init_5 : decode cX5_init 5 = .ok (.bipush 6, 2) := by decide +kernel
theorem dX5_init_7 : decode cX5_init 7 = .ok (.newarray .int, 2) := by decide +kernel
theorem dX5_init_9 : decode cX5_init 9 = .ok (.putfield 9, 3) := by decide +kernel
theorem dX5_init_12 : decode cX5_init 12 = .ok (.aload_n 0, 1) := by decide +kernel
theorem dX5_init_13 : decode cX5_init 13 = .ok (.bipush 6, 2) := by decide +kernel
theorem dX5_init_15 : decode cX5_init 15 = .ok (.newarray .int, 2) := by decide +kernel
theorem dX5_init_17 : decode cX5_init 17 = .ok (.putfield 15, 3) := by decide +kernel
theorem dX5_init_20 : decode cX5_init 20 = .ok (.aload_n 0, 1) := by decide +kernel
theorem dX5_init_21 : decode cX5_init 21 = .ok (.iconst (-1), 1) := by decide +kernel
theorem dX5_init_22 : decode cX5_init 22 = .ok (.putfield 18, 3) := by decide +kernel
theorem dX5_init_25 : decode cX5_init 25 = .ok (.aload_n 0, 1) := by decide +kernel
theorem dX5_init_26 : decode cX5_init 26 = .ok (.iconst (-1), 1) := by decide +kernel
theorem dX5_init_27 : decode cX5_init 27 = .ok (.putfield 22, 3) := by decide +kernel
theorem dX5_init_30 : decode cX5_init 30 = .ok (.return_, 1) := by decide +kernel
theorem dX5_clauseCount_0 : decode cX5_clauseCount 0 = .ok (.aload_n 0, 1) := by decide +kernel
theorem dX5_clauseCount_1 : decode cX5_clauseCount 1 = .ok (.getfield 25, 3) := by decide +kernel
theorem dX5_clauseCount_4 : decode cX5_clauseCount 4 = .ok (.ireturn, 1) := by decide +kernel
theorem dX5_faultNumber_0 : decode cX5_faultNumber 0 = .ok (.aload_n 0, 1) := by decide +kernel
theorem dX5_faultNumber_1 : decode cX5_faultNumber 1 = .ok (.getfield 18, 3) := by decide +kernel
theorem dX5_faultNumber_4 : decode cX5_faultNumber 4 = .ok (.ireturn, 1) := by decide +kernel
theorem dX5_faultAt_0 : decode cX5_faultAt 0 = .ok (.aload_n 0, 1) := by decide +kernel
theorem dX5_faultAt_1 : decode cX5_faultAt 1 = .ok (.getfield 22, 3) := by decide +kernel
theorem dX5_faultAt_4 : decode cX5_faultAt 4 = .ok (.ireturn, 1) := by decide +kernel
theorem dX5_readToll_0 : decode cX5_readToll 0 = .ok (.iconst 0, 1) := by decide +kernel
theorem dX5_readToll_1 : decode cX5_readToll 1 = .ok (.aload_n 0, 1) := by decide +kernel
theorem dX5_readToll_2 : decode cX5_readToll 2 = .ok (.getfield 9, 3) := by decide +kernel
theorem dX5_readToll_5 : decode cX5_readToll 5 = .ok (.iload_n 1, 1) := by decide +kernel
theorem dX5_readToll_6 : decode cX5_readToll 6 = .ok (.iaload, 1) := by decide +kernel
theorem dX5_readToll_7 : decode cX5_readToll 7 = .ok (.invokestatic 28, 3) := by decide +kernel
theorem dX5_readToll_10 : decode cX5_readToll 10 = .ok (.ireturn, 1) := by decide +kernel
theorem dX5_readAgain_0 : decode cX5_readAgain 0 = .ok (.iconst 0, 1) := by decide +kernel
theorem dX5_readAgain_1 : decode cX5_readAgain 1 = .ok (.aload_n 0, 1) := by decide +kernel
theorem dX5_readAgain_2 : decode cX5_readAgain 2 = .ok (.getfield 15, 3) := by decide +kernel
theorem dX5_readAgain_5 : decode cX5_readAgain 5 = .ok (.iload_n 1, 1) := by decide +kernel
theorem dX5_readAgain_6 : decode cX5_readAgain 6 = .ok (.iaload, 1) := by decide +kernel
theorem dX5_readAgain_7 : decode cX5_readAgain 7 = .ok (.invokestatic 28, 3) := by decide +kernel
theorem dX5_readAgain_10 : decode cX5_readAgain 10 = .ok (.ireturn, 1) := by decide +kernel
theorem dX5_read_0 : decode cX5_read 0 = .ok (.aload_n 0, 1) := by decide +kernel
theorem dX5_read_1 : decode cX5_read 1 = .ok (.invokevirtual 34, 3) := by decide +kernel
theorem dX5_read_4 : decode cX5_read 4 = .ok (.iconst 0, 1) := by decide +kernel
theorem dX5_read_5 : decode cX5_read 5 = .ok (.istore_n 2, 1) := by decide +kernel
theorem dX5_read_6 : decode cX5_read 6 = .ok (.iload_n 2, 1) := by decide +kernel
theorem dX5_read_7 : decode cX5_read 7 = .ok (.aload_n 1, 1) := by decide +kernel
theorem dX5_read_8 : decode cX5_read 8 = .ok (.invokevirtual 37, 3) := by decide +kernel
theorem dX5_read_11 : decode cX5_read 11 = .ok (.if_icmp .gt 54, 3) := by decide +kernel
theorem dX5_read_14 : decode cX5_read 14 = .ok (.aload_n 0, 1) := by decide +kernel
theorem dX5_read_15 : decode cX5_read 15 = .ok (.aload_n 1, 1) := by decide +kernel
theorem dX5_read_16 : decode cX5_read 16 = .ok (.invokevirtual 43, 3) := by decide +kernel
theorem dX5_read_19 : decode cX5_read 19 = .ok (.aload_n 0, 1) := by decide +kernel
theorem dX5_read_20 : decode cX5_read 20 = .ok (.getfield 47, 3) := by decide +kernel
theorem dX5_read_23 : decode cX5_read 23 = .ok (.ifCond .ne 12, 3) := by decide +kernel
theorem dX5_read_26 : decode cX5_read 26 = .ok (.aload_n 0, 1) := by decide +kernel
theorem dX5_read_27 : decode cX5_read 27 = .ok (.getfield 50, 3) := by decide +kernel
theorem dX5_read_30 : decode cX5_read 30 = .ok (.ifCond .ne 5, 3) := by decide +kernel
theorem dX5_read_33 : decode cX5_read 33 = .ok (.iconst 1, 1) := by decide +kernel
theorem dX5_read_34 : decode cX5_read 34 = .ok (.ireturn, 1) := by decide +kernel
theorem dX5_read_35 : decode cX5_read 35 = .ok (.aload_n 0, 1) := by decide +kernel
theorem dX5_read_36 : decode cX5_read 36 = .ok (.invokevirtual 53, 3) := by decide +kernel
theorem dX5_read_39 : decode cX5_read 39 = .ok (.istore_n 3, 1) := by decide +kernel
theorem dX5_read_40 : decode cX5_read 40 = .ok (.iload_n 3, 1) := by decide +kernel
theorem dX5_read_41 : decode cX5_read 41 = .ok (.ifCond .eq 18, 3) := by decide +kernel
theorem dX5_read_44 : decode cX5_read 44 = .ok (.aload_n 0, 1) := by decide +kernel
theorem dX5_read_45 : decode cX5_read 45 = .ok (.iload_n 3, 1) := by decide +kernel
theorem dX5_read_46 : decode cX5_read 46 = .ok (.putfield 18, 3) := by decide +kernel
theorem dX5_read_49 : decode cX5_read 49 = .ok (.aload_n 0, 1) := by decide +kernel
theorem dX5_read_50 : decode cX5_read 50 = .ok (.aload_n 0, 1) := by decide +kernel
theorem dX5_read_51 : decode cX5_read 51 = .ok (.getfield 56, 3) := by decide +kernel
theorem dX5_read_54 : decode cX5_read 54 = .ok (.putfield 22, 3) := by decide +kernel
theorem dX5_read_57 : decode cX5_read 57 = .ok (.iconst 0, 1) := by decide +kernel
theorem dX5_read_58 : decode cX5_read 58 = .ok (.ireturn, 1) := by decide +kernel
theorem dX5_read_59 : decode cX5_read 59 = .ok (.iinc 2 1, 3) := by decide +kernel
theorem dX5_read_62 : decode cX5_read 62 = .ok (.goto (-56), 3) := by decide +kernel
theorem dX5_read_65 : decode cX5_read 65 = .ok (.iconst 1, 1) := by decide +kernel
theorem dX5_read_66 : decode cX5_read 66 = .ok (.ireturn, 1) := by decide +kernel
theorem dX5_begin_0 : decode cX5_begin 0 = .ok (.aload_n 0, 1) := by decide +kernel
theorem dX5_begin_1 : decode cX5_begin 1 = .ok (.getfield 9, 3) := by decide +kernel
theorem dX5_begin_4 : decode cX5_begin 4 = .ok (.iconst (-1), 1) := by decide +kernel
theorem dX5_begin_5 : decode cX5_begin 5 = .ok (.invokestatic 59, 3) := by decide +kernel
theorem dX5_begin_8 : decode cX5_begin 8 = .ok (.aload_n 0, 1) := by decide +kernel
theorem dX5_begin_9 : decode cX5_begin 9 = .ok (.getfield 15, 3) := by decide +kernel
theorem dX5_begin_12 : decode cX5_begin 12 = .ok (.iconst (-1), 1) := by decide +kernel
theorem dX5_begin_13 : decode cX5_begin 13 = .ok (.invokestatic 59, 3) := by decide +kernel
theorem dX5_begin_16 : decode cX5_begin 16 = .ok (.aload_n 0, 1) := by decide +kernel
theorem dX5_begin_17 : decode cX5_begin 17 = .ok (.iconst 0, 1) := by decide +kernel
theorem dX5_begin_18 : decode cX5_begin 18 = .ok (.putfield 25, 3) := by decide +kernel
theorem dX5_begin_21 : decode cX5_begin 21 = .ok (.aload_n 0, 1) := by decide +kernel
theorem dX5_begin_22 : decode cX5_begin 22 = .ok (.iconst 0, 1) := by decide +kernel
theorem dX5_begin_23 : decode cX5_begin 23 = .ok (.putfield 18, 3) := by decide +kernel
theorem dX5_begin_26 : decode cX5_begin 26 = .ok (.aload_n 0, 1) := by decide +kernel
theorem dX5_begin_27 : decode cX5_begin 27 = .ok (.iconst (-1), 1) := by decide +kernel
theorem dX5_begin_28 : decode cX5_begin 28 = .ok (.putfield 22, 3) := by decide +kernel
theorem dX5_begin_31 : decode cX5_begin 31 = .ok (.aload_n 0, 1) := by decide +kernel
theorem dX5_begin_32 : decode cX5_begin 32 = .ok (.iconst 0, 1) := by decide +kernel
theorem dX5_begin_33 : decode cX5_begin 33 = .ok (.putfield 65, 3) := by decide +kernel
theorem dX5_begin_36 : decode cX5_begin 36 = .ok (.aload_n 0, 1) := by decide +kernel
theorem dX5_begin_37 : decode cX5_begin 37 = .ok (.iconst 0, 1) := by decide +kernel
theorem dX5_begin_38 : decode cX5_begin 38 = .ok (.putfield 50, 3) := by decide +kernel
theorem dX5_begin_41 : decode cX5_begin 41 = .ok (.return_, 1) := by decide +kernel
theorem dX5_nextToken_0 : decode cX5_nextToken 0 = .ok (.aload_n 0, 1) := by decide +kernel
theorem dX5_nextToken_1 : decode cX5_nextToken 1 = .ok (.getfield 65, 3) := by decide +kernel
theorem dX5_nextToken_4 : decode cX5_nextToken 4 = .ok (.aload_n 1, 1) := by decide +kernel
theorem dX5_nextToken_5 : decode cX5_nextToken 5 = .ok (.invokevirtual 37, 3) := by decide +kernel
theorem dX5_nextToken_8 : decode cX5_nextToken 8 = .ok (.if_icmp .ge 29, 3) := by decide +kernel
theorem dX5_nextToken_11 : decode cX5_nextToken 11 = .ok (.aload_n 1, 1) := by decide +kernel
theorem dX5_nextToken_12 : decode cX5_nextToken 12 = .ok (.aload_n 0, 1) := by decide +kernel
theorem dX5_nextToken_13 : decode cX5_nextToken 13 = .ok (.getfield 65, 3) := by decide +kernel
theorem dX5_nextToken_16 : decode cX5_nextToken 16 = .ok (.invokevirtual 68, 3) := by decide +kernel
theorem dX5_nextToken_19 : decode cX5_nextToken 19 = .ok (.bipush 32, 2) := by decide +kernel
theorem dX5_nextToken_21 : decode cX5_nextToken 21 = .ok (.if_icmp .ne 16, 3) := by decide +kernel
theorem dX5_nextToken_24 : decode cX5_nextToken 24 = .ok (.aload_n 0, 1) := by decide +kernel
theorem dX5_nextToken_25 : decode cX5_nextToken 25 = .ok (.dup, 1) := by decide +kernel
theorem dX5_nextToken_26 : decode cX5_nextToken 26 = .ok (.getfield 65, 3) := by decide +kernel
theorem dX5_nextToken_29 : decode cX5_nextToken 29 = .ok (.iconst 1, 1) := by decide +kernel
theorem dX5_nextToken_30 : decode cX5_nextToken 30 = .ok (.iadd, 1) := by decide +kernel
theorem dX5_nextToken_31 : decode cX5_nextToken 31 = .ok (.putfield 65, 3) := by decide +kernel
theorem dX5_nextToken_34 : decode cX5_nextToken 34 = .ok (.goto (-34), 3) := by decide +kernel
theorem dX5_nextToken_37 : decode cX5_nextToken 37 = .ok (.aload_n 0, 1) := by decide +kernel
theorem dX5_nextToken_38 : decode cX5_nextToken 38 = .ok (.aload_n 0, 1) := by decide +kernel
theorem dX5_nextToken_39 : decode cX5_nextToken 39 = .ok (.getfield 65, 3) := by decide +kernel
theorem dX5_nextToken_42 : decode cX5_nextToken 42 = .ok (.putfield 56, 3) := by decide +kernel
theorem dX5_nextToken_45 : decode cX5_nextToken 45 = .ok (.aload_n 1, 1) := by decide +kernel
theorem dX5_nextToken_46 : decode cX5_nextToken 46 = .ok (.aload_n 0, 1) := by decide +kernel
theorem dX5_nextToken_47 : decode cX5_nextToken 47 = .ok (.getfield 65, 3) := by decide +kernel
theorem dX5_nextToken_50 : decode cX5_nextToken 50 = .ok (.invokevirtual 68, 3) := by decide +kernel
theorem dX5_nextToken_53 : decode cX5_nextToken 53 = .ok (.istore_n 2, 1) := by decide +kernel
theorem dX5_nextToken_54 : decode cX5_nextToken 54 = .ok (.aload_n 0, 1) := by decide +kernel
theorem dX5_nextToken_55 : decode cX5_nextToken 55 = .ok (.getfield 65, 3) := by decide +kernel
theorem dX5_nextToken_58 : decode cX5_nextToken 58 = .ok (.aload_n 1, 1) := by decide +kernel
theorem dX5_nextToken_59 : decode cX5_nextToken 59 = .ok (.invokevirtual 37, 3) := by decide +kernel
theorem dX5_nextToken_62 : decode cX5_nextToken 62 = .ok (.if_icmp .lt 11, 3) := by decide +kernel
theorem dX5_nextToken_65 : decode cX5_nextToken 65 = .ok (.aload_n 0, 1) := by decide +kernel
theorem dX5_nextToken_66 : decode cX5_nextToken 66 = .ok (.iconst 0, 1) := by decide +kernel
theorem dX5_nextToken_67 : decode cX5_nextToken 67 = .ok (.putfield 47, 3) := by decide +kernel
theorem dX5_nextToken_70 : decode cX5_nextToken 70 = .ok (.goto 58, 3) := by decide +kernel
theorem dX5_nextToken_73 : decode cX5_nextToken 73 = .ok (.iload_n 2, 1) := by decide +kernel
theorem dX5_nextToken_74 : decode cX5_nextToken 74 = .ok (.invokestatic 72, 3) := by decide +kernel
theorem dX5_nextToken_77 : decode cX5_nextToken 77 = .ok (.ifCond .eq 11, 3) := by decide +kernel
theorem dX5_nextToken_80 : decode cX5_nextToken 80 = .ok (.aload_n 0, 1) := by decide +kernel
theorem dX5_nextToken_81 : decode cX5_nextToken 81 = .ok (.aload_n 1, 1) := by decide +kernel
theorem dX5_nextToken_82 : decode cX5_nextToken 82 = .ok (.invokevirtual 76, 3) := by decide +kernel
theorem dX5_nextToken_85 : decode cX5_nextToken 85 = .ok (.goto 43, 3) := by decide +kernel
theorem dX5_nextToken_88 : decode cX5_nextToken 88 = .ok (.iload_n 2, 1) := by decide +kernel
theorem dX5_nextToken_89 : decode cX5_nextToken 89 = .ok (.invokestatic 79, 3) := by decide +kernel
theorem dX5_nextToken_92 : decode cX5_nextToken 92 = .ok (.ifCond .eq 11, 3) := by decide +kernel
theorem dX5_nextToken_95 : decode cX5_nextToken 95 = .ok (.aload_n 0, 1) := by decide +kernel
theorem dX5_nextToken_96 : decode cX5_nextToken 96 = .ok (.aload_n 1, 1) := by decide +kernel
theorem dX5_nextToken_97 : decode cX5_nextToken 97 = .ok (.invokevirtual 82, 3) := by decide +kernel
theorem dX5_nextToken_100 : decode cX5_nextToken 100 = .ok (.goto 28, 3) := by decide +kernel
theorem dX5_nextToken_103 : decode cX5_nextToken 103 = .ok (.aload_n 0, 1) := by decide +kernel
theorem dX5_nextToken_104 : decode cX5_nextToken 104 = .ok (.dup, 1) := by decide +kernel
theorem dX5_nextToken_105 : decode cX5_nextToken 105 = .ok (.getfield 65, 3) := by decide +kernel
theorem dX5_nextToken_108 : decode cX5_nextToken 108 = .ok (.iconst 1, 1) := by decide +kernel
theorem dX5_nextToken_109 : decode cX5_nextToken 109 = .ok (.iadd, 1) := by decide +kernel
theorem dX5_nextToken_110 : decode cX5_nextToken 110 = .ok (.putfield 65, 3) := by decide +kernel
theorem dX5_nextToken_113 : decode cX5_nextToken 113 = .ok (.aload_n 0, 1) := by decide +kernel
theorem dX5_nextToken_114 : decode cX5_nextToken 114 = .ok (.iload_n 2, 1) := by decide +kernel
theorem dX5_nextToken_115 : decode cX5_nextToken 115 = .ok (.bipush 59, 2) := by decide +kernel
theorem dX5_nextToken_117 : decode cX5_nextToken 117 = .ok (.if_icmp .ne 7, 3) := by decide +kernel
theorem dX5_nextToken_120 : decode cX5_nextToken 120 = .ok (.iconst 4, 1) := by decide +kernel
theorem dX5_nextToken_121 : decode cX5_nextToken 121 = .ok (.goto 4, 3) := by decide +kernel
theorem dX5_nextToken_124 : decode cX5_nextToken 124 = .ok (.iconst 5, 1) := by decide +kernel
theorem dX5_nextToken_125 : decode cX5_nextToken 125 = .ok (.putfield 47, 3) := by decide +kernel
theorem dX5_nextToken_128 : decode cX5_nextToken 128 = .ok (.return_, 1) := by decide +kernel
theorem dX5_takeDigits_0 : decode cX5_takeDigits 0 = .ok (.aload_n 0, 1) := by decide +kernel
theorem dX5_takeDigits_1 : decode cX5_takeDigits 1 = .ok (.iconst 3, 1) := by decide +kernel
theorem dX5_takeDigits_2 : decode cX5_takeDigits 2 = .ok (.putfield 47, 3) := by decide +kernel
theorem dX5_takeDigits_5 : decode cX5_takeDigits 5 = .ok (.aload_n 0, 1) := by decide +kernel
theorem dX5_takeDigits_6 : decode cX5_takeDigits 6 = .ok (.iconst 0, 1) := by decide +kernel
theorem dX5_takeDigits_7 : decode cX5_takeDigits 7 = .ok (.putfield 85, 3) := by decide +kernel
theorem dX5_takeDigits_10 : decode cX5_takeDigits 10 = .ok (.aload_n 0, 1) := by decide +kernel
theorem dX5_takeDigits_11 : decode cX5_takeDigits 11 = .ok (.getfield 65, 3) := by decide +kernel
theorem dX5_takeDigits_14 : decode cX5_takeDigits 14 = .ok (.aload_n 1, 1) := by decide +kernel
theorem dX5_takeDigits_15 : decode cX5_takeDigits 15 = .ok (.invokevirtual 37, 3) := by decide +kernel
theorem dX5_takeDigits_18 : decode cX5_takeDigits 18 = .ok (.if_icmp .ge 61, 3) := by decide +kernel
theorem dX5_takeDigits_21 : decode cX5_takeDigits 21 = .ok (.aload_n 1, 1) := by decide +kernel
theorem dX5_takeDigits_22 : decode cX5_takeDigits 22 = .ok (.aload_n 0, 1) := by decide +kernel
theorem dX5_takeDigits_23 : decode cX5_takeDigits 23 = .ok (.getfield 65, 3) := by decide +kernel
theorem dX5_takeDigits_26 : decode cX5_takeDigits 26 = .ok (.invokevirtual 68, 3) := by decide +kernel
theorem dX5_takeDigits_29 : decode cX5_takeDigits 29 = .ok (.invokestatic 72, 3) := by decide +kernel
theorem dX5_takeDigits_32 : decode cX5_takeDigits 32 = .ok (.ifCond .eq 47, 3) := by decide +kernel
theorem dX5_takeDigits_35 : decode cX5_takeDigits 35 = .ok (.aload_n 0, 1) := by decide +kernel
theorem dX5_takeDigits_36 : decode cX5_takeDigits 36 = .ok (.getfield 85, 3) := by decide +kernel
theorem dX5_takeDigits_39 : decode cX5_takeDigits 39 = .ok (.bipush 10, 2) := by decide +kernel
theorem dX5_takeDigits_41 : decode cX5_takeDigits 41 = .ok (.imul, 1) := by decide +kernel
theorem dX5_takeDigits_42 : decode cX5_takeDigits 42 = .ok (.aload_n 1, 1) := by decide +kernel
theorem dX5_takeDigits_43 : decode cX5_takeDigits 43 = .ok (.aload_n 0, 1) := by decide +kernel
theorem dX5_takeDigits_44 : decode cX5_takeDigits 44 = .ok (.getfield 65, 3) := by decide +kernel
theorem dX5_takeDigits_47 : decode cX5_takeDigits 47 = .ok (.invokevirtual 68, 3) := by decide +kernel
theorem dX5_takeDigits_50 : decode cX5_takeDigits 50 = .ok (.iadd, 1) := by decide +kernel
theorem dX5_takeDigits_51 : decode cX5_takeDigits 51 = .ok (.bipush 48, 2) := by decide +kernel
theorem dX5_takeDigits_53 : decode cX5_takeDigits 53 = .ok (.isub, 1) := by decide +kernel
theorem dX5_takeDigits_54 : decode cX5_takeDigits 54 = .ok (.istore_n 2, 1) := by decide +kernel
theorem dX5_takeDigits_55 : decode cX5_takeDigits 55 = .ok (.aload_n 0, 1) := by decide +kernel
theorem dX5_takeDigits_56 : decode cX5_takeDigits 56 = .ok (.iload_n 2, 1) := by decide +kernel
theorem dX5_takeDigits_57 : decode cX5_takeDigits 57 = .ok (.sipush 1000, 3) := by decide +kernel
theorem dX5_takeDigits_60 : decode cX5_takeDigits 60 = .ok (.invokestatic 88, 3) := by decide +kernel
theorem dX5_takeDigits_63 : decode cX5_takeDigits 63 = .ok (.putfield 85, 3) := by decide +kernel
theorem dX5_takeDigits_66 : decode cX5_takeDigits 66 = .ok (.aload_n 0, 1) := by decide +kernel
theorem dX5_takeDigits_67 : decode cX5_takeDigits 67 = .ok (.dup, 1) := by decide +kernel
theorem dX5_takeDigits_68 : decode cX5_takeDigits 68 = .ok (.getfield 65, 3) := by decide +kernel
theorem dX5_takeDigits_71 : decode cX5_takeDigits 71 = .ok (.iconst 1, 1) := by decide +kernel
theorem dX5_takeDigits_72 : decode cX5_takeDigits 72 = .ok (.iadd, 1) := by decide +kernel
theorem dX5_takeDigits_73 : decode cX5_takeDigits 73 = .ok (.putfield 65, 3) := by decide +kernel
theorem dX5_takeDigits_76 : decode cX5_takeDigits 76 = .ok (.goto (-66), 3) := by decide +kernel
theorem dX5_takeDigits_79 : decode cX5_takeDigits 79 = .ok (.return_, 1) := by decide +kernel
theorem dX5_takeLetters_0 : decode cX5_takeLetters 0 = .ok (.aload_n 0, 1) := by decide +kernel
theorem dX5_takeLetters_1 : decode cX5_takeLetters 1 = .ok (.getfield 65, 3) := by decide +kernel
theorem dX5_takeLetters_4 : decode cX5_takeLetters 4 = .ok (.aload_n 1, 1) := by decide +kernel
theorem dX5_takeLetters_5 : decode cX5_takeLetters 5 = .ok (.invokevirtual 37, 3) := by decide +kernel
theorem dX5_takeLetters_8 : decode cX5_takeLetters 8 = .ok (.if_icmp .ge 30, 3) := by decide +kernel
theorem dX5_takeLetters_11 : decode cX5_takeLetters 11 = .ok (.aload_n 1, 1) := by decide +kernel
theorem dX5_takeLetters_12 : decode cX5_takeLetters 12 = .ok (.aload_n 0, 1) := by decide +kernel
theorem dX5_takeLetters_13 : decode cX5_takeLetters 13 = .ok (.getfield 65, 3) := by decide +kernel
theorem dX5_takeLetters_16 : decode cX5_takeLetters 16 = .ok (.invokevirtual 68, 3) := by decide +kernel
theorem dX5_takeLetters_19 : decode cX5_takeLetters 19 = .ok (.invokestatic 79, 3) := by decide +kernel
theorem dX5_takeLetters_22 : decode cX5_takeLetters 22 = .ok (.ifCond .eq 16, 3) := by decide +kernel
theorem dX5_takeLetters_25 : decode cX5_takeLetters 25 = .ok (.aload_n 0, 1) := by decide +kernel
theorem dX5_takeLetters_26 : decode cX5_takeLetters 26 = .ok (.dup, 1) := by decide +kernel
theorem dX5_takeLetters_27 : decode cX5_takeLetters 27 = .ok (.getfield 65, 3) := by decide +kernel
theorem dX5_takeLetters_30 : decode cX5_takeLetters 30 = .ok (.iconst 1, 1) := by decide +kernel
theorem dX5_takeLetters_31 : decode cX5_takeLetters 31 = .ok (.iadd, 1) := by decide +kernel
theorem dX5_takeLetters_32 : decode cX5_takeLetters 32 = .ok (.putfield 65, 3) := by decide +kernel
theorem dX5_takeLetters_35 : decode cX5_takeLetters 35 = .ok (.goto (-35), 3) := by decide +kernel
theorem dX5_takeLetters_38 : decode cX5_takeLetters 38 = .ok (.aload_n 0, 1) := by decide +kernel
theorem dX5_takeLetters_39 : decode cX5_takeLetters 39 = .ok (.aload_n 1, 1) := by decide +kernel
theorem dX5_takeLetters_40 : decode cX5_takeLetters 40 = .ok (.ldc 91, 2) := by decide +kernel
theorem dX5_takeLetters_42 : decode cX5_takeLetters 42 = .ok (.invokevirtual 93, 3) := by decide +kernel
theorem dX5_takeLetters_45 : decode cX5_takeLetters 45 = .ok (.ifCond .eq 11, 3) := by decide +kernel
theorem dX5_takeLetters_48 : decode cX5_takeLetters 48 = .ok (.aload_n 0, 1) := by decide +kernel
theorem dX5_takeLetters_49 : decode cX5_takeLetters 49 = .ok (.iconst 1, 1) := by decide +kernel
theorem dX5_takeLetters_50 : decode cX5_takeLetters 50 = .ok (.putfield 47, 3) := by decide +kernel
theorem dX5_takeLetters_53 : decode cX5_takeLetters 53 = .ok (.goto 22, 3) := by decide +kernel
theorem dX5_takeLetters_56 : decode cX5_takeLetters 56 = .ok (.aload_n 0, 1) := by decide +kernel
theorem dX5_takeLetters_57 : decode cX5_takeLetters 57 = .ok (.aload_n 0, 1) := by decide +kernel
theorem dX5_takeLetters_58 : decode cX5_takeLetters 58 = .ok (.aload_n 1, 1) := by decide +kernel
theorem dX5_takeLetters_59 : decode cX5_takeLetters 59 = .ok (.ldc 97, 2) := by decide +kernel
theorem dX5_takeLetters_61 : decode cX5_takeLetters 61 = .ok (.invokevirtual 93, 3) := by decide +kernel
theorem dX5_takeLetters_64 : decode cX5_takeLetters 64 = .ok (.ifCond .eq 7, 3) := by decide +kernel
theorem dX5_takeLetters_67 : decode cX5_takeLetters 67 = .ok (.iconst 2, 1) := by decide +kernel
theorem dX5_takeLetters_68 : decode cX5_takeLetters 68 = .ok (.goto 4, 3) := by decide +kernel
theorem dX5_takeLetters_71 : decode cX5_takeLetters 71 = .ok (.iconst 5, 1) := by decide +kernel
theorem dX5_takeLetters_72 : decode cX5_takeLetters 72 = .ok (.putfield 47, 3) := by decide +kernel
theorem dX5_takeLetters_75 : decode cX5_takeLetters 75 = .ok (.return_, 1) := by decide +kernel
theorem dX5_tokenIs_0 : decode cX5_tokenIs 0 = .ok (.aload_n 0, 1) := by decide +kernel
theorem dX5_tokenIs_1 : decode cX5_tokenIs 1 = .ok (.getfield 65, 3) := by decide +kernel
theorem dX5_tokenIs_4 : decode cX5_tokenIs 4 = .ok (.aload_n 0, 1) := by decide +kernel
theorem dX5_tokenIs_5 : decode cX5_tokenIs 5 = .ok (.getfield 56, 3) := by decide +kernel
theorem dX5_tokenIs_8 : decode cX5_tokenIs 8 = .ok (.isub, 1) := by decide +kernel
theorem dX5_tokenIs_9 : decode cX5_tokenIs 9 = .ok (.aload_n 2, 1) := by decide +kernel
theorem dX5_tokenIs_10 : decode cX5_tokenIs 10 = .ok (.invokevirtual 99, 3) := by decide +kernel
theorem dX5_tokenIs_13 : decode cX5_tokenIs 13 = .ok (.if_icmp .eq 5, 3) := by decide +kernel
theorem dX5_tokenIs_16 : decode cX5_tokenIs 16 = .ok (.iconst 0, 1) := by decide +kernel
theorem dX5_tokenIs_17 : decode cX5_tokenIs 17 = .ok (.ireturn, 1) := by decide +kernel
theorem dX5_tokenIs_18 : decode cX5_tokenIs 18 = .ok (.iconst 0, 1) := by decide +kernel
theorem dX5_tokenIs_19 : decode cX5_tokenIs 19 = .ok (.istore_n 3, 1) := by decide +kernel
theorem dX5_tokenIs_20 : decode cX5_tokenIs 20 = .ok (.iload_n 3, 1) := by decide +kernel
theorem dX5_tokenIs_21 : decode cX5_tokenIs 21 = .ok (.aload_n 2, 1) := by decide +kernel
theorem dX5_tokenIs_22 : decode cX5_tokenIs 22 = .ok (.invokevirtual 99, 3) := by decide +kernel
theorem dX5_tokenIs_25 : decode cX5_tokenIs 25 = .ok (.if_icmp .ge 29, 3) := by decide +kernel
theorem dX5_tokenIs_28 : decode cX5_tokenIs 28 = .ok (.aload_n 1, 1) := by decide +kernel
theorem dX5_tokenIs_29 : decode cX5_tokenIs 29 = .ok (.aload_n 0, 1) := by decide +kernel
theorem dX5_tokenIs_30 : decode cX5_tokenIs 30 = .ok (.getfield 56, 3) := by decide +kernel
theorem dX5_tokenIs_33 : decode cX5_tokenIs 33 = .ok (.iload_n 3, 1) := by decide +kernel
theorem dX5_tokenIs_34 : decode cX5_tokenIs 34 = .ok (.iadd, 1) := by decide +kernel
theorem dX5_tokenIs_35 : decode cX5_tokenIs 35 = .ok (.invokevirtual 68, 3) := by decide +kernel
theorem dX5_tokenIs_38 : decode cX5_tokenIs 38 = .ok (.aload_n 2, 1) := by decide +kernel
theorem dX5_tokenIs_39 : decode cX5_tokenIs 39 = .ok (.iload_n 3, 1) := by decide +kernel
theorem dX5_tokenIs_40 : decode cX5_tokenIs 40 = .ok (.invokevirtual 104, 3) := by decide +kernel
theorem dX5_tokenIs_43 : decode cX5_tokenIs 43 = .ok (.if_icmp .eq 5, 3) := by decide +kernel
theorem dX5_tokenIs_46 : decode cX5_tokenIs 46 = .ok (.iconst 0, 1) := by decide +kernel
theorem dX5_tokenIs_47 : decode cX5_tokenIs 47 = .ok (.ireturn, 1) := by decide +kernel
theorem dX5_tokenIs_48 : decode cX5_tokenIs 48 = .ok (.iinc 3 1, 3) := by decide +kernel
theorem dX5_tokenIs_51 : decode cX5_tokenIs 51 = .ok (.goto (-31), 3) := by decide +kernel
theorem dX5_tokenIs_54 : decode cX5_tokenIs 54 = .ok (.iconst 1, 1) := by decide +kernel
theorem dX5_tokenIs_55 : decode cX5_tokenIs 55 = .ok (.ireturn, 1) := by decide +kernel
theorem dX5_takeToken_0 : decode cX5_takeToken 0 = .ok (.aload_n 0, 1) := by decide +kernel
theorem dX5_takeToken_1 : decode cX5_takeToken 1 = .ok (.getfield 50, 3) := by decide +kernel
theorem dX5_takeToken_4 : decode cX5_takeToken 4 = .ok (.tableswitch 43 0 2 #[28, 33, 38], 28) := by decide +kernel
theorem dX5_takeToken_32 : decode cX5_takeToken 32 = .ok (.aload_n 0, 1) := by decide +kernel
theorem dX5_takeToken_33 : decode cX5_takeToken 33 = .ok (.invokevirtual 108, 3) := by decide +kernel
theorem dX5_takeToken_36 : decode cX5_takeToken 36 = .ok (.ireturn, 1) := by decide +kernel
theorem dX5_takeToken_37 : decode cX5_takeToken 37 = .ok (.aload_n 0, 1) := by decide +kernel
theorem dX5_takeToken_38 : decode cX5_takeToken 38 = .ok (.invokevirtual 111, 3) := by decide +kernel
theorem dX5_takeToken_41 : decode cX5_takeToken 41 = .ok (.ireturn, 1) := by decide +kernel
theorem dX5_takeToken_42 : decode cX5_takeToken 42 = .ok (.aload_n 0, 1) := by decide +kernel
theorem dX5_takeToken_43 : decode cX5_takeToken 43 = .ok (.invokevirtual 114, 3) := by decide +kernel
theorem dX5_takeToken_46 : decode cX5_takeToken 46 = .ok (.ireturn, 1) := by decide +kernel
theorem dX5_takeToken_47 : decode cX5_takeToken 47 = .ok (.aload_n 0, 1) := by decide +kernel
theorem dX5_takeToken_48 : decode cX5_takeToken 48 = .ok (.invokevirtual 117, 3) := by decide +kernel
theorem dX5_takeToken_51 : decode cX5_takeToken 51 = .ok (.ireturn, 1) := by decide +kernel
theorem dX5_takeClauseWord_0 : decode cX5_takeClauseWord 0 = .ok (.aload_n 0, 1) := by decide +kernel
theorem dX5_takeClauseWord_1 : decode cX5_takeClauseWord 1 = .ok (.getfield 47, 3) := by decide +kernel
theorem dX5_takeClauseWord_4 : decode cX5_takeClauseWord 4 = .ok (.iconst 1, 1) := by decide +kernel
theorem dX5_takeClauseWord_5 : decode cX5_takeClauseWord 5 = .ok (.if_icmp .eq 13, 3) := by decide +kernel
theorem dX5_takeClauseWord_8 : decode cX5_takeClauseWord 8 = .ok (.aload_n 0, 1) := by decide +kernel
theorem dX5_takeClauseWord_9 : decode cX5_takeClauseWord 9 = .ok (.getfield 47, 3) := by decide +kernel
theorem dX5_takeClauseWord_12 : decode cX5_takeClauseWord 12 = .ok (.iconst 2, 1) := by decide +kernel
theorem dX5_takeClauseWord_13 : decode cX5_takeClauseWord 13 = .ok (.if_icmp .eq 5, 3) := by decide +kernel
theorem dX5_takeClauseWord_16 : decode cX5_takeClauseWord 16 = .ok (.iconst 1, 1) := by decide +kernel
theorem dX5_takeClauseWord_17 : decode cX5_takeClauseWord 17 = .ok (.ireturn, 1) := by decide +kernel
theorem dX5_takeClauseWord_18 : decode cX5_takeClauseWord 18 = .ok (.aload_n 0, 1) := by decide +kernel
theorem dX5_takeClauseWord_19 : decode cX5_takeClauseWord 19 = .ok (.aload_n 0, 1) := by decide +kernel
theorem dX5_takeClauseWord_20 : decode cX5_takeClauseWord 20 = .ok (.getfield 47, 3) := by decide +kernel
theorem dX5_takeClauseWord_23 : decode cX5_takeClauseWord 23 = .ok (.putfield 120, 3) := by decide +kernel
theorem dX5_takeClauseWord_26 : decode cX5_takeClauseWord 26 = .ok (.aload_n 0, 1) := by decide +kernel
theorem dX5_takeClauseWord_27 : decode cX5_takeClauseWord 27 = .ok (.iconst 1, 1) := by decide +kernel
theorem dX5_takeClauseWord_28 : decode cX5_takeClauseWord 28 = .ok (.putfield 50, 3) := by decide +kernel
theorem dX5_takeClauseWord_31 : decode cX5_takeClauseWord 31 = .ok (.iconst 0, 1) := by decide +kernel
theorem dX5_takeClauseWord_32 : decode cX5_takeClauseWord 32 = .ok (.ireturn, 1) := by decide +kernel
theorem dX5_takeKind_0 : decode cX5_takeKind 0 = .ok (.aload_n 0, 1) := by decide +kernel
theorem dX5_takeKind_1 : decode cX5_takeKind 1 = .ok (.getfield 47, 3) := by decide +kernel
theorem dX5_takeKind_4 : decode cX5_takeKind 4 = .ok (.iconst 3, 1) := by decide +kernel
theorem dX5_takeKind_5 : decode cX5_takeKind 5 = .ok (.if_icmp .eq 5, 3) := by decide +kernel
theorem dX5_takeKind_8 : decode cX5_takeKind 8 = .ok (.iconst 1, 1) := by decide +kernel
theorem dX5_takeKind_9 : decode cX5_takeKind 9 = .ok (.ireturn, 1) := by decide +kernel
theorem dX5_takeKind_10 : decode cX5_takeKind 10 = .ok (.aload_n 0, 1) := by decide +kernel
theorem dX5_takeKind_11 : decode cX5_takeKind 11 = .ok (.getfield 85, 3) := by decide +kernel
theorem dX5_takeKind_14 : decode cX5_takeKind 14 = .ok (.iconst 0, 1) := by decide +kernel
theorem dX5_takeKind_15 : decode cX5_takeKind 15 = .ok (.iconst 5, 1) := by decide +kernel
theorem dX5_takeKind_16 : decode cX5_takeKind 16 = .ok (.invokestatic 123, 3) := by decide +kernel
theorem dX5_takeKind_19 : decode cX5_takeKind 19 = .ok (.ifCond .ne 5, 3) := by decide +kernel
theorem dX5_takeKind_22 : decode cX5_takeKind 22 = .ok (.iconst 3, 1) := by decide +kernel
theorem dX5_takeKind_23 : decode cX5_takeKind 23 = .ok (.ireturn, 1) := by decide +kernel
theorem dX5_takeKind_24 : decode cX5_takeKind 24 = .ok (.aload_n 0, 1) := by decide +kernel
theorem dX5_takeKind_25 : decode cX5_takeKind 25 = .ok (.invokevirtual 127, 3) := by decide +kernel
theorem dX5_takeKind_28 : decode cX5_takeKind 28 = .ok (.aload_n 0, 1) := by decide +kernel
theorem dX5_takeKind_29 : decode cX5_takeKind 29 = .ok (.getfield 85, 3) := by decide +kernel
theorem dX5_takeKind_32 : decode cX5_takeKind 32 = .ok (.iaload, 1) := by decide +kernel
theorem dX5_takeKind_33 : decode cX5_takeKind 33 = .ok (.iconst (-1), 1) := by decide +kernel
theorem dX5_takeKind_34 : decode cX5_takeKind 34 = .ok (.if_icmp .eq 5, 3) := by decide +kernel
theorem dX5_takeKind_37 : decode cX5_takeKind 37 = .ok (.iconst 2, 1) := by decide +kernel
theorem dX5_takeKind_38 : decode cX5_takeKind 38 = .ok (.ireturn, 1) := by decide +kernel
theorem dX5_takeKind_39 : decode cX5_takeKind 39 = .ok (.aload_n 0, 1) := by decide +kernel
theorem dX5_takeKind_40 : decode cX5_takeKind 40 = .ok (.aload_n 0, 1) := by decide +kernel
theorem dX5_takeKind_41 : decode cX5_takeKind 41 = .ok (.getfield 85, 3) := by decide +kernel
theorem dX5_takeKind_44 : decode cX5_takeKind 44 = .ok (.putfield 131, 3) := by decide +kernel
theorem dX5_takeKind_47 : decode cX5_takeKind 47 = .ok (.aload_n 0, 1) := by decide +kernel
theorem dX5_takeKind_48 : decode cX5_takeKind 48 = .ok (.iconst 2, 1) := by decide +kernel
theorem dX5_takeKind_49 : decode cX5_takeKind 49 = .ok (.putfield 50, 3) := by decide +kernel
theorem dX5_takeKind_52 : decode cX5_takeKind 52 = .ok (.iconst 0, 1) := by decide +kernel
theorem dX5_takeKind_53 : decode cX5_takeKind 53 = .ok (.ireturn, 1) := by decide +kernel
theorem dX5_takeAmount_0 : decode cX5_takeAmount 0 = .ok (.aload_n 0, 1) := by decide +kernel
theorem dX5_takeAmount_1 : decode cX5_takeAmount 1 = .ok (.getfield 47, 3) := by decide +kernel
theorem dX5_takeAmount_4 : decode cX5_takeAmount 4 = .ok (.iconst 3, 1) := by decide +kernel
theorem dX5_takeAmount_5 : decode cX5_takeAmount 5 = .ok (.if_icmp .eq 5, 3) := by decide +kernel
theorem dX5_takeAmount_8 : decode cX5_takeAmount 8 = .ok (.iconst 1, 1) := by decide +kernel
theorem dX5_takeAmount_9 : decode cX5_takeAmount 9 = .ok (.ireturn, 1) := by decide +kernel
theorem dX5_takeAmount_10 : decode cX5_takeAmount 10 = .ok (.aload_n 0, 1) := by decide +kernel
theorem dX5_takeAmount_11 : decode cX5_takeAmount 11 = .ok (.getfield 120, 3) := by decide +kernel
theorem dX5_takeAmount_14 : decode cX5_takeAmount 14 = .ok (.iconst 2, 1) := by decide +kernel
theorem dX5_takeAmount_15 : decode cX5_takeAmount 15 = .ok (.if_icmp .ne 7, 3) := by decide +kernel
theorem dX5_takeAmount_18 : decode cX5_takeAmount 18 = .ok (.iconst 1, 1) := by decide +kernel
theorem dX5_takeAmount_19 : decode cX5_takeAmount 19 = .ok (.goto 4, 3) := by decide +kernel
theorem dX5_takeAmount_22 : decode cX5_takeAmount 22 = .ok (.iconst 0, 1) := by decide +kernel
theorem dX5_takeAmount_23 : decode cX5_takeAmount 23 = .ok (.istore_n 1, 1) := by decide +kernel
theorem dX5_takeAmount_24 : decode cX5_takeAmount 24 = .ok (.aload_n 0, 1) := by decide +kernel
theorem dX5_takeAmount_25 : decode cX5_takeAmount 25 = .ok (.getfield 85, 3) := by decide +kernel
theorem dX5_takeAmount_28 : decode cX5_takeAmount 28 = .ok (.iload_n 1, 1) := by decide +kernel
theorem dX5_takeAmount_29 : decode cX5_takeAmount 29 = .ok (.sipush 999, 3) := by decide +kernel
theorem dX5_takeAmount_32 : decode cX5_takeAmount 32 = .ok (.invokestatic 123, 3) := by decide +kernel
theorem dX5_takeAmount_35 : decode cX5_takeAmount 35 = .ok (.ifCond .ne 5, 3) := by decide +kernel
theorem dX5_takeAmount_38 : decode cX5_takeAmount 38 = .ok (.iconst 3, 1) := by decide +kernel
theorem dX5_takeAmount_39 : decode cX5_takeAmount 39 = .ok (.ireturn, 1) := by decide +kernel
theorem dX5_takeAmount_40 : decode cX5_takeAmount 40 = .ok (.aload_n 0, 1) := by decide +kernel
theorem dX5_takeAmount_41 : decode cX5_takeAmount 41 = .ok (.invokevirtual 127, 3) := by decide +kernel
theorem dX5_takeAmount_44 : decode cX5_takeAmount 44 = .ok (.aload_n 0, 1) := by decide +kernel
theorem dX5_takeAmount_45 : decode cX5_takeAmount 45 = .ok (.getfield 131, 3) := by decide +kernel
theorem dX5_takeAmount_48 : decode cX5_takeAmount 48 = .ok (.aload_n 0, 1) := by decide +kernel
theorem dX5_takeAmount_49 : decode cX5_takeAmount 49 = .ok (.getfield 85, 3) := by decide +kernel
theorem dX5_takeAmount_52 : decode cX5_takeAmount 52 = .ok (.iastore, 1) := by decide +kernel
theorem dX5_takeAmount_53 : decode cX5_takeAmount 53 = .ok (.aload_n 0, 1) := by decide +kernel
theorem dX5_takeAmount_54 : decode cX5_takeAmount 54 = .ok (.iconst 3, 1) := by decide +kernel
theorem dX5_takeAmount_55 : decode cX5_takeAmount 55 = .ok (.putfield 50, 3) := by decide +kernel
theorem dX5_takeAmount_58 : decode cX5_takeAmount 58 = .ok (.iconst 0, 1) := by decide +kernel
theorem dX5_takeAmount_59 : decode cX5_takeAmount 59 = .ok (.ireturn, 1) := by decide +kernel
theorem dX5_takeSemicolon_0 : decode cX5_takeSemicolon 0 = .ok (.aload_n 0, 1) := by decide +kernel
theorem dX5_takeSemicolon_1 : decode cX5_takeSemicolon 1 = .ok (.getfield 47, 3) := by decide +kernel
theorem dX5_takeSemicolon_4 : decode cX5_takeSemicolon 4 = .ok (.iconst 4, 1) := by decide +kernel
theorem dX5_takeSemicolon_5 : decode cX5_takeSemicolon 5 = .ok (.if_icmp .eq 5, 3) := by decide +kernel
theorem dX5_takeSemicolon_8 : decode cX5_takeSemicolon 8 = .ok (.iconst 1, 1) := by decide +kernel
theorem dX5_takeSemicolon_9 : decode cX5_takeSemicolon 9 = .ok (.ireturn, 1) := by decide +kernel
theorem dX5_takeSemicolon_10 : decode cX5_takeSemicolon 10 = .ok (.aload_n 0, 1) := by decide +kernel
theorem dX5_takeSemicolon_11 : decode cX5_takeSemicolon 11 = .ok (.dup, 1) := by decide +kernel
theorem dX5_takeSemicolon_12 : decode cX5_takeSemicolon 12 = .ok (.getfield 25, 3) := by decide +kernel
theorem dX5_takeSemicolon_15 : decode cX5_takeSemicolon 15 = .ok (.iconst 1, 1) := by decide +kernel
theorem dX5_takeSemicolon_16 : decode cX5_takeSemicolon 16 = .ok (.iadd, 1) := by decide +kernel
theorem dX5_takeSemicolon_17 : decode cX5_takeSemicolon 17 = .ok (.putfield 25, 3) := by decide +kernel
theorem dX5_takeSemicolon_20 : decode cX5_takeSemicolon 20 = .ok (.aload_n 0, 1) := by decide +kernel
theorem dX5_takeSemicolon_21 : decode cX5_takeSemicolon 21 = .ok (.iconst 0, 1) := by decide +kernel
theorem dX5_takeSemicolon_22 : decode cX5_takeSemicolon 22 = .ok (.putfield 50, 3) := by decide +kernel
theorem dX5_takeSemicolon_25 : decode cX5_takeSemicolon 25 = .ok (.iconst 0, 1) := by decide +kernel
theorem dX5_takeSemicolon_26 : decode cX5_takeSemicolon 26 = .ok (.ireturn, 1) := by decide +kernel
theorem dX5_clauseRow_0 : decode cX5_clauseRow 0 = .ok (.aload_n 0, 1) := by decide +kernel
theorem dX5_clauseRow_1 : decode cX5_clauseRow 1 = .ok (.getfield 120, 3) := by decide +kernel
theorem dX5_clauseRow_4 : decode cX5_clauseRow 4 = .ok (.iconst 2, 1) := by decide +kernel
theorem dX5_clauseRow_5 : decode cX5_clauseRow 5 = .ok (.if_icmp .ne 10, 3) := by decide +kernel
theorem dX5_clauseRow_8 : decode cX5_clauseRow 8 = .ok (.aload_n 0, 1) := by decide +kernel
theorem dX5_clauseRow_9 : decode cX5_clauseRow 9 = .ok (.getfield 15, 3) := by decide +kernel
theorem dX5_clauseRow_12 : decode cX5_clauseRow 12 = .ok (.goto 7, 3) := by decide +kernel
theorem dX5_clauseRow_15 : decode cX5_clauseRow 15 = .ok (.aload_n 0, 1) := by decide +kernel
theorem dX5_clauseRow_16 : decode cX5_clauseRow 16 = .ok (.getfield 9, 3) := by decide +kernel
theorem dX5_clauseRow_19 : decode cX5_clauseRow 19 = .ok (.areturn, 1) := by decide +kernel
theorem dX5_isDigit_0 : decode cX5_isDigit 0 = .ok (.iload_n 0, 1) := by decide +kernel
theorem dX5_isDigit_1 : decode cX5_isDigit 1 = .ok (.bipush 48, 2) := by decide +kernel
theorem dX5_isDigit_3 : decode cX5_isDigit 3 = .ok (.bipush 57, 2) := by decide +kernel
theorem dX5_isDigit_5 : decode cX5_isDigit 5 = .ok (.invokestatic 123, 3) := by decide +kernel
theorem dX5_isDigit_8 : decode cX5_isDigit 8 = .ok (.ireturn, 1) := by decide +kernel
theorem dX5_isLetter_0 : decode cX5_isLetter 0 = .ok (.iload_n 0, 1) := by decide +kernel
theorem dX5_isLetter_1 : decode cX5_isLetter 1 = .ok (.bipush 97, 2) := by decide +kernel
theorem dX5_isLetter_3 : decode cX5_isLetter 3 = .ok (.bipush 122, 2) := by decide +kernel
theorem dX5_isLetter_5 : decode cX5_isLetter 5 = .ok (.invokestatic 123, 3) := by decide +kernel
theorem dX5_isLetter_8 : decode cX5_isLetter 8 = .ok (.ifCond .ne 14, 3) := by decide +kernel
theorem dX5_isLetter_11 : decode cX5_isLetter 11 = .ok (.iload_n 0, 1) := by decide +kernel
theorem dX5_isLetter_12 : decode cX5_isLetter 12 = .ok (.bipush 65, 2) := by decide +kernel
theorem dX5_isLetter_14 : decode cX5_isLetter 14 = .ok (.bipush 90, 2) := by decide +kernel
theorem dX5_isLetter_16 : decode cX5_isLetter 16 = .ok (.invokestatic 123, 3) := by decide +kernel
theorem dX5_isLetter_19 : decode cX5_isLetter 19 = .ok (.ifCond .eq 7, 3) := by decide +kernel
theorem dX5_isLetter_22 : decode cX5_isLetter 22 = .ok (.iconst 1, 1) := by decide +kernel
theorem dX5_isLetter_23 : decode cX5_isLetter 23 = .ok (.goto 4, 3) := by decide +kernel
theorem dX5_isLetter_26 : decode cX5_isLetter 26 = .ok (.iconst 0, 1) := by decide +kernel
theorem dX5_isLetter_27 : decode cX5_isLetter 27 = .ok (.ireturn, 1) := by decide +kernel
theorem dX6_init_0 : decode cX6_init 0 = .ok (.aload_n 0, 1) := by decide +kernel
theorem dX6_init_1 : decode cX6_init 1 = .ok (.invokespecial 1, 3) := by decide +kernel
theorem dX6_init_4 : decode cX6_init 4 = .ok (.aload_n 0, 1) := by decide +kernel
theorem dX6_init_5 : decode cX6_init 5 = .ok (.new 7, 3) := by decide +kernel
theorem dX6_init_8 : decode cX6_init 8 = .ok (.dup, 1) := by decide +kernel
theorem dX6_init_9 : decode cX6_init 9 = .ok (.iconst 1, 1) := by decide +kernel
theorem dX6_init_10 : decode cX6_init 10 = .ok (.bipush 12, 2) := by decide +kernel
theorem dX6_init_12 : decode cX6_init 12 = .ok (.iload_n 1, 1) := by decide +kernel
theorem dX6_init_13 : decode cX6_init 13 = .ok (.invokestatic 11, 3) := by decide +kernel
theorem dX6_init_16 : decode cX6_init 16 = .ok (.invokestatic 17, 3) := by decide +kernel
theorem dX6_init_19 : decode cX6_init 19 = .ok (.invokespecial 20, 3) := by decide +kernel
theorem dX6_init_22 : decode cX6_init 22 = .ok (.putfield 23, 3) := by decide +kernel
theorem dX6_init_25 : decode cX6_init 25 = .ok (.aload_n 0, 1) := by decide +kernel
theorem dX6_init_26 : decode cX6_init 26 = .ok (.new 27, 3) := by decide +kernel
theorem dX6_init_29 : decode cX6_init 29 = .ok (.dup, 1) := by decide +kernel
theorem dX6_init_30 : decode cX6_init 30 = .ok (.invokespecial 29, 3) := by decide +kernel
theorem dX6_init_33 : decode cX6_init 33 = .ok (.putfield 30, 3) := by decide +kernel
theorem dX6_init_36 : decode cX6_init 36 = .ok (.aload_n 0, 1) := by decide +kernel
theorem dX6_init_37 : decode cX6_init 37 = .ok (.new 34, 3) := by decide +kernel
theorem dX6_init_40 : decode cX6_init 40 = .ok (.dup, 1) := by decide +kernel
theorem dX6_init_41 : decode cX6_init 41 = .ok (.invokespecial 36, 3) := by decide +kernel
theorem dX6_init_44 : decode cX6_init 44 = .ok (.putfield 37, 3) := by decide +kernel
theorem dX6_init_47 : decode cX6_init 47 = .ok (.aload_n 0, 1) := by decide +kernel
theorem dX6_init_48 : decode cX6_init 48 = .ok (.new 41, 3) := by decide +kernel
theorem dX6_init_51 : decode cX6_init 51 = .ok (.dup, 1) := by decide +kernel
theorem dX6_init_52 : decode cX6_init 52 = .ok (.invokespecial 43, 3) := by decide +kernel
theorem dX6_init_55 : decode cX6_init 55 = .ok (.putfield 44, 3) := by decide +kernel
theorem dX6_init_58 : decode cX6_init 58 = .ok (.aload_n 0, 1) := by decide +kernel
theorem dX6_init_59 : decode cX6_init 59 = .ok (.new 48, 3) := by decide +kernel
theorem dX6_init_62 : decode cX6_init 62 = .ok (.dup, 1) := by decide +kernel
theorem dX6_init_63 : decode cX6_init 63 = .ok (.invokespecial 50, 3) := by decide +kernel
theorem dX6_init_66 : decode cX6_init 66 = .ok (.putfield 51, 3) := by decide +kernel
theorem dX6_init_69 : decode cX6_init 69 = .ok (.aload_n 0, 1) := by decide +kernel
theorem dX6_init_70 : decode cX6_init 70 = .ok (.new 55, 3) := by decide +kernel
theorem dX6_init_73 : decode cX6_init 73 = .ok (.dup, 1) := by decide +kernel
theorem dX6_init_74 : decode cX6_init 74 = .ok (.invokespecial 57, 3) := by decide +kernel
theorem dX6_init_77 : decode cX6_init 77 = .ok (.putfield 58, 3) := by decide +kernel
theorem dX6_init_80 : decode cX6_init 80 = .ok (.return_, 1) := by decide +kernel
theorem dX6_hull_0 : decode cX6_hull 0 = .ok (.aload_n 0, 1) := by decide +kernel
theorem dX6_hull_1 : decode cX6_hull 1 = .ok (.getfield 23, 3) := by decide +kernel
theorem dX6_hull_4 : decode cX6_hull 4 = .ok (.iload_n 1, 1) := by decide +kernel
theorem dX6_hull_5 : decode cX6_hull 5 = .ok (.invokevirtual 62, 3) := by decide +kernel
theorem dX6_hull_8 : decode cX6_hull 8 = .ok (.ifCond .eq 25, 3) := by decide +kernel
theorem dX6_hull_11 : decode cX6_hull 11 = .ok (.iload_n 2, 1) := by decide +kernel
theorem dX6_hull_12 : decode cX6_hull 12 = .ok (.iconst 1, 1) := by decide +kernel
theorem dX6_hull_13 : decode cX6_hull 13 = .ok (.sipush 1000, 3) := by decide +kernel
theorem dX6_hull_16 : decode cX6_hull 16 = .ok (.invokestatic 66, 3) := by decide +kernel
theorem dX6_hull_19 : decode cX6_hull 19 = .ok (.ifCond .eq 14, 3) := by decide +kernel
theorem dX6_hull_22 : decode cX6_hull 22 = .ok (.iload_n 3, 1) := by decide +kernel
theorem dX6_hull_23 : decode cX6_hull 23 = .ok (.iconst 0, 1) := by decide +kernel
theorem dX6_hull_24 : decode cX6_hull 24 = .ok (.sipush 1000, 3) := by decide +kernel
theorem dX6_hull_27 : decode cX6_hull 27 = .ok (.invokestatic 66, 3) := by decide +kernel
theorem dX6_hull_30 : decode cX6_hull 30 = .ok (.ifCond .ne 5, 3) := by decide +kernel
theorem dX6_hull_33 : decode cX6_hull 33 = .ok (.iconst 0, 1) := by decide +kernel
theorem dX6_hull_34 : decode cX6_hull 34 = .ok (.ireturn, 1) := by decide +kernel
theorem dX6_hull_35 : decode cX6_hull 35 = .ok (.aload_n 0, 1) := by decide +kernel
theorem dX6_hull_36 : decode cX6_hull 36 = .ok (.getfield 23, 3) := by decide +kernel
theorem dX6_hull_39 : decode cX6_hull 39 = .ok (.iload_n 1, 1) := by decide +kernel
theorem dX6_hull_40 : decode cX6_hull 40 = .ok (.iload_n 2, 1) := by decide +kernel
theorem dX6_hull_41 : decode cX6_hull 41 = .ok (.iload_n 3, 1) := by decide +kernel
theorem dX6_hull_42 : decode cX6_hull 42 = .ok (.invokevirtual 70, 3) := by decide +kernel
theorem dX6_hull_45 : decode cX6_hull 45 = .ok (.iconst 1, 1) := by decide +kernel
theorem dX6_hull_46 : decode cX6_hull 46 = .ok (.ireturn, 1) := by decide +kernel
theorem dX6_pull_0 : decode cX6_pull 0 = .ok (.iload_n 1, 1) := by decide +kernel
theorem dX6_pull_1 : decode cX6_pull 1 = .ok (.iconst 0, 1) := by decide +kernel
theorem dX6_pull_2 : decode cX6_pull 2 = .ok (.bipush 9, 2) := by decide +kernel
theorem dX6_pull_4 : decode cX6_pull 4 = .ok (.invokestatic 66, 3) := by decide +kernel
theorem dX6_pull_7 : decode cX6_pull 7 = .ok (.ifCond .eq 14, 3) := by decide +kernel
theorem dX6_pull_10 : decode cX6_pull 10 = .ok (.iload_n 2, 1) := by decide +kernel
theorem dX6_pull_11 : decode cX6_pull 11 = .ok (.iconst 0, 1) := by decide +kernel
theorem dX6_pull_12 : decode cX6_pull 12 = .ok (.sipush 1000, 3) := by decide +kernel
theorem dX6_pull_15 : decode cX6_pull 15 = .ok (.invokestatic 66, 3) := by decide +kernel
theorem dX6_pull_18 : decode cX6_pull 18 = .ok (.ifCond .ne 5, 3) := by decide +kernel
theorem dX6_pull_21 : decode cX6_pull 21 = .ok (.iconst 0, 1) := by decide +kernel
theorem dX6_pull_22 : decode cX6_pull 22 = .ok (.ireturn, 1) := by decide +kernel
theorem dX6_pull_23 : decode cX6_pull 23 = .ok (.aload_n 0, 1) := by decide +kernel
theorem dX6_pull_24 : decode cX6_pull 24 = .ok (.getfield 23, 3) := by decide +kernel
theorem dX6_pull_27 : decode cX6_pull 27 = .ok (.iload_n 1, 1) := by decide +kernel
theorem dX6_pull_28 : decode cX6_pull 28 = .ok (.iload_n 2, 1) := by decide +kernel
theorem dX6_pull_29 : decode cX6_pull 29 = .ok (.invokevirtual 74, 3) := by decide +kernel
theorem dX6_pull_32 : decode cX6_pull 32 = .ok (.iconst 1, 1) := by decide +kernel
theorem dX6_pull_33 : decode cX6_pull 33 = .ok (.ireturn, 1) := by decide +kernel
theorem dX6_drags_0 : decode cX6_drags 0 = .ok (.iload_n 1, 1) := by decide +kernel
theorem dX6_drags_1 : decode cX6_drags 1 = .ok (.iconst 0, 1) := by decide +kernel
theorem dX6_drags_2 : decode cX6_drags 2 = .ok (.bipush 9, 2) := by decide +kernel
theorem dX6_drags_4 : decode cX6_drags 4 = .ok (.invokestatic 66, 3) := by decide +kernel
theorem dX6_drags_7 : decode cX6_drags 7 = .ok (.ifCond .eq 14, 3) := by decide +kernel
theorem dX6_drags_10 : decode cX6_drags 10 = .ok (.aload_n 0, 1) := by decide +kernel
theorem dX6_drags_11 : decode cX6_drags 11 = .ok (.getfield 23, 3) := by decide +kernel
theorem dX6_drags_14 : decode cX6_drags 14 = .ok (.iload_n 1, 1) := by decide +kernel
theorem dX6_drags_15 : decode cX6_drags 15 = .ok (.invokevirtual 78, 3) := by decide +kernel
theorem dX6_drags_18 : decode cX6_drags 18 = .ok (.goto 4, 3) := by decide +kernel
theorem dX6_drags_21 : decode cX6_drags 21 = .ok (.iconst (-1), 1) := by decide +kernel
theorem dX6_drags_22 : decode cX6_drags 22 = .ok (.ireturn, 1) := by decide +kernel
theorem dX6_cart_0 : decode cX6_cart 0 = .ok (.iload_n 1, 1) := by decide +kernel
theorem dX6_cart_1 : decode cX6_cart 1 = .ok (.iconst 1, 1) := by decide +kernel
theorem dX6_cart_2 : decode cX6_cart 2 = .ok (.sipush 400, 3) := by decide +kernel
theorem dX6_cart_5 : decode cX6_cart 5 = .ok (.invokestatic 66, 3) := by decide +kernel
theorem dX6_cart_8 : decode cX6_cart 8 = .ok (.ifCond .eq 15, 3) := by decide +kernel
theorem dX6_cart_11 : decode cX6_cart 11 = .ok (.aload_n 0, 1) := by decide +kernel
theorem dX6_cart_12 : decode cX6_cart 12 = .ok (.getfield 23, 3) := by decide +kernel
theorem dX6_cart_15 : decode cX6_cart 15 = .ok (.invokevirtual 82, 3) := by decide +kernel
theorem dX6_cart_18 : decode cX6_cart 18 = .ok (.bipush 6, 2) := by decide +kernel
theorem dX6_cart_20 : decode cX6_cart 20 = .ok (.if_icmp .lt 5, 3) := by decide +kernel
theorem dX6_cart_23 : decode cX6_cart 23 = .ok (.iconst (-1), 1) := by decide +kernel
theorem dX6_cart_24 : decode cX6_cart 24 = .ok (.ireturn, 1) := by decide +kernel
theorem dX6_cart_25 : decode cX6_cart 25 = .ok (.aload_n 0, 1) := by decide +kernel
theorem dX6_cart_26 : decode cX6_cart 26 = .ok (.getfield 23, 3) := by decide +kernel
theorem dX6_cart_29 : decode cX6_cart 29 = .ok (.invokevirtual 82, 3) := by decide +kernel
theorem dX6_cart_32 : decode cX6_cart 32 = .ok (.ifCond .le 15, 3) := by decide +kernel
theorem dX6_cart_35 : decode cX6_cart 35 = .ok (.iload_n 2, 1) := by decide +kernel
theorem dX6_cart_36 : decode cX6_cart 36 = .ok (.iconst 1, 1) := by decide +kernel
theorem dX6_cart_37 : decode cX6_cart 37 = .ok (.bipush 12, 2) := by decide +kernel
theorem dX6_cart_39 : decode cX6_cart 39 = .ok (.invokestatic 66, 3) := by decide +kernel
theorem dX6_cart_42 : decode cX6_cart 42 = .ok (.ifCond .ne 5, 3) := by decide +kernel
theorem dX6_cart_45 : decode cX6_cart 45 = .ok (.iconst (-1), 1) := by decide +kernel
theorem dX6_cart_46 : decode cX6_cart 46 = .ok (.ireturn, 1) := by decide +kernel
theorem dX6_cart_47 : decode cX6_cart 47 = .ok (.aload_n 0, 1) := by decide +kernel
theorem dX6_cart_48 : decode cX6_cart 48 = .ok (.getfield 23, 3) := by decide +kernel
theorem dX6_cart_51 : decode cX6_cart 51 = .ok (.iload_n 1, 1) := by decide +kernel
theorem dX6_cart_52 : decode cX6_cart 52 = .ok (.iload_n 2, 1) := by decide +kernel
theorem dX6_cart_53 : decode cX6_cart 53 = .ok (.invokevirtual 86, 3) := by decide +kernel
theorem dX6_cart_56 : decode cX6_cart 56 = .ok (.ireturn, 1) := by decide +kernel
theorem dX6_clear_0 : decode cX6_clear 0 = .ok (.aload_n 0, 1) := by decide +kernel
theorem dX6_clear_1 : decode cX6_clear 1 = .ok (.getfield 23, 3) := by decide +kernel
theorem dX6_clear_4 : decode cX6_clear 4 = .ok (.invokevirtual 89, 3) := by decide +kernel
theorem dX6_clear_7 : decode cX6_clear 7 = .ok (.ireturn, 1) := by decide +kernel
theorem dX6_pressed_0 : decode cX6_pressed 0 = .ok (.aload_n 0, 1) := by decide +kernel
theorem dX6_pressed_1 : decode cX6_pressed 1 = .ok (.getfield 23, 3) := by decide +kernel
theorem dX6_pressed_4 : decode cX6_pressed 4 = .ok (.iload_n 1, 1) := by decide +kernel
theorem dX6_pressed_5 : decode cX6_pressed 5 = .ok (.invokevirtual 62, 3) := by decide +kernel
theorem dX6_pressed_8 : decode cX6_pressed 8 = .ok (.ifCond .eq 25, 3) := by decide +kernel
theorem dX6_pressed_11 : decode cX6_pressed 11 = .ok (.iload_n 2, 1) := by decide +kernel
theorem dX6_pressed_12 : decode cX6_pressed 12 = .ok (.iconst 0, 1) := by decide +kernel
theorem dX6_pressed_13 : decode cX6_pressed 13 = .ok (.bipush 100, 2) := by decide +kernel
theorem dX6_pressed_15 : decode cX6_pressed 15 = .ok (.invokestatic 66, 3) := by decide +kernel
theorem dX6_pressed_18 : decode cX6_pressed 18 = .ok (.ifCond .eq 15, 3) := by decide +kernel
theorem dX6_pressed_21 : decode cX6_pressed 21 = .ok (.aload_n 0, 1) := by decide +kernel
theorem dX6_pressed_22 : decode cX6_pressed 22 = .ok (.getfield 23, 3) := by decide +kernel
theorem dX6_pressed_25 : decode cX6_pressed 25 = .ok (.iload_n 1, 1) := by decide +kernel
theorem dX6_pressed_26 : decode cX6_pressed 26 = .ok (.iload_n 2, 1) := by decide +kernel
theorem dX6_pressed_27 : decode cX6_pressed 27 = .ok (.invokevirtual 92, 3) := by decide +kernel
theorem dX6_pressed_30 : decode cX6_pressed 30 = .ok (.goto 4, 3) := by decide +kernel
theorem dX6_pressed_33 : decode cX6_pressed 33 = .ok (.iconst (-1), 1) := by decide +kernel
theorem dX6_pressed_34 : decode cX6_pressed 34 = .ok (.ireturn, 1) := by decide +kernel
theorem dX6_worst_0 : decode cX6_worst 0 = .ok (.aload_n 0, 1) := by decide +kernel
theorem dX6_worst_1 : decode cX6_worst 1 = .ok (.getfield 23, 3) := by decide +kernel
theorem dX6_worst_4 : decode cX6_worst 4 = .ok (.invokevirtual 82, 3) := by decide +kernel
theorem dX6_worst_7 : decode cX6_worst 7 = .ok (.ifCond .le 23, 3) := by decide +kernel
theorem dX6_worst_10 : decode cX6_worst 10 = .ok (.iload_n 1, 1) := by decide +kernel
theorem dX6_worst_11 : decode cX6_worst 11 = .ok (.iconst 0, 1) := by decide +kernel
theorem dX6_worst_12 : decode cX6_worst 12 = .ok (.iconst 2, 1) := by decide +kernel
theorem dX6_worst_13 : decode cX6_worst 13 = .ok (.invokestatic 66, 3) := by decide +kernel
theorem dX6_worst_16 : decode cX6_worst 16 = .ok (.ifCond .eq 14, 3) := by decide +kernel
theorem dX6_worst_19 : decode cX6_worst 19 = .ok (.aload_n 0, 1) := by decide +kernel
theorem dX6_worst_20 : decode cX6_worst 20 = .ok (.getfield 23, 3) := by decide +kernel
theorem dX6_worst_23 : decode cX6_worst 23 = .ok (.iload_n 1, 1) := by decide +kernel
theorem dX6_worst_24 : decode cX6_worst 24 = .ok (.invokevirtual 95, 3) := by decide +kernel
theorem dX6_worst_27 : decode cX6_worst 27 = .ok (.goto 5, 3) := by decide +kernel
theorem dX6_worst_30 : decode cX6_worst 30 = .ok (.ldc 98, 2) := by decide +kernel
theorem dX6_worst_32 : decode cX6_worst 32 = .ok (.ireturn, 1) := by decide +kernel
theorem dX6_gap_0 : decode cX6_gap 0 = .ok (.aload_n 0, 1) := by decide +kernel
theorem dX6_gap_1 : decode cX6_gap 1 = .ok (.getfield 23, 3) := by decide +kernel
theorem dX6_gap_4 : decode cX6_gap 4 = .ok (.invokevirtual 82, 3) := by decide +kernel
theorem dX6_gap_7 : decode cX6_gap 7 = .ok (.ifCond .le 13, 3) := by decide +kernel
theorem dX6_gap_10 : decode cX6_gap 10 = .ok (.aload_n 0, 1) := by decide +kernel
theorem dX6_gap_11 : decode cX6_gap 11 = .ok (.getfield 23, 3) := by decide +kernel
theorem dX6_gap_14 : decode cX6_gap 14 = .ok (.invokevirtual 99, 3) := by decide +kernel
theorem dX6_gap_17 : decode cX6_gap 17 = .ok (.goto 4, 3) := by decide +kernel
theorem dX6_gap_20 : decode cX6_gap 20 = .ok (.iconst (-1), 1) := by decide +kernel
theorem dX6_gap_21 : decode cX6_gap 21 = .ok (.ireturn, 1) := by decide +kernel
theorem dX6_ship_0 : decode cX6_ship 0 = .ok (.iload_n 1, 1) := by decide +kernel
theorem dX6_ship_1 : decode cX6_ship 1 = .ok (.iconst 0, 1) := by decide +kernel
theorem dX6_ship_2 : decode cX6_ship 2 = .ok (.sipush 239, 3) := by decide +kernel
theorem dX6_ship_5 : decode cX6_ship 5 = .ok (.invokestatic 66, 3) := by decide +kernel
theorem dX6_ship_8 : decode cX6_ship 8 = .ok (.ifCond .eq 15, 3) := by decide +kernel
theorem dX6_ship_11 : decode cX6_ship 11 = .ok (.aload_n 0, 1) := by decide +kernel
theorem dX6_ship_12 : decode cX6_ship 12 = .ok (.getfield 30, 3) := by decide +kernel
theorem dX6_ship_15 : decode cX6_ship 15 = .ok (.invokevirtual 102, 3) := by decide +kernel
theorem dX6_ship_18 : decode cX6_ship 18 = .ok (.bipush 10, 2) := by decide +kernel
theorem dX6_ship_20 : decode cX6_ship 20 = .ok (.if_icmp .lt 5, 3) := by decide +kernel
theorem dX6_ship_23 : decode cX6_ship 23 = .ok (.iconst (-1), 1) := by decide +kernel
theorem dX6_ship_24 : decode cX6_ship 24 = .ok (.ireturn, 1) := by decide +kernel
theorem dX6_ship_25 : decode cX6_ship 25 = .ok (.aload_n 0, 1) := by decide +kernel
theorem dX6_ship_26 : decode cX6_ship 26 = .ok (.getfield 30, 3) := by decide +kernel
theorem dX6_ship_29 : decode cX6_ship 29 = .ok (.iload_n 1, 1) := by decide +kernel
theorem dX6_ship_30 : decode cX6_ship 30 = .ok (.invokevirtual 105, 3) := by decide +kernel
theorem dX6_ship_33 : decode cX6_ship 33 = .ok (.ireturn, 1) := by decide +kernel
theorem dX6_crosser_0 : decode cX6_crosser 0 = .ok (.iload_n 1, 1) := by decide +kernel
theorem dX6_crosser_1 : decode cX6_crosser 1 = .ok (.iconst 0, 1) := by decide +kernel
theorem dX6_crosser_2 : decode cX6_crosser 2 = .ok (.sipush 239, 3) := by decide +kernel
theorem dX6_crosser_5 : decode cX6_crosser 5 = .ok (.invokestatic 66, 3) := by decide +kernel
theorem dX6_crosser_8 : decode cX6_crosser 8 = .ok (.ifCond .eq 15, 3) := by decide +kernel
theorem dX6_crosser_11 : decode cX6_crosser 11 = .ok (.aload_n 0, 1) := by decide +kernel
theorem dX6_crosser_12 : decode cX6_crosser 12 = .ok (.getfield 30, 3) := by decide +kernel
theorem dX6_crosser_15 : decode cX6_crosser 15 = .ok (.invokevirtual 108, 3) := by decide +kernel
theorem dX6_crosser_18 : decode cX6_crosser 18 = .ok (.bipush 30, 2) := by decide +kernel
theorem dX6_crosser_20 : decode cX6_crosser 20 = .ok (.if_icmp .lt 5, 3) := by decide +kernel
theorem dX6_crosser_23 : decode cX6_crosser 23 = .ok (.iconst (-1), 1) := by decide +kernel
theorem dX6_crosser_24 : decode cX6_crosser 24 = .ok (.ireturn, 1) := by decide +kernel
theorem dX6_crosser_25 : decode cX6_crosser 25 = .ok (.aload_n 0, 1) := by decide +kernel
theorem dX6_crosser_26 : decode cX6_crosser 26 = .ok (.getfield 30, 3) := by decide +kernel
theorem dX6_crosser_29 : decode cX6_crosser 29 = .ok (.iload_n 1, 1) := by decide +kernel
theorem dX6_crosser_30 : decode cX6_crosser 30 = .ok (.invokevirtual 111, 3) := by decide +kernel
theorem dX6_crosser_33 : decode cX6_crosser 33 = .ok (.ireturn, 1) := by decide +kernel
theorem dX6_times_0 : decode cX6_times 0 = .ok (.iload_n 1, 1) := by decide +kernel
theorem dX6_times_1 : decode cX6_times 1 = .ok (.iconst 1, 1) := by decide +kernel
theorem dX6_times_2 : decode cX6_times 2 = .ok (.bipush 20, 2) := by decide +kernel
theorem dX6_times_4 : decode cX6_times 4 = .ok (.invokestatic 66, 3) := by decide +kernel
theorem dX6_times_7 : decode cX6_times 7 = .ok (.ifCond .eq 34, 3) := by decide +kernel
theorem dX6_times_10 : decode cX6_times 10 = .ok (.iload_n 2, 1) := by decide +kernel
theorem dX6_times_11 : decode cX6_times 11 = .ok (.iconst 1, 1) := by decide +kernel
theorem dX6_times_12 : decode cX6_times 12 = .ok (.bipush 20, 2) := by decide +kernel
theorem dX6_times_14 : decode cX6_times 14 = .ok (.invokestatic 66, 3) := by decide +kernel
theorem dX6_times_17 : decode cX6_times 17 = .ok (.ifCond .eq 24, 3) := by decide +kernel
theorem dX6_times_20 : decode cX6_times 20 = .ok (.iload_n 3, 1) := by decide +kernel
theorem dX6_times_21 : decode cX6_times 21 = .ok (.iconst 1, 1) := by decide +kernel
theorem dX6_times_22 : decode cX6_times 22 = .ok (.bipush 20, 2) := by decide +kernel
theorem dX6_times_24 : decode cX6_times 24 = .ok (.invokestatic 66, 3) := by decide +kernel
theorem dX6_times_27 : decode cX6_times 27 = .ok (.ifCond .eq 14, 3) := by decide +kernel
theorem dX6_times_30 : decode cX6_times 30 = .ok (.iload 4, 2) := by decide +kernel
theorem dX6_times_32 : decode cX6_times 32 = .ok (.iconst 1, 1) := by decide +kernel
theorem dX6_times_33 : decode cX6_times 33 = .ok (.bipush 9, 2) := by decide +kernel
theorem dX6_times_35 : decode cX6_times 35 = .ok (.invokestatic 66, 3) := by decide +kernel
theorem dX6_times_38 : decode cX6_times 38 = .ok (.ifCond .ne 5, 3) := by decide +kernel
theorem dX6_times_41 : decode cX6_times 41 = .ok (.iconst 0, 1) := by decide +kernel
theorem dX6_times_42 : decode cX6_times 42 = .ok (.ireturn, 1) := by decide +kernel
theorem dX6_times_43 : decode cX6_times 43 = .ok (.aload_n 0, 1) := by decide +kernel
theorem dX6_times_44 : decode cX6_times 44 = .ok (.getfield 30, 3) := by decide +kernel
theorem dX6_times_47 : decode cX6_times 47 = .ok (.iload_n 1, 1) := by decide +kernel
theorem dX6_times_48 : decode cX6_times 48 = .ok (.iload_n 2, 1) := by decide +kernel
theorem dX6_times_49 : decode cX6_times 49 = .ok (.iload_n 3, 1) := by decide +kernel
theorem dX6_times_50 : decode cX6_times 50 = .ok (.iload 4, 2) := by decide +kernel
theorem dX6_times_52 : decode cX6_times 52 = .ok (.invokevirtual 114, 3) := by decide +kernel
theorem dX6_times_55 : decode cX6_times 55 = .ok (.iconst 1, 1) := by decide +kernel
theorem dX6_times_56 : decode cX6_times 56 = .ok (.ireturn, 1) := by decide +kernel
theorem dX6_waits_0 : decode cX6_waits 0 = .ok (.aload_n 0, 1) := by decide +kernel
theorem dX6_waits_1 : decode cX6_waits 1 = .ok (.getfield 30, 3) := by decide +kernel
theorem dX6_waits_4 : decode cX6_waits 4 = .ok (.invokevirtual 118, 3) := by decide +kernel
theorem dX6_waits_7 : decode cX6_waits 7 = .ok (.ireturn, 1) := by decide +kernel
theorem dX6_opening_0 : decode cX6_opening 0 = .ok (.aload_n 0, 1) := by decide +kernel
theorem dX6_opening_1 : decode cX6_opening 1 = .ok (.getfield 30, 3) := by decide +kernel
theorem dX6_opening_4 : decode cX6_opening 4 = .ok (.iload_n 1, 1) := by decide +kernel
theorem dX6_opening_5 : decode cX6_opening 5 = .ok (.iload_n 2, 1) := by decide +kernel
theorem dX6_opening_6 : decode cX6_opening 6 = .ok (.invokevirtual 121, 3) := by decide +kernel
