theorem dX6_opening_9 : decode cX6_opening 9 = .ok (.ireturn, 1) := by decide +kernel
theorem dX6_atOnce_0 : decode cX6_atOnce 0 = .ok (.aload_n 0, 1) := by decide +kernel
theorem dX6_atOnce_1 : decode cX6_atOnce 1 = .ok (.getfield 30, 3) := by decide +kernel
theorem dX6_atOnce_4 : decode cX6_atOnce 4 = .ok (.invokevirtual 124, 3) := by decide +kernel
theorem dX6_atOnce_7 : decode cX6_atOnce 7 = .ok (.ireturn, 1) := by decide +kernel
theorem dX6_level_0 : decode cX6_level 0 = .ok (.iload_n 1, 1) := by decide +kernel
theorem dX6_level_1 : decode cX6_level 1 = .ok (.iconst 0, 1) := by decide +kernel
theorem dX6_level_2 : decode cX6_level 2 = .ok (.bipush 59, 2) := by decide +kernel
theorem dX6_level_4 : decode cX6_level 4 = .ok (.invokestatic 66, 3) := by decide +kernel
theorem dX6_level_7 : decode cX6_level 7 = .ok (.ifCond .ne 5, 3) := by decide +kernel
theorem dX6_level_10 : decode cX6_level 10 = .ok (.iconst 0, 1) := by decide +kernel
theorem dX6_level_11 : decode cX6_level 11 = .ok (.ireturn, 1) := by decide +kernel
theorem dX6_level_12 : decode cX6_level 12 = .ok (.iload_n 2, 1) := by decide +kernel
theorem dX6_level_13 : decode cX6_level 13 = .ok (.iconst (-1), 1) := by decide +kernel
theorem dX6_level_14 : decode cX6_level 14 = .ok (.if_icmp .ne 14, 3) := by decide +kernel
theorem dX6_level_17 : decode cX6_level 17 = .ok (.aload_n 0, 1) := by decide +kernel
theorem dX6_level_18 : decode cX6_level 18 = .ok (.getfield 37, 3) := by decide +kernel
theorem dX6_level_21 : decode cX6_level 21 = .ok (.iload_n 1, 1) := by decide +kernel
theorem dX6_level_22 : decode cX6_level 22 = .ok (.iconst (-1), 1) := by decide +kernel
theorem dX6_level_23 : decode cX6_level 23 = .ok (.invokevirtual 127, 3) := by decide +kernel
theorem dX6_level_26 : decode cX6_level 26 = .ok (.iconst 1, 1) := by decide +kernel
theorem dX6_level_27 : decode cX6_level 27 = .ok (.ireturn, 1) := by decide +kernel
theorem dX6_level_28 : decode cX6_level 28 = .ok (.iload_n 2, 1) := by decide +kernel
theorem dX6_level_29 : decode cX6_level 29 = .ok (.iconst 0, 1) := by decide +kernel
theorem dX6_level_30 : decode cX6_level 30 = .ok (.bipush 99, 2) := by decide +kernel
theorem dX6_level_32 : decode cX6_level 32 = .ok (.invokestatic 66, 3) := by decide +kernel
theorem dX6_level_35 : decode cX6_level 35 = .ok (.ifCond .eq 13, 3) := by decide +kernel
theorem dX6_level_38 : decode cX6_level 38 = .ok (.iload_n 3, 1) := by decide +kernel
theorem dX6_level_39 : decode cX6_level 39 = .ok (.iload_n 2, 1) := by decide +kernel
theorem dX6_level_40 : decode cX6_level 40 = .ok (.bipush 99, 2) := by decide +kernel
theorem dX6_level_42 : decode cX6_level 42 = .ok (.invokestatic 66, 3) := by decide +kernel
theorem dX6_level_45 : decode cX6_level 45 = .ok (.ifCond .ne 5, 3) := by decide +kernel
theorem dX6_level_48 : decode cX6_level 48 = .ok (.iconst 0, 1) := by decide +kernel
theorem dX6_level_49 : decode cX6_level 49 = .ok (.ireturn, 1) := by decide +kernel
theorem dX6_level_50 : decode cX6_level 50 = .ok (.aload_n 0, 1) := by decide +kernel
theorem dX6_level_51 : decode cX6_level 51 = .ok (.getfield 37, 3) := by decide +kernel
theorem dX6_level_54 : decode cX6_level 54 = .ok (.iload_n 1, 1) := by decide +kernel
theorem dX6_level_55 : decode cX6_level 55 = .ok (.iload_n 3, 1) := by decide +kernel
theorem dX6_level_56 : decode cX6_level 56 = .ok (.invokevirtual 127, 3) := by decide +kernel
theorem dX6_level_59 : decode cX6_level 59 = .ok (.iconst 1, 1) := by decide +kernel
theorem dX6_level_60 : decode cX6_level 60 = .ok (.ireturn, 1) := by decide +kernel
theorem dX6_flood_0 : decode cX6_flood 0 = .ok (.iload_n 1, 1) := by decide +kernel
theorem dX6_flood_1 : decode cX6_flood 1 = .ok (.iconst 0, 1) := by decide +kernel
theorem dX6_flood_2 : decode cX6_flood 2 = .ok (.bipush 99, 2) := by decide +kernel
theorem dX6_flood_4 : decode cX6_flood 4 = .ok (.invokestatic 66, 3) := by decide +kernel
theorem dX6_flood_7 : decode cX6_flood 7 = .ok (.ifCond .eq 13, 3) := by decide +kernel
theorem dX6_flood_10 : decode cX6_flood 10 = .ok (.iload_n 2, 1) := by decide +kernel
theorem dX6_flood_11 : decode cX6_flood 11 = .ok (.iconst 1, 1) := by decide +kernel
theorem dX6_flood_12 : decode cX6_flood 12 = .ok (.bipush 9, 2) := by decide +kernel
theorem dX6_flood_14 : decode cX6_flood 14 = .ok (.invokestatic 66, 3) := by decide +kernel
theorem dX6_flood_17 : decode cX6_flood 17 = .ok (.ifCond .ne 5, 3) := by decide +kernel
theorem dX6_flood_20 : decode cX6_flood 20 = .ok (.iconst 0, 1) := by decide +kernel
theorem dX6_flood_21 : decode cX6_flood 21 = .ok (.ireturn, 1) := by decide +kernel
theorem dX6_flood_22 : decode cX6_flood 22 = .ok (.aload_n 0, 1) := by decide +kernel
theorem dX6_flood_23 : decode cX6_flood 23 = .ok (.getfield 37, 3) := by decide +kernel
theorem dX6_flood_26 : decode cX6_flood 26 = .ok (.iload_n 1, 1) := by decide +kernel
theorem dX6_flood_27 : decode cX6_flood 27 = .ok (.iload_n 2, 1) := by decide +kernel
theorem dX6_flood_28 : decode cX6_flood 28 = .ok (.invokevirtual 130, 3) := by decide +kernel
theorem dX6_flood_31 : decode cX6_flood 31 = .ok (.iconst 1, 1) := by decide +kernel
theorem dX6_flood_32 : decode cX6_flood 32 = .ok (.ireturn, 1) := by decide +kernel
theorem dX6_out_0 : decode cX6_out 0 = .ok (.aload_n 0, 1) := by decide +kernel
theorem dX6_out_1 : decode cX6_out 1 = .ok (.getfield 37, 3) := by decide +kernel
theorem dX6_out_4 : decode cX6_out 4 = .ok (.invokevirtual 133, 3) := by decide +kernel
theorem dX6_out_7 : decode cX6_out 7 = .ok (.ireturn, 1) := by decide +kernel
theorem dX6_outOn_0 : decode cX6_outOn 0 = .ok (.iload_n 1, 1) := by decide +kernel
theorem dX6_outOn_1 : decode cX6_outOn 1 = .ok (.iconst 0, 1) := by decide +kernel
theorem dX6_outOn_2 : decode cX6_outOn 2 = .ok (.bipush 59, 2) := by decide +kernel
theorem dX6_outOn_4 : decode cX6_outOn 4 = .ok (.invokestatic 66, 3) := by decide +kernel
theorem dX6_outOn_7 : decode cX6_outOn 7 = .ok (.ifCond .eq 12, 3) := by decide +kernel
theorem dX6_outOn_10 : decode cX6_outOn 10 = .ok (.iload_n 2, 1) := by decide +kernel
theorem dX6_outOn_11 : decode cX6_outOn 11 = .ok (.iconst 0, 1) := by decide +kernel
theorem dX6_outOn_12 : decode cX6_outOn 12 = .ok (.iconst 1, 1) := by decide +kernel
theorem dX6_outOn_13 : decode cX6_outOn 13 = .ok (.invokestatic 66, 3) := by decide +kernel
theorem dX6_outOn_16 : decode cX6_outOn 16 = .ok (.ifCond .ne 5, 3) := by decide +kernel
theorem dX6_outOn_19 : decode cX6_outOn 19 = .ok (.iconst (-1), 1) := by decide +kernel
theorem dX6_outOn_20 : decode cX6_outOn 20 = .ok (.ireturn, 1) := by decide +kernel
theorem dX6_outOn_21 : decode cX6_outOn 21 = .ok (.iload_n 2, 1) := by decide +kernel
theorem dX6_outOn_22 : decode cX6_outOn 22 = .ok (.ifCond .ne 14, 3) := by decide +kernel
theorem dX6_outOn_25 : decode cX6_outOn 25 = .ok (.aload_n 0, 1) := by decide +kernel
theorem dX6_outOn_26 : decode cX6_outOn 26 = .ok (.getfield 37, 3) := by decide +kernel
theorem dX6_outOn_29 : decode cX6_outOn 29 = .ok (.iload_n 1, 1) := by decide +kernel
theorem dX6_outOn_30 : decode cX6_outOn 30 = .ok (.invokevirtual 136, 3) := by decide +kernel
theorem dX6_outOn_33 : decode cX6_outOn 33 = .ok (.goto 11, 3) := by decide +kernel
theorem dX6_outOn_36 : decode cX6_outOn 36 = .ok (.aload_n 0, 1) := by decide +kernel
theorem dX6_outOn_37 : decode cX6_outOn 37 = .ok (.getfield 37, 3) := by decide +kernel
theorem dX6_outOn_40 : decode cX6_outOn 40 = .ok (.iload_n 1, 1) := by decide +kernel
theorem dX6_outOn_41 : decode cX6_outOn 41 = .ok (.invokevirtual 139, 3) := by decide +kernel
theorem dX6_outOn_44 : decode cX6_outOn 44 = .ok (.istore_n 3, 1) := by decide +kernel
theorem dX6_outOn_45 : decode cX6_outOn 45 = .ok (.iload_n 3, 1) := by decide +kernel
theorem dX6_outOn_46 : decode cX6_outOn 46 = .ok (.ifCond .eq 7, 3) := by decide +kernel
theorem dX6_outOn_49 : decode cX6_outOn 49 = .ok (.iconst 1, 1) := by decide +kernel
theorem dX6_outOn_50 : decode cX6_outOn 50 = .ok (.goto 4, 3) := by decide +kernel
theorem dX6_outOn_53 : decode cX6_outOn 53 = .ok (.iconst 0, 1) := by decide +kernel
theorem dX6_outOn_54 : decode cX6_outOn 54 = .ok (.ireturn, 1) := by decide +kernel
theorem dX6_feed_0 : decode cX6_feed 0 = .ok (.aload_n 0, 1) := by decide +kernel
theorem dX6_feed_1 : decode cX6_feed 1 = .ok (.getfield 44, 3) := by decide +kernel
theorem dX6_feed_4 : decode cX6_feed 4 = .ok (.invokevirtual 142, 3) := by decide +kernel
theorem dX6_feed_7 : decode cX6_feed 7 = .ok (.bipush 20, 2) := by decide +kernel
theorem dX6_feed_9 : decode cX6_feed 9 = .ok (.iadd, 1) := by decide +kernel
theorem dX6_feed_10 : decode cX6_feed 10 = .ok (.sipush 200, 3) := by decide +kernel
theorem dX6_feed_13 : decode cX6_feed 13 = .ok (.if_icmp .le 5, 3) := by decide +kernel
theorem dX6_feed_16 : decode cX6_feed 16 = .ok (.iconst (-1), 1) := by decide +kernel
theorem dX6_feed_17 : decode cX6_feed 17 = .ok (.ireturn, 1) := by decide +kernel
theorem dX6_feed_18 : decode cX6_feed 18 = .ok (.aload_n 0, 1) := by decide +kernel
theorem dX6_feed_19 : decode cX6_feed 19 = .ok (.getfield 44, 3) := by decide +kernel
theorem dX6_feed_22 : decode cX6_feed 22 = .ok (.iload_n 1, 1) := by decide +kernel
theorem dX6_feed_23 : decode cX6_feed 23 = .ok (.invokevirtual 145, 3) := by decide +kernel
theorem dX6_feed_26 : decode cX6_feed 26 = .ok (.aload_n 0, 1) := by decide +kernel
theorem dX6_feed_27 : decode cX6_feed 27 = .ok (.getfield 44, 3) := by decide +kernel
theorem dX6_feed_30 : decode cX6_feed 30 = .ok (.iload_n 2, 1) := by decide +kernel
theorem dX6_feed_31 : decode cX6_feed 31 = .ok (.invokevirtual 145, 3) := by decide +kernel
theorem dX6_feed_34 : decode cX6_feed 34 = .ok (.aload_n 0, 1) := by decide +kernel
theorem dX6_feed_35 : decode cX6_feed 35 = .ok (.getfield 44, 3) := by decide +kernel
theorem dX6_feed_38 : decode cX6_feed 38 = .ok (.iload_n 3, 1) := by decide +kernel
theorem dX6_feed_39 : decode cX6_feed 39 = .ok (.invokevirtual 145, 3) := by decide +kernel
theorem dX6_feed_42 : decode cX6_feed 42 = .ok (.aload_n 0, 1) := by decide +kernel
theorem dX6_feed_43 : decode cX6_feed 43 = .ok (.getfield 44, 3) := by decide +kernel
theorem dX6_feed_46 : decode cX6_feed 46 = .ok (.iload 4, 2) := by decide +kernel
theorem dX6_feed_48 : decode cX6_feed 48 = .ok (.invokevirtual 145, 3) := by decide +kernel
theorem dX6_feed_51 : decode cX6_feed 51 = .ok (.aload_n 0, 1) := by decide +kernel
theorem dX6_feed_52 : decode cX6_feed 52 = .ok (.getfield 44, 3) := by decide +kernel
theorem dX6_feed_55 : decode cX6_feed 55 = .ok (.iload 5, 2) := by decide +kernel
theorem dX6_feed_57 : decode cX6_feed 57 = .ok (.invokevirtual 145, 3) := by decide +kernel
theorem dX6_feed_60 : decode cX6_feed 60 = .ok (.aload_n 0, 1) := by decide +kernel
theorem dX6_feed_61 : decode cX6_feed 61 = .ok (.getfield 44, 3) := by decide +kernel
theorem dX6_feed_64 : decode cX6_feed 64 = .ok (.invokevirtual 142, 3) := by decide +kernel
theorem dX6_feed_67 : decode cX6_feed 67 = .ok (.ireturn, 1) := by decide +kernel
theorem dX6_end_0 : decode cX6_end 0 = .ok (.iload_n 1, 1) := by decide +kernel
theorem dX6_end_1 : decode cX6_end 1 = .ok (.iconst 0, 1) := by decide +kernel
theorem dX6_end_2 : decode cX6_end 2 = .ok (.aload_n 0, 1) := by decide +kernel
theorem dX6_end_3 : decode cX6_end 3 = .ok (.getfield 44, 3) := by decide +kernel
theorem dX6_end_6 : decode cX6_end 6 = .ok (.invokevirtual 142, 3) := by decide +kernel
theorem dX6_end_9 : decode cX6_end 9 = .ok (.invokestatic 66, 3) := by decide +kernel
theorem dX6_end_12 : decode cX6_end 12 = .ok (.ifCond .ne 5, 3) := by decide +kernel
theorem dX6_end_15 : decode cX6_end 15 = .ok (.iconst (-1), 1) := by decide +kernel
theorem dX6_end_16 : decode cX6_end 16 = .ok (.ireturn, 1) := by decide +kernel
theorem dX6_end_17 : decode cX6_end 17 = .ok (.aload_n 0, 1) := by decide +kernel
theorem dX6_end_18 : decode cX6_end 18 = .ok (.getfield 44, 3) := by decide +kernel
theorem dX6_end_21 : decode cX6_end 21 = .ok (.iload_n 1, 1) := by decide +kernel
theorem dX6_end_22 : decode cX6_end 22 = .ok (.invokevirtual 148, 3) := by decide +kernel
theorem dX6_end_25 : decode cX6_end 25 = .ok (.iload_n 1, 1) := by decide +kernel
theorem dX6_end_26 : decode cX6_end 26 = .ok (.ireturn, 1) := by decide +kernel
theorem dX6_tolls_0 : decode cX6_tolls 0 = .ok (.aload_n 0, 1) := by decide +kernel
theorem dX6_tolls_1 : decode cX6_tolls 1 = .ok (.getfield 51, 3) := by decide +kernel
theorem dX6_tolls_4 : decode cX6_tolls 4 = .ok (.aload_n 0, 1) := by decide +kernel
theorem dX6_tolls_5 : decode cX6_tolls 5 = .ok (.getfield 44, 3) := by decide +kernel
theorem dX6_tolls_8 : decode cX6_tolls 8 = .ok (.invokevirtual 151, 3) := by decide +kernel
theorem dX6_tolls_11 : decode cX6_tolls 11 = .ok (.istore_n 1, 1) := by decide +kernel
theorem dX6_tolls_12 : decode cX6_tolls 12 = .ok (.aload_n 0, 1) := by decide +kernel
theorem dX6_tolls_13 : decode cX6_tolls 13 = .ok (.getfield 44, 3) := by decide +kernel
theorem dX6_tolls_16 : decode cX6_tolls 16 = .ok (.iconst 0, 1) := by decide +kernel
theorem dX6_tolls_17 : decode cX6_tolls 17 = .ok (.invokevirtual 148, 3) := by decide +kernel
theorem dX6_tolls_20 : decode cX6_tolls 20 = .ok (.iload_n 1, 1) := by decide +kernel
theorem dX6_tolls_21 : decode cX6_tolls 21 = .ok (.ifCond .ne 5, 3) := by decide +kernel
theorem dX6_tolls_24 : decode cX6_tolls 24 = .ok (.iconst (-1), 1) := by decide +kernel
theorem dX6_tolls_25 : decode cX6_tolls 25 = .ok (.ireturn, 1) := by decide +kernel
theorem dX6_tolls_26 : decode cX6_tolls 26 = .ok (.aload_n 0, 1) := by decide +kernel
theorem dX6_tolls_27 : decode cX6_tolls 27 = .ok (.getfield 58, 3) := by decide +kernel
theorem dX6_tolls_30 : decode cX6_tolls 30 = .ok (.aload_n 0, 1) := by decide +kernel
theorem dX6_tolls_31 : decode cX6_tolls 31 = .ok (.getfield 51, 3) := by decide +kernel
theorem dX6_tolls_34 : decode cX6_tolls 34 = .ok (.invokevirtual 155, 3) := by decide +kernel
theorem dX6_tolls_37 : decode cX6_tolls 37 = .ok (.aload_n 0, 1) := by decide +kernel
theorem dX6_tolls_38 : decode cX6_tolls 38 = .ok (.getfield 51, 3) := by decide +kernel
theorem dX6_tolls_41 : decode cX6_tolls 41 = .ok (.invokevirtual 159, 3) := by decide +kernel
theorem dX6_tolls_44 : decode cX6_tolls 44 = .ok (.ireturn, 1) := by decide +kernel
theorem dX6_fault_0 : decode cX6_fault 0 = .ok (.iload_n 1, 1) := by decide +kernel
theorem dX6_fault_1 : decode cX6_fault 1 = .ok (.ifCond .ne 11, 3) := by decide +kernel
theorem dX6_fault_4 : decode cX6_fault 4 = .ok (.aload_n 0, 1) := by decide +kernel
theorem dX6_fault_5 : decode cX6_fault 5 = .ok (.getfield 51, 3) := by decide +kernel
theorem dX6_fault_8 : decode cX6_fault 8 = .ok (.invokevirtual 162, 3) := by decide +kernel
theorem dX6_fault_11 : decode cX6_fault 11 = .ok (.ireturn, 1) := by decide +kernel
theorem dX6_fault_12 : decode cX6_fault 12 = .ok (.iload_n 1, 1) := by decide +kernel
theorem dX6_fault_13 : decode cX6_fault 13 = .ok (.iconst 1, 1) := by decide +kernel
theorem dX6_fault_14 : decode cX6_fault 14 = .ok (.if_icmp .ne 13, 3) := by decide +kernel
theorem dX6_fault_17 : decode cX6_fault 17 = .ok (.aload_n 0, 1) := by decide +kernel
theorem dX6_fault_18 : decode cX6_fault 18 = .ok (.getfield 51, 3) := by decide +kernel
theorem dX6_fault_21 : decode cX6_fault 21 = .ok (.invokevirtual 165, 3) := by decide +kernel
theorem dX6_fault_24 : decode cX6_fault 24 = .ok (.goto 4, 3) := by decide +kernel
theorem dX6_fault_27 : decode cX6_fault 27 = .ok (.iconst (-1), 1) := by decide +kernel
theorem dX6_fault_28 : decode cX6_fault 28 = .ok (.ireturn, 1) := by decide +kernel
theorem dX6_pass_0 : decode cX6_pass 0 = .ok (.iload_n 1, 1) := by decide +kernel
theorem dX6_pass_1 : decode cX6_pass 1 = .ok (.iconst 0, 1) := by decide +kernel
theorem dX6_pass_2 : decode cX6_pass 2 = .ok (.iconst 5, 1) := by decide +kernel
theorem dX6_pass_3 : decode cX6_pass 3 = .ok (.invokestatic 66, 3) := by decide +kernel
theorem dX6_pass_6 : decode cX6_pass 6 = .ok (.ifCond .eq 30, 3) := by decide +kernel
theorem dX6_pass_9 : decode cX6_pass 9 = .ok (.iload_n 2, 1) := by decide +kernel
theorem dX6_pass_10 : decode cX6_pass 10 = .ok (.iconst 0, 1) := by decide +kernel
theorem dX6_pass_11 : decode cX6_pass 11 = .ok (.bipush 19, 2) := by decide +kernel
theorem dX6_pass_13 : decode cX6_pass 13 = .ok (.invokestatic 66, 3) := by decide +kernel
theorem dX6_pass_16 : decode cX6_pass 16 = .ok (.ifCond .eq 20, 3) := by decide +kernel
theorem dX6_pass_19 : decode cX6_pass 19 = .ok (.iload_n 3, 1) := by decide +kernel
theorem dX6_pass_20 : decode cX6_pass 20 = .ok (.aload_n 0, 1) := by decide +kernel
theorem dX6_pass_21 : decode cX6_pass 21 = .ok (.getfield 58, 3) := by decide +kernel
theorem dX6_pass_24 : decode cX6_pass 24 = .ok (.invokevirtual 168, 3) := by decide +kernel
theorem dX6_pass_27 : decode cX6_pass 27 = .ok (.sipush 9999, 3) := by decide +kernel
theorem dX6_pass_30 : decode cX6_pass 30 = .ok (.invokestatic 66, 3) := by decide +kernel
theorem dX6_pass_33 : decode cX6_pass 33 = .ok (.ifCond .ne 5, 3) := by decide +kernel
theorem dX6_pass_36 : decode cX6_pass 36 = .ok (.iconst (-1), 1) := by decide +kernel
theorem dX6_pass_37 : decode cX6_pass 37 = .ok (.ireturn, 1) := by decide +kernel
theorem dX6_pass_38 : decode cX6_pass 38 = .ok (.aload_n 0, 1) := by decide +kernel
theorem dX6_pass_39 : decode cX6_pass 39 = .ok (.getfield 58, 3) := by decide +kernel
theorem dX6_pass_42 : decode cX6_pass 42 = .ok (.iload_n 1, 1) := by decide +kernel
theorem dX6_pass_43 : decode cX6_pass 43 = .ok (.iload_n 2, 1) := by decide +kernel
theorem dX6_pass_44 : decode cX6_pass 44 = .ok (.iload_n 3, 1) := by decide +kernel
theorem dX6_pass_45 : decode cX6_pass 45 = .ok (.invokevirtual 171, 3) := by decide +kernel
theorem dX6_pass_48 : decode cX6_pass 48 = .ok (.ireturn, 1) := by decide +kernel
theorem dX6_about_0 : decode cX6_about 0 = .ok (.iload_n 1, 1) := by decide +kernel
theorem dX6_about_1 : decode cX6_about 1 = .ok (.bipush 20, 2) := by decide +kernel
theorem dX6_about_3 : decode cX6_about 3 = .ok (.bipush 25, 2) := by decide +kernel
theorem dX6_about_5 : decode cX6_about 5 = .ok (.invokestatic 66, 3) := by decide +kernel
theorem dX6_about_8 : decode cX6_about 8 = .ok (.ifCond .eq 15, 3) := by decide +kernel
theorem dX6_about_11 : decode cX6_about 11 = .ok (.aload_n 0, 1) := by decide +kernel
theorem dX6_about_12 : decode cX6_about 12 = .ok (.getfield 58, 3) := by decide +kernel
theorem dX6_about_15 : decode cX6_about 15 = .ok (.iload_n 1, 1) := by decide +kernel
theorem dX6_about_16 : decode cX6_about 16 = .ok (.bipush 20, 2) := by decide +kernel
theorem dX6_about_18 : decode cX6_about 18 = .ok (.isub, 1) := by decide +kernel
theorem dX6_about_19 : decode cX6_about 19 = .ok (.invokevirtual 175, 3) := by decide +kernel
theorem dX6_about_22 : decode cX6_about 22 = .ok (.ireturn, 1) := by decide +kernel
theorem dX6_about_23 : decode cX6_about 23 = .ok (.iload_n 1, 1) := by decide +kernel
theorem dX6_about_24 : decode cX6_about 24 = .ok (.bipush 30, 2) := by decide +kernel
theorem dX6_about_26 : decode cX6_about 26 = .ok (.bipush 35, 2) := by decide +kernel
theorem dX6_about_28 : decode cX6_about 28 = .ok (.invokestatic 66, 3) := by decide +kernel
theorem dX6_about_31 : decode cX6_about 31 = .ok (.ifCond .eq 15, 3) := by decide +kernel
theorem dX6_about_34 : decode cX6_about 34 = .ok (.aload_n 0, 1) := by decide +kernel
theorem dX6_about_35 : decode cX6_about 35 = .ok (.getfield 58, 3) := by decide +kernel
theorem dX6_about_38 : decode cX6_about 38 = .ok (.iload_n 1, 1) := by decide +kernel
theorem dX6_about_39 : decode cX6_about 39 = .ok (.bipush 30, 2) := by decide +kernel
theorem dX6_about_41 : decode cX6_about 41 = .ok (.isub, 1) := by decide +kernel
theorem dX6_about_42 : decode cX6_about 42 = .ok (.invokevirtual 178, 3) := by decide +kernel
theorem dX6_about_45 : decode cX6_about 45 = .ok (.ireturn, 1) := by decide +kernel
theorem dX6_about_46 : decode cX6_about 46 = .ok (.iload_n 1, 1) := by decide +kernel
theorem dX6_about_47 : decode cX6_about 47 = .ok (.tableswitch 97 0 6 #[41, 49, 57, 65, 73, 81, 89], 41) := by decide +kernel
theorem dX6_about_88 : decode cX6_about 88 = .ok (.aload_n 0, 1) := by decide +kernel
theorem dX6_about_89 : decode cX6_about 89 = .ok (.getfield 23, 3) := by decide +kernel
theorem dX6_about_92 : decode cX6_about 92 = .ok (.invokevirtual 181, 3) := by decide +kernel
theorem dX6_about_95 : decode cX6_about 95 = .ok (.ireturn, 1) := by decide +kernel
theorem dX6_about_96 : decode cX6_about 96 = .ok (.aload_n 0, 1) := by decide +kernel
theorem dX6_about_97 : decode cX6_about 97 = .ok (.getfield 23, 3) := by decide +kernel
theorem dX6_about_100 : decode cX6_about 100 = .ok (.invokevirtual 82, 3) := by decide +kernel
theorem dX6_about_103 : decode cX6_about 103 = .ok (.ireturn, 1) := by decide +kernel
theorem dX6_about_104 : decode cX6_about 104 = .ok (.aload_n 0, 1) := by decide +kernel
theorem dX6_about_105 : decode cX6_about 105 = .ok (.getfield 30, 3) := by decide +kernel
theorem dX6_about_108 : decode cX6_about 108 = .ok (.invokevirtual 102, 3) := by decide +kernel
theorem dX6_about_111 : decode cX6_about 111 = .ok (.ireturn, 1) := by decide +kernel
theorem dX6_about_112 : decode cX6_about 112 = .ok (.aload_n 0, 1) := by decide +kernel
theorem dX6_about_113 : decode cX6_about 113 = .ok (.getfield 30, 3) := by decide +kernel
theorem dX6_about_116 : decode cX6_about 116 = .ok (.invokevirtual 108, 3) := by decide +kernel
theorem dX6_about_119 : decode cX6_about 119 = .ok (.ireturn, 1) := by decide +kernel
theorem dX6_about_120 : decode cX6_about 120 = .ok (.aload_n 0, 1) := by decide +kernel
theorem dX6_about_121 : decode cX6_about 121 = .ok (.getfield 58, 3) := by decide +kernel
theorem dX6_about_124 : decode cX6_about 124 = .ok (.invokevirtual 184, 3) := by decide +kernel
theorem dX6_about_127 : decode cX6_about 127 = .ok (.ireturn, 1) := by decide +kernel
theorem dX6_about_128 : decode cX6_about 128 = .ok (.aload_n 0, 1) := by decide +kernel
theorem dX6_about_129 : decode cX6_about 129 = .ok (.getfield 58, 3) := by decide +kernel
theorem dX6_about_132 : decode cX6_about 132 = .ok (.invokevirtual 187, 3) := by decide +kernel
theorem dX6_about_135 : decode cX6_about 135 = .ok (.ireturn, 1) := by decide +kernel
theorem dX6_about_136 : decode cX6_about 136 = .ok (.aload_n 0, 1) := by decide +kernel
theorem dX6_about_137 : decode cX6_about 137 = .ok (.getfield 44, 3) := by decide +kernel
theorem dX6_about_140 : decode cX6_about 140 = .ok (.invokevirtual 142, 3) := by decide +kernel
theorem dX6_about_143 : decode cX6_about 143 = .ok (.ireturn, 1) := by decide +kernel
theorem dX6_about_144 : decode cX6_about 144 = .ok (.iconst (-1), 1) := by decide +kernel
theorem dX6_about_145 : decode cX6_about 145 = .ok (.ireturn, 1) := by decide +kernel
theorem dX6_within_0 : decode cX6_within 0 = .ok (.iload_n 0, 1) := by decide +kernel
theorem dX6_within_1 : decode cX6_within 1 = .ok (.iload_n 1, 1) := by decide +kernel
theorem dX6_within_2 : decode cX6_within 2 = .ok (.if_icmp .lt 12, 3) := by decide +kernel
theorem dX6_within_5 : decode cX6_within 5 = .ok (.iload_n 0, 1) := by decide +kernel
theorem dX6_within_6 : decode cX6_within 6 = .ok (.iload_n 2, 1) := by decide +kernel
theorem dX6_within_7 : decode cX6_within 7 = .ok (.if_icmp .gt 7, 3) := by decide +kernel
theorem dX6_within_10 : decode cX6_within 10 = .ok (.iconst 1, 1) := by decide +kernel
theorem dX6_within_11 : decode cX6_within 11 = .ok (.goto 4, 3) := by decide +kernel
theorem dX6_within_14 : decode cX6_within 14 = .ok (.iconst 0, 1) := by decide +kernel
theorem dX6_within_15 : decode cX6_within 15 = .ok (.ireturn, 1) := by decide +kernel
theorem dX7_init_0 : decode cX7_init 0 = .ok (.aload_n 0, 1) := by decide +kernel
theorem dX7_init_1 : decode cX7_init 1 = .ok (.invokespecial 1, 3) := by decide +kernel
theorem dX7_init_4 : decode cX7_init 4 = .ok (.aload_n 0, 1) := by decide +kernel
theorem dX7_init_5 : decode cX7_init 5 = .ok (.bipush 12, 2) := by decide +kernel
theorem dX7_init_7 : decode cX7_init 7 = .ok (.newarray .int, 2) := by decide +kernel
theorem dX7_init_9 : decode cX7_init 9 = .ok (.putfield 7, 3) := by decide +kernel
theorem dX7_init_12 : decode cX7_init 12 = .ok (.aload_n 0, 1) := by decide +kernel
theorem dX7_init_13 : decode cX7_init 13 = .ok (.bipush 12, 2) := by decide +kernel
theorem dX7_init_15 : decode cX7_init 15 = .ok (.newarray .int, 2) := by decide +kernel
theorem dX7_init_17 : decode cX7_init 17 = .ok (.putfield 13, 3) := by decide +kernel
theorem dX7_init_20 : decode cX7_init 20 = .ok (.aload_n 0, 1) := by decide +kernel
theorem dX7_init_21 : decode cX7_init 21 = .ok (.bipush 10, 2) := by decide +kernel
theorem dX7_init_23 : decode cX7_init 23 = .ok (.newarray .int, 2) := by decide +kernel
theorem dX7_init_25 : decode cX7_init 25 = .ok (.putfield 16, 3) := by decide +kernel
theorem dX7_init_28 : decode cX7_init 28 = .ok (.aload_n 0, 1) := by decide +kernel
theorem dX7_init_29 : decode cX7_init 29 = .ok (.bipush 6, 2) := by decide +kernel
theorem dX7_init_31 : decode cX7_init 31 = .ok (.newarray .int, 2) := by decide +kernel
theorem dX7_init_33 : decode cX7_init 33 = .ok (.putfield 19, 3) := by decide +kernel
theorem dX7_init_36 : decode cX7_init 36 = .ok (.aload_n 0, 1) := by decide +kernel
theorem dX7_init_37 : decode cX7_init 37 = .ok (.bipush 6, 2) := by decide +kernel
theorem dX7_init_39 : decode cX7_init 39 = .ok (.newarray .int, 2) := by decide +kernel
theorem dX7_init_41 : decode cX7_init 41 = .ok (.putfield 22, 3) := by decide +kernel
theorem dX7_init_44 : decode cX7_init 44 = .ok (.aload_n 0, 1) := by decide +kernel
theorem dX7_init_45 : decode cX7_init 45 = .ok (.bipush 10, 2) := by decide +kernel
theorem dX7_init_47 : decode cX7_init 47 = .ok (.newarray .int, 2) := by decide +kernel
theorem dX7_init_49 : decode cX7_init 49 = .ok (.putfield 25, 3) := by decide +kernel
theorem dX7_init_52 : decode cX7_init 52 = .ok (.aload_n 0, 1) := by decide +kernel
theorem dX7_init_53 : decode cX7_init 53 = .ok (.bipush 30, 2) := by decide +kernel
theorem dX7_init_55 : decode cX7_init 55 = .ok (.newarray .int, 2) := by decide +kernel
theorem dX7_init_57 : decode cX7_init 57 = .ok (.putfield 28, 3) := by decide +kernel
theorem dX7_init_60 : decode cX7_init 60 = .ok (.aload_n 0, 1) := by decide +kernel
theorem dX7_init_61 : decode cX7_init 61 = .ok (.iconst 4, 1) := by decide +kernel
theorem dX7_init_62 : decode cX7_init 62 = .ok (.newarray .int, 2) := by decide +kernel
theorem dX7_init_64 : decode cX7_init 64 = .ok (.dup, 1) := by decide +kernel
theorem dX7_init_65 : decode cX7_init 65 = .ok (.iconst 0, 1) := by decide +kernel
theorem dX7_init_66 : decode cX7_init 66 = .ok (.iconst 3, 1) := by decide +kernel
theorem dX7_init_67 : decode cX7_init 67 = .ok (.iastore, 1) := by decide +kernel
theorem dX7_init_68 : decode cX7_init 68 = .ok (.dup, 1) := by decide +kernel
theorem dX7_init_69 : decode cX7_init 69 = .ok (.iconst 1, 1) := by decide +kernel
theorem dX7_init_70 : decode cX7_init 70 = .ok (.iconst 2, 1) := by decide +kernel
theorem dX7_init_71 : decode cX7_init 71 = .ok (.iastore, 1) := by decide +kernel
theorem dX7_init_72 : decode cX7_init 72 = .ok (.dup, 1) := by decide +kernel
theorem dX7_init_73 : decode cX7_init 73 = .ok (.iconst 2, 1) := by decide +kernel
theorem dX7_init_74 : decode cX7_init 74 = .ok (.iconst 3, 1) := by decide +kernel
theorem dX7_init_75 : decode cX7_init 75 = .ok (.iastore, 1) := by decide +kernel
theorem dX7_init_76 : decode cX7_init 76 = .ok (.dup, 1) := by decide +kernel
theorem dX7_init_77 : decode cX7_init 77 = .ok (.iconst 3, 1) := by decide +kernel
theorem dX7_init_78 : decode cX7_init 78 = .ok (.iconst 2, 1) := by decide +kernel
theorem dX7_init_79 : decode cX7_init 79 = .ok (.iastore, 1) := by decide +kernel
theorem dX7_init_80 : decode cX7_init 80 = .ok (.putfield 31, 3) := by decide +kernel
theorem dX7_init_83 : decode cX7_init 83 = .ok (.aload_n 0, 1) := by decide +kernel
theorem dX7_init_84 : decode cX7_init 84 = .ok (.bipush 60, 2) := by decide +kernel
theorem dX7_init_86 : decode cX7_init 86 = .ok (.newarray .int, 2) := by decide +kernel
theorem dX7_init_88 : decode cX7_init 88 = .ok (.putfield 34, 3) := by decide +kernel
theorem dX7_init_91 : decode cX7_init 91 = .ok (.aload_n 0, 1) := by decide +kernel
theorem dX7_init_92 : decode cX7_init 92 = .ok (.bipush 60, 2) := by decide +kernel
theorem dX7_init_94 : decode cX7_init 94 = .ok (.newarray .int, 2) := by decide +kernel
theorem dX7_init_96 : decode cX7_init 96 = .ok (.putfield 37, 3) := by decide +kernel
theorem dX7_init_99 : decode cX7_init 99 = .ok (.aload_n 0, 1) := by decide +kernel
theorem dX7_init_100 : decode cX7_init 100 = .ok (.bipush 50, 2) := by decide +kernel
theorem dX7_init_102 : decode cX7_init 102 = .ok (.putfield 40, 3) := by decide +kernel
theorem dX7_init_105 : decode cX7_init 105 = .ok (.aload_n 0, 1) := by decide +kernel
theorem dX7_init_106 : decode cX7_init 106 = .ok (.iconst 3, 1) := by decide +kernel
theorem dX7_init_107 : decode cX7_init 107 = .ok (.putfield 44, 3) := by decide +kernel
theorem dX7_init_110 : decode cX7_init 110 = .ok (.aload_n 0, 1) := by decide +kernel
theorem dX7_init_111 : decode cX7_init 111 = .ok (.sipush 200, 3) := by decide +kernel
theorem dX7_init_114 : decode cX7_init 114 = .ok (.newarray .byte, 2) := by decide +kernel
theorem dX7_init_116 : decode cX7_init 116 = .ok (.putfield 47, 3) := by decide +kernel
theorem dX7_init_119 : decode cX7_init 119 = .ok (.aload_n 0, 1) := by decide +kernel
theorem dX7_init_120 : decode cX7_init 120 = .ok (.iconst (-1), 1) := by decide +kernel
theorem dX7_init_121 : decode cX7_init 121 = .ok (.putfield 51, 3) := by decide +kernel
theorem dX7_init_124 : decode cX7_init 124 = .ok (.aload_n 0, 1) := by decide +kernel
theorem dX7_init_125 : decode cX7_init 125 = .ok (.iconst (-1), 1) := by decide +kernel
theorem dX7_init_126 : decode cX7_init 126 = .ok (.putfield 54, 3) := by decide +kernel
theorem dX7_init_129 : decode cX7_init 129 = .ok (.aload_n 0, 1) := by decide +kernel
theorem dX7_init_130 : decode cX7_init 130 = .ok (.bipush 6, 2) := by decide +kernel
theorem dX7_init_132 : decode cX7_init 132 = .ok (.newarray .int, 2) := by decide +kernel
theorem dX7_init_134 : decode cX7_init 134 = .ok (.putfield 57, 3) := by decide +kernel
theorem dX7_init_137 : decode cX7_init 137 = .ok (.aload_n 0, 1) := by decide +kernel
theorem dX7_init_138 : decode cX7_init 138 = .ok (.bipush 6, 2) := by decide +kernel
theorem dX7_init_140 : decode cX7_init 140 = .ok (.newarray .int, 2) := by decide +kernel
theorem dX7_init_142 : decode cX7_init 142 = .ok (.putfield 60, 3) := by decide +kernel
theorem dX7_init_145 : decode cX7_init 145 = .ok (.aload_n 0, 1) := by decide +kernel
theorem dX7_init_146 : decode cX7_init 146 = .ok (.bipush 6, 2) := by decide +kernel
theorem dX7_init_148 : decode cX7_init 148 = .ok (.newarray .int, 2) := by decide +kernel
theorem dX7_init_150 : decode cX7_init 150 = .ok (.dup, 1) := by decide +kernel
theorem dX7_init_151 : decode cX7_init 151 = .ok (.iconst 0, 1) := by decide +kernel
theorem dX7_init_152 : decode cX7_init 152 = .ok (.iconst (-1), 1) := by decide +kernel
theorem dX7_init_153 : decode cX7_init 153 = .ok (.iastore, 1) := by decide +kernel
theorem dX7_init_154 : decode cX7_init 154 = .ok (.dup, 1) := by decide +kernel
theorem dX7_init_155 : decode cX7_init 155 = .ok (.iconst 1, 1) := by decide +kernel
theorem dX7_init_156 : decode cX7_init 156 = .ok (.iconst (-1), 1) := by decide +kernel
theorem dX7_init_157 : decode cX7_init 157 = .ok (.iastore, 1) := by decide +kernel
theorem dX7_init_158 : decode cX7_init 158 = .ok (.dup, 1) := by decide +kernel
theorem dX7_init_159 : decode cX7_init 159 = .ok (.iconst 2, 1) := by decide +kernel
theorem dX7_init_160 : decode cX7_init 160 = .ok (.iconst (-1), 1) := by decide +kernel
theorem dX7_init_161 : decode cX7_init 161 = .ok (.iastore, 1) := by decide +kernel
theorem dX7_init_162 : decode cX7_init 162 = .ok (.dup, 1) := by decide +kernel
theorem dX7_init_163 : decode cX7_init 163 = .ok (.iconst 3, 1) := by decide +kernel
theorem dX7_init_164 : decode cX7_init 164 = .ok (.iconst (-1), 1) := by decide +kernel
theorem dX7_init_165 : decode cX7_init 165 = .ok (.iastore, 1) := by decide +kernel
theorem dX7_init_166 : decode cX7_init 166 = .ok (.dup, 1) := by decide +kernel
theorem dX7_init_167 : decode cX7_init 167 = .ok (.iconst 4, 1) := by decide +kernel
theorem dX7_init_168 : decode cX7_init 168 = .ok (.iconst (-1), 1) := by decide +kernel
theorem dX7_init_169 : decode cX7_init 169 = .ok (.iastore, 1) := by decide +kernel
theorem dX7_init_170 : decode cX7_init 170 = .ok (.dup, 1) := by decide +kernel
theorem dX7_init_171 : decode cX7_init 171 = .ok (.iconst 5, 1) := by decide +kernel
theorem dX7_init_172 : decode cX7_init 172 = .ok (.iconst (-1), 1) := by decide +kernel
theorem dX7_init_173 : decode cX7_init 173 = .ok (.iastore, 1) := by decide +kernel
theorem dX7_init_174 : decode cX7_init 174 = .ok (.putfield 63, 3) := by decide +kernel
theorem dX7_init_177 : decode cX7_init 177 = .ok (.aload_n 0, 1) := by decide +kernel
theorem dX7_init_178 : decode cX7_init 178 = .ok (.bipush 6, 2) := by decide +kernel
theorem dX7_init_180 : decode cX7_init 180 = .ok (.newarray .int, 2) := by decide +kernel
theorem dX7_init_182 : decode cX7_init 182 = .ok (.dup, 1) := by decide +kernel
theorem dX7_init_183 : decode cX7_init 183 = .ok (.iconst 0, 1) := by decide +kernel
theorem dX7_init_184 : decode cX7_init 184 = .ok (.iconst (-1), 1) := by decide +kernel
theorem dX7_init_185 : decode cX7_init 185 = .ok (.iastore, 1) := by decide +kernel
theorem dX7_init_186 : decode cX7_init 186 = .ok (.dup, 1) := by decide +kernel
theorem dX7_init_187 : decode cX7_init 187 = .ok (.iconst 1, 1) := by decide +kernel
theorem dX7_init_188 : decode cX7_init 188 = .ok (.iconst (-1), 1) := by decide +kernel
theorem dX7_init_189 : decode cX7_init 189 = .ok (.iastore, 1) := by decide +kernel
theorem dX7_init_190 : decode cX7_init 190 = .ok (.dup, 1) := by decide +kernel
theorem dX7_init_191 : decode cX7_init 191 = .ok (.iconst 2, 1) := by decide +kernel
theorem dX7_init_192 : decode cX7_init 192 = .ok (.iconst (-1), 1) := by decide +kernel
theorem dX7_init_193 : decode cX7_init 193 = .ok (.iastore, 1) := by decide +kernel
theorem dX7_init_194 : decode cX7_init 194 = .ok (.dup, 1) := by decide +kernel
theorem dX7_init_195 : decode cX7_init 195 = .ok (.iconst 3, 1) := by decide +kernel
theorem dX7_init_196 : decode cX7_init 196 = .ok (.iconst (-1), 1) := by decide +kernel
theorem dX7_init_197 : decode cX7_init 197 = .ok (.iastore, 1) := by decide +kernel
theorem dX7_init_198 : decode cX7_init 198 = .ok (.dup, 1) := by decide +kernel
theorem dX7_init_199 : decode cX7_init 199 = .ok (.iconst 4, 1) := by decide +kernel
theorem dX7_init_200 : decode cX7_init 200 = .ok (.iconst (-1), 1) := by decide +kernel
theorem dX7_init_201 : decode cX7_init 201 = .ok (.iastore, 1) := by decide +kernel
theorem dX7_init_202 : decode cX7_init 202 = .ok (.dup, 1) := by decide +kernel
theorem dX7_init_203 : decode cX7_init 203 = .ok (.iconst 5, 1) := by decide +kernel
theorem dX7_init_204 : decode cX7_init 204 = .ok (.iconst (-1), 1) := by decide +kernel
theorem dX7_init_205 : decode cX7_init 205 = .ok (.iastore, 1) := by decide +kernel
theorem dX7_init_206 : decode cX7_init 206 = .ok (.putfield 66, 3) := by decide +kernel
theorem dX7_init_209 : decode cX7_init 209 = .ok (.aload_n 0, 1) := by decide +kernel
theorem dX7_init_210 : decode cX7_init 210 = .ok (.bipush 120, 2) := by decide +kernel
theorem dX7_init_212 : decode cX7_init 212 = .ok (.newarray .int, 2) := by decide +kernel
theorem dX7_init_214 : decode cX7_init 214 = .ok (.putfield 69, 3) := by decide +kernel
theorem dX7_init_217 : decode cX7_init 217 = .ok (.aload_n 0, 1) := by decide +kernel
theorem dX7_init_218 : decode cX7_init 218 = .ok (.bipush 10, 2) := by decide +kernel
theorem dX7_init_220 : decode cX7_init 220 = .ok (.newarray .int, 2) := by decide +kernel
theorem dX7_init_222 : decode cX7_init 222 = .ok (.putfield 72, 3) := by decide +kernel
theorem dX7_init_225 : decode cX7_init 225 = .ok (.aload_n 0, 1) := by decide +kernel
theorem dX7_init_226 : decode cX7_init 226 = .ok (.sipush 3311, 3) := by decide +kernel
theorem dX7_init_229 : decode cX7_init 229 = .ok (.newarray .int, 2) := by decide +kernel
theorem dX7_init_231 : decode cX7_init 231 = .ok (.putfield 75, 3) := by decide +kernel
theorem dX7_init_234 : decode cX7_init 234 = .ok (.aload_n 0, 1) := by decide +kernel
theorem dX7_init_235 : decode cX7_init 235 = .ok (.sipush 610, 3) := by decide +kernel
theorem dX7_init_238 : decode cX7_init 238 = .ok (.newarray .int, 2) := by decide +kernel
theorem dX7_init_240 : decode cX7_init 240 = .ok (.putfield 78, 3) := by decide +kernel
theorem dX7_init_243 : decode cX7_init 243 = .ok (.aload_n 0, 1) := by decide +kernel
theorem dX7_init_244 : decode cX7_init 244 = .ok (.iload_n 1, 1) := by decide +kernel
theorem dX7_init_245 : decode cX7_init 245 = .ok (.iconst 1, 1) := by decide +kernel
theorem dX7_init_246 : decode cX7_init 246 = .ok (.if_icmp .ge 7, 3) := by decide +kernel
theorem dX7_init_249 : decode cX7_init 249 = .ok (.iconst 1, 1) := by decide +kernel
theorem dX7_init_250 : decode cX7_init 250 = .ok (.goto 15, 3) := by decide +kernel
theorem dX7_init_253 : decode cX7_init 253 = .ok (.iload_n 1, 1) := by decide +kernel
theorem dX7_init_254 : decode cX7_init 254 = .ok (.bipush 12, 2) := by decide +kernel
theorem dX7_init_256 : decode cX7_init 256 = .ok (.if_icmp .le 8, 3) := by decide +kernel
theorem dX7_init_259 : decode cX7_init 259 = .ok (.bipush 12, 2) := by decide +kernel
theorem dX7_init_261 : decode cX7_init 261 = .ok (.goto 4, 3) := by decide +kernel
theorem dX7_init_264 : decode cX7_init 264 = .ok (.iload_n 1, 1) := by decide +kernel
theorem dX7_init_265 : decode cX7_init 265 = .ok (.putfield 81, 3) := by decide +kernel
theorem dX7_init_268 : decode cX7_init 268 = .ok (.iconst 0, 1) := by decide +kernel
theorem dX7_init_269 : decode cX7_init 269 = .ok (.istore_n 2, 1) := by decide +kernel
theorem dX7_init_270 : decode cX7_init 270 = .ok (.iload_n 2, 1) := by decide +kernel
theorem dX7_init_271 : decode cX7_init 271 = .ok (.bipush 12, 2) := by decide +kernel
theorem dX7_init_273 : decode cX7_init 273 = .ok (.if_icmp .ge 25, 3) := by decide +kernel
theorem dX7_init_276 : decode cX7_init 276 = .ok (.aload_n 0, 1) := by decide +kernel
theorem dX7_init_277 : decode cX7_init 277 = .ok (.getfield 7, 3) := by decide +kernel
theorem dX7_init_280 : decode cX7_init 280 = .ok (.iload_n 2, 1) := by decide +kernel
theorem dX7_init_281 : decode cX7_init 281 = .ok (.bipush 100, 2) := by decide +kernel
theorem dX7_init_283 : decode cX7_init 283 = .ok (.iastore, 1) := by decide +kernel
theorem dX7_init_284 : decode cX7_init 284 = .ok (.aload_n 0, 1) := by decide +kernel
theorem dX7_init_285 : decode cX7_init 285 = .ok (.getfield 13, 3) := by decide +kernel
theorem dX7_init_288 : decode cX7_init 288 = .ok (.iload_n 2, 1) := by decide +kernel
theorem dX7_init_289 : decode cX7_init 289 = .ok (.bipush 100, 2) := by decide +kernel
theorem dX7_init_291 : decode cX7_init 291 = .ok (.iastore, 1) := by decide +kernel
theorem dX7_init_292 : decode cX7_init 292 = .ok (.iinc 2 1, 3) := by decide +kernel
theorem dX7_init_295 : decode cX7_init 295 = .ok (.goto (-25), 3) := by decide +kernel
theorem dX7_init_298 : decode cX7_init 298 = .ok (.iconst 0, 1) := by decide +kernel
theorem dX7_init_299 : decode cX7_init 299 = .ok (.istore_n 2, 1) := by decide +kernel
theorem dX7_init_300 : decode cX7_init 300 = .ok (.iload_n 2, 1) := by decide +kernel
theorem dX7_init_301 : decode cX7_init 301 = .ok (.bipush 60, 2) := by decide +kernel
theorem dX7_init_303 : decode cX7_init 303 = .ok (.if_icmp .ge 16, 3) := by decide +kernel
theorem dX7_init_306 : decode cX7_init 306 = .ok (.aload_n 0, 1) := by decide +kernel
theorem dX7_init_307 : decode cX7_init 307 = .ok (.getfield 34, 3) := by decide +kernel
theorem dX7_init_310 : decode cX7_init 310 = .ok (.iload_n 2, 1) := by decide +kernel
theorem dX7_init_311 : decode cX7_init 311 = .ok (.iconst (-1), 1) := by decide +kernel
theorem dX7_init_312 : decode cX7_init 312 = .ok (.iastore, 1) := by decide +kernel
theorem dX7_init_313 : decode cX7_init 313 = .ok (.iinc 2 1, 3) := by decide +kernel
theorem dX7_init_316 : decode cX7_init 316 = .ok (.goto (-16), 3) := by decide +kernel
theorem dX7_init_319 : decode cX7_init 319 = .ok (.iconst 0, 1) := by decide +kernel
theorem dX7_init_320 : decode cX7_init 320 = .ok (.istore_n 2, 1) := by decide +kernel
theorem dX7_init_321 : decode cX7_init 321 = .ok (.iload_n 2, 1) := by decide +kernel
theorem dX7_init_322 : decode cX7_init 322 = .ok (.bipush 120, 2) := by decide +kernel
theorem dX7_init_324 : decode cX7_init 324 = .ok (.if_icmp .ge 16, 3) := by decide +kernel
theorem dX7_init_327 : decode cX7_init 327 = .ok (.aload_n 0, 1) := by decide +kernel
theorem dX7_init_328 : decode cX7_init 328 = .ok (.getfield 69, 3) := by decide +kernel
theorem dX7_init_331 : decode cX7_init 331 = .ok (.iload_n 2, 1) := by decide +kernel
theorem dX7_init_332 : decode cX7_init 332 = .ok (.iconst (-1), 1) := by decide +kernel
theorem dX7_init_333 : decode cX7_init 333 = .ok (.iastore, 1) := by decide +kernel
theorem dX7_init_334 : decode cX7_init 334 = .ok (.iinc 2 1, 3) := by decide +kernel
theorem dX7_init_337 : decode cX7_init 337 = .ok (.goto (-16), 3) := by decide +kernel
theorem dX7_init_340 : decode cX7_init 340 = .ok (.return_, 1) := by decide +kernel
theorem dX7_in_0 : decode cX7_in 0 = .ok (.lload_n 0, 1) := by decide +kernel
theorem dX7_in_1 : decode cX7_in 1 = .ok (.lload_n 2, 1) := by decide +kernel
theorem dX7_in_2 : decode cX7_in 2 = .ok (.lcmp, 1) := by decide +kernel
theorem dX7_in_3 : decode cX7_in 3 = .ok (.ifCond .lt 14, 3) := by decide +kernel
theorem dX7_in_6 : decode cX7_in 6 = .ok (.lload_n 0, 1) := by decide +kernel
theorem dX7_in_7 : decode cX7_in 7 = .ok (.lload 4, 2) := by decide +kernel
theorem dX7_in_9 : decode cX7_in 9 = .ok (.lcmp, 1) := by decide +kernel
theorem dX7_in_10 : decode cX7_in 10 = .ok (.ifCond .gt 7, 3) := by decide +kernel
theorem dX7_in_13 : decode cX7_in 13 = .ok (.iconst 1, 1) := by decide +kernel
theorem dX7_in_14 : decode cX7_in 14 = .ok (.goto 4, 3) := by decide +kernel
theorem dX7_in_17 : decode cX7_in 17 = .ok (.iconst 0, 1) := by decide +kernel
theorem dX7_in_18 : decode cX7_in 18 = .ok (.ireturn, 1) := by decide +kernel
theorem dX7_isHull_0 : decode cX7_isHull 0 = .ok (.iload_n 1, 1) := by decide +kernel
theorem dX7_isHull_1 : decode cX7_isHull 1 = .ok (.i2l, 1) := by decide +kernel
theorem dX7_isHull_2 : decode cX7_isHull 2 = .ok (.lconst 0, 1) := by decide +kernel
theorem dX7_isHull_3 : decode cX7_isHull 3 = .ok (.aload_n 0, 1) := by decide +kernel
theorem dX7_isHull_4 : decode cX7_isHull 4 = .ok (.getfield 81, 3) := by decide +kernel
theorem dX7_isHull_7 : decode cX7_isHull 7 = .ok (.iconst 1, 1) := by decide +kernel
theorem dX7_isHull_8 : decode cX7_isHull 8 = .ok (.isub, 1) := by decide +kernel
theorem dX7_isHull_9 : decode cX7_isHull 9 = .ok (.i2l, 1) := by decide +kernel
theorem dX7_isHull_10 : decode cX7_isHull 10 = .ok (.invokestatic 84, 3) := by decide +kernel
theorem dX7_isHull_13 : decode cX7_isHull 13 = .ok (.ireturn, 1) := by decide +kernel
theorem dX7_hull_0 : decode cX7_hull 0 = .ok (.aload_n 0, 1) := by decide +kernel
theorem dX7_hull_1 : decode cX7_hull 1 = .ok (.iload_n 1, 1) := by decide +kernel
theorem dX7_hull_2 : decode cX7_hull 2 = .ok (.invokevirtual 88, 3) := by decide +kernel
theorem dX7_hull_5 : decode cX7_hull 5 = .ok (.ifCond .eq 27, 3) := by decide +kernel
theorem dX7_hull_8 : decode cX7_hull 8 = .ok (.iload_n 2, 1) := by decide +kernel
theorem dX7_hull_9 : decode cX7_hull 9 = .ok (.i2l, 1) := by decide +kernel
theorem dX7_hull_10 : decode cX7_hull 10 = .ok (.lconst 1, 1) := by decide +kernel
theorem dX7_hull_11 : decode cX7_hull 11 = .ok (.ldc2_w 92, 3) := by decide +kernel
theorem dX7_hull_14 : decode cX7_hull 14 = .ok (.invokestatic 84, 3) := by decide +kernel
theorem dX7_hull_17 : decode cX7_hull 17 = .ok (.ifCond .eq 15, 3) := by decide +kernel
theorem dX7_hull_20 : decode cX7_hull 20 = .ok (.iload_n 3, 1) := by decide +kernel
theorem dX7_hull_21 : decode cX7_hull 21 = .ok (.i2l, 1) := by decide +kernel
theorem dX7_hull_22 : decode cX7_hull 22 = .ok (.lconst 0, 1) := by decide +kernel
theorem dX7_hull_23 : decode cX7_hull 23 = .ok (.ldc2_w 92, 3) := by decide +kernel
theorem dX7_hull_26 : decode cX7_hull 26 = .ok (.invokestatic 84, 3) := by decide +kernel
theorem dX7_hull_29 : decode cX7_hull 29 = .ok (.ifCond .ne 5, 3) := by decide +kernel
theorem dX7_hull_32 : decode cX7_hull 32 = .ok (.iconst 0, 1) := by decide +kernel
theorem dX7_hull_33 : decode cX7_hull 33 = .ok (.ireturn, 1) := by decide +kernel
theorem dX7_hull_34 : decode cX7_hull 34 = .ok (.aload_n 0, 1) := by decide +kernel
theorem dX7_hull_35 : decode cX7_hull 35 = .ok (.getfield 7, 3) := by decide +kernel
theorem dX7_hull_38 : decode cX7_hull 38 = .ok (.iload_n 1, 1) := by decide +kernel
theorem dX7_hull_39 : decode cX7_hull 39 = .ok (.iload_n 2, 1) := by decide +kernel
theorem dX7_hull_40 : decode cX7_hull 40 = .ok (.iastore, 1) := by decide +kernel
theorem dX7_hull_41 : decode cX7_hull 41 = .ok (.aload_n 0, 1) := by decide +kernel
theorem dX7_hull_42 : decode cX7_hull 42 = .ok (.getfield 13, 3) := by decide +kernel
theorem dX7_hull_45 : decode cX7_hull 45 = .ok (.iload_n 1, 1) := by decide +kernel
theorem dX7_hull_46 : decode cX7_hull 46 = .ok (.iload_n 3, 1) := by decide +kernel
theorem dX7_hull_47 : decode cX7_hull 47 = .ok (.iastore, 1) := by decide +kernel
theorem dX7_hull_48 : decode cX7_hull 48 = .ok (.iconst 1, 1) := by decide +kernel
theorem dX7_hull_49 : decode cX7_hull 49 = .ok (.ireturn, 1) := by decide +kernel
theorem dX7_pull_0 : decode cX7_pull 0 = .ok (.iload_n 1, 1) := by decide +kernel
theorem dX7_pull_1 : decode cX7_pull 1 = .ok (.i2l, 1) := by decide +kernel
theorem dX7_pull_2 : decode cX7_pull 2 = .ok (.lconst 0, 1) := by decide +kernel
theorem dX7_pull_3 : decode cX7_pull 3 = .ok (.ldc2_w 94, 3) := by decide +kernel
theorem dX7_pull_6 : decode cX7_pull 6 = .ok (.invokestatic 84, 3) := by decide +kernel
theorem dX7_pull_9 : decode cX7_pull 9 = .ok (.ifCond .eq 15, 3) := by decide +kernel
theorem dX7_pull_12 : decode cX7_pull 12 = .ok (.iload_n 2, 1) := by decide +kernel
theorem dX7_pull_13 : decode cX7_pull 13 = .ok (.i2l, 1) := by decide +kernel
theorem dX7_pull_14 : decode cX7_pull 14 = .ok (.lconst 0, 1) := by decide +kernel
theorem dX7_pull_15 : decode cX7_pull 15 = .ok (.ldc2_w 92, 3) := by decide +kernel
theorem dX7_pull_18 : decode cX7_pull 18 = .ok (.invokestatic 84, 3) := by decide +kernel
theorem dX7_pull_21 : decode cX7_pull 21 = .ok (.ifCond .ne 5, 3) := by decide +kernel
theorem dX7_pull_24 : decode cX7_pull 24 = .ok (.iconst 0, 1) := by decide +kernel
theorem dX7_pull_25 : decode cX7_pull 25 = .ok (.ireturn, 1) := by decide +kernel
theorem dX7_pull_26 : decode cX7_pull 26 = .ok (.aload_n 0, 1) := by decide +kernel
theorem dX7_pull_27 : decode cX7_pull 27 = .ok (.getfield 16, 3) := by decide +kernel
theorem dX7_pull_30 : decode cX7_pull 30 = .ok (.iload_n 1, 1) := by decide +kernel
theorem dX7_pull_31 : decode cX7_pull 31 = .ok (.iload_n 2, 1) := by decide +kernel
theorem dX7_pull_32 : decode cX7_pull 32 = .ok (.iastore, 1) := by decide +kernel
theorem dX7_pull_33 : decode cX7_pull 33 = .ok (.iconst 1, 1) := by decide +kernel
theorem dX7_pull_34 : decode cX7_pull 34 = .ok (.ireturn, 1) := by decide +kernel
theorem dX7_drags_0 : decode cX7_drags 0 = .ok (.iload_n 1, 1) := by decide +kernel
theorem dX7_drags_1 : decode cX7_drags 1 = .ok (.i2l, 1) := by decide +kernel
theorem dX7_drags_2 : decode cX7_drags 2 = .ok (.lconst 0, 1) := by decide +kernel
theorem dX7_drags_3 : decode cX7_drags 3 = .ok (.ldc2_w 94, 3) := by decide +kernel
theorem dX7_drags_6 : decode cX7_drags 6 = .ok (.invokestatic 84, 3) := by decide +kernel
theorem dX7_drags_9 : decode cX7_drags 9 = .ok (.ifCond .ne 5, 3) := by decide +kernel
theorem dX7_drags_12 : decode cX7_drags 12 = .ok (.iconst (-1), 1) := by decide +kernel
theorem dX7_drags_13 : decode cX7_drags 13 = .ok (.ireturn, 1) := by decide +kernel
theorem dX7_drags_14 : decode cX7_drags 14 = .ok (.iconst 0, 1) := by decide +kernel
theorem dX7_drags_15 : decode cX7_drags 15 = .ok (.istore_n 2, 1) := by decide +kernel
theorem dX7_drags_16 : decode cX7_drags 16 = .ok (.iconst 0, 1) := by decide +kernel
theorem dX7_drags_17 : decode cX7_drags 17 = .ok (.istore_n 3, 1) := by decide +kernel
theorem dX7_drags_18 : decode cX7_drags 18 = .ok (.iload_n 3, 1) := by decide +kernel
theorem dX7_drags_19 : decode cX7_drags 19 = .ok (.aload_n 0, 1) := by decide +kernel
theorem dX7_drags_20 : decode cX7_drags 20 = .ok (.getfield 81, 3) := by decide +kernel
theorem dX7_drags_23 : decode cX7_drags 23 = .ok (.if_icmp .ge 32, 3) := by decide +kernel
theorem dX7_drags_26 : decode cX7_drags 26 = .ok (.iload_n 2, 1) := by decide +kernel
theorem dX7_drags_27 : decode cX7_drags 27 = .ok (.aload_n 0, 1) := by decide +kernel
theorem dX7_drags_28 : decode cX7_drags 28 = .ok (.getfield 13, 3) := by decide +kernel
theorem dX7_drags_31 : decode cX7_drags 31 = .ok (.iload_n 3, 1) := by decide +kernel
theorem dX7_drags_32 : decode cX7_drags 32 = .ok (.iaload, 1) := by decide +kernel
theorem dX7_drags_33 : decode cX7_drags 33 = .ok (.aload_n 0, 1) := by decide +kernel
theorem dX7_drags_34 : decode cX7_drags 34 = .ok (.getfield 16, 3) := by decide +kernel
theorem dX7_drags_37 : decode cX7_drags 37 = .ok (.iload_n 1, 1) := by decide +kernel
theorem dX7_drags_38 : decode cX7_drags 38 = .ok (.iaload, 1) := by decide +kernel
theorem dX7_drags_39 : decode cX7_drags 39 = .ok (.if_icmp .ge 7, 3) := by decide +kernel
theorem dX7_drags_42 : decode cX7_drags 42 = .ok (.iconst 1, 1) := by decide +kernel
theorem dX7_drags_43 : decode cX7_drags 43 = .ok (.goto 4, 3) := by decide +kernel
theorem dX7_drags_46 : decode cX7_drags 46 = .ok (.iconst 0, 1) := by decide +kernel
theorem dX7_drags_47 : decode cX7_drags 47 = .ok (.iadd, 1) := by decide +kernel
theorem dX7_drags_48 : decode cX7_drags 48 = .ok (.istore_n 2, 1) := by decide +kernel
theorem dX7_drags_49 : decode cX7_drags 49 = .ok (.iinc 3 1, 3) := by decide +kernel
theorem dX7_drags_52 : decode cX7_drags 52 = .ok (.goto (-34), 3) := by decide +kernel
theorem dX7_drags_55 : decode cX7_drags 55 = .ok (.iload_n 2, 1) := by decide +kernel
theorem dX7_drags_56 : decode cX7_drags 56 = .ok (.ireturn, 1) := by decide +kernel
theorem dX7_cart_0 : decode cX7_cart 0 = .ok (.iload_n 1, 1) := by decide +kernel
theorem dX7_cart_1 : decode cX7_cart 1 = .ok (.i2l, 1) := by decide +kernel
theorem dX7_cart_2 : decode cX7_cart 2 = .ok (.lconst 1, 1) := by decide +kernel
theorem dX7_cart_3 : decode cX7_cart 3 = .ok (.ldc2_w 96, 3) := by decide +kernel
theorem dX7_cart_6 : decode cX7_cart 6 = .ok (.invokestatic 84, 3) := by decide +kernel
theorem dX7_cart_9 : decode cX7_cart 9 = .ok (.ifCond .eq 31, 3) := by decide +kernel
theorem dX7_cart_12 : decode cX7_cart 12 = .ok (.aload_n 0, 1) := by decide +kernel
theorem dX7_cart_13 : decode cX7_cart 13 = .ok (.getfield 98, 3) := by decide +kernel
theorem dX7_cart_16 : decode cX7_cart 16 = .ok (.ifCond .le 15, 3) := by decide +kernel
theorem dX7_cart_19 : decode cX7_cart 19 = .ok (.iload_n 2, 1) := by decide +kernel
theorem dX7_cart_20 : decode cX7_cart 20 = .ok (.i2l, 1) := by decide +kernel
theorem dX7_cart_21 : decode cX7_cart 21 = .ok (.lconst 1, 1) := by decide +kernel
theorem dX7_cart_22 : decode cX7_cart 22 = .ok (.ldc2_w 101, 3) := by decide +kernel
theorem dX7_cart_25 : decode cX7_cart 25 = .ok (.invokestatic 84, 3) := by decide +kernel
theorem dX7_cart_28 : decode cX7_cart 28 = .ok (.ifCond .eq 12, 3) := by decide +kernel
theorem dX7_cart_31 : decode cX7_cart 31 = .ok (.aload_n 0, 1) := by decide +kernel
theorem dX7_cart_32 : decode cX7_cart 32 = .ok (.getfield 98, 3) := by decide +kernel
theorem dX7_cart_35 : decode cX7_cart 35 = .ok (.bipush 6, 2) := by decide +kernel
theorem dX7_cart_37 : decode cX7_cart 37 = .ok (.if_icmp .ne 5, 3) := by decide +kernel
theorem dX7_cart_40 : decode cX7_cart 40 = .ok (.iconst (-1), 1) := by decide +kernel
theorem dX7_cart_41 : decode cX7_cart 41 = .ok (.ireturn, 1) := by decide +kernel
theorem dX7_cart_42 : decode cX7_cart 42 = .ok (.aload_n 0, 1) := by decide +kernel
theorem dX7_cart_43 : decode cX7_cart 43 = .ok (.getfield 19, 3) := by decide +kernel
theorem dX7_cart_46 : decode cX7_cart 46 = .ok (.aload_n 0, 1) := by decide +kernel
theorem dX7_cart_47 : decode cX7_cart 47 = .ok (.getfield 98, 3) := by decide +kernel
theorem dX7_cart_50 : decode cX7_cart 50 = .ok (.iload_n 1, 1) := by decide +kernel
theorem dX7_cart_51 : decode cX7_cart 51 = .ok (.iastore, 1) := by decide +kernel
theorem dX7_cart_52 : decode cX7_cart 52 = .ok (.aload_n 0, 1) := by decide +kernel
theorem dX7_cart_53 : decode cX7_cart 53 = .ok (.getfield 22, 3) := by decide +kernel
theorem dX7_cart_56 : decode cX7_cart 56 = .ok (.aload_n 0, 1) := by decide +kernel
theorem dX7_cart_57 : decode cX7_cart 57 = .ok (.getfield 98, 3) := by decide +kernel
theorem dX7_cart_60 : decode cX7_cart 60 = .ok (.iload_n 2, 1) := by decide +kernel
theorem dX7_cart_61 : decode cX7_cart 61 = .ok (.iastore, 1) := by decide +kernel
theorem dX7_cart_62 : decode cX7_cart 62 = .ok (.aload_n 0, 1) := by decide +kernel
theorem dX7_cart_63 : decode cX7_cart 63 = .ok (.dup, 1) := by decide +kernel
theorem dX7_cart_64 : decode cX7_cart 64 = .ok (.getfield 98, 3) := by decide +kernel
theorem dX7_cart_67 : decode cX7_cart 67 = .ok (.iconst 1, 1) := by decide +kernel
theorem dX7_cart_68 : decode cX7_cart 68 = .ok (.iadd, 1) := by decide +kernel
theorem dX7_cart_69 : decode cX7_cart 69 = .ok (.putfield 98, 3) := by decide +kernel
theorem dX7_cart_72 : decode cX7_cart 72 = .ok (.aload_n 0, 1) := by decide +kernel
theorem dX7_cart_73 : decode cX7_cart 73 = .ok (.getfield 98, 3) := by decide +kernel
theorem dX7_cart_76 : decode cX7_cart 76 = .ok (.ireturn, 1) := by decide +kernel
theorem dX7_clear_0 : decode cX7_clear 0 = .ok (.aload_n 0, 1) := by decide +kernel
theorem dX7_clear_1 : decode cX7_clear 1 = .ok (.getfield 98, 3) := by decide +kernel
theorem dX7_clear_4 : decode cX7_clear 4 = .ok (.istore_n 1, 1) := by decide +kernel
theorem dX7_clear_5 : decode cX7_clear 5 = .ok (.aload_n 0, 1) := by decide +kernel
theorem dX7_clear_6 : decode cX7_clear 6 = .ok (.iconst 0, 1) := by decide +kernel
theorem dX7_clear_7 : decode cX7_clear 7 = .ok (.putfield 98, 3) := by decide +kernel
theorem dX7_clear_10 : decode cX7_clear 10 = .ok (.iload_n 1, 1) := by decide +kernel
theorem dX7_clear_11 : decode cX7_clear 11 = .ok (.ireturn, 1) := by decide +kernel
theorem dX7_placeOf_0 : decode cX7_placeOf 0 = .ok (.iload_n 2, 1) := by decide +kernel
theorem dX7_placeOf_1 : decode cX7_placeOf 1 = .ok (.istore 4, 2) := by decide +kernel
theorem dX7_placeOf_3 : decode cX7_placeOf 3 = .ok (.iconst 1, 1) := by decide +kernel
theorem dX7_placeOf_4 : decode cX7_placeOf 4 = .ok (.istore 5, 2) := by decide +kernel
theorem dX7_placeOf_6 : decode cX7_placeOf 6 = .ok (.iload 5, 2) := by decide +kernel
theorem dX7_placeOf_8 : decode cX7_placeOf 8 = .ok (.iload_n 1, 1) := by decide +kernel
theorem dX7_placeOf_9 : decode cX7_placeOf 9 = .ok (.if_icmp .gt 29, 3) := by decide +kernel
theorem dX7_placeOf_12 : decode cX7_placeOf 12 = .ok (.iload 4, 2) := by decide +kernel
theorem dX7_placeOf_14 : decode cX7_placeOf 14 = .ok (.iload_n 3, 1) := by decide +kernel
theorem dX7_placeOf_15 : decode cX7_placeOf 15 = .ok (.ifCond .le 7, 3) := by decide +kernel
theorem dX7_placeOf_18 : decode cX7_placeOf 18 = .ok (.iload_n 3, 1) := by decide +kernel
theorem dX7_placeOf_19 : decode cX7_placeOf 19 = .ok (.goto 10, 3) := by decide +kernel
theorem dX7_placeOf_22 : decode cX7_placeOf 22 = .ok (.aload_n 0, 1) := by decide +kernel
theorem dX7_placeOf_23 : decode cX7_placeOf 23 = .ok (.getfield 22, 3) := by decide +kernel
theorem dX7_placeOf_26 : decode cX7_placeOf 26 = .ok (.iload 5, 2) := by decide +kernel
theorem dX7_placeOf_28 : decode cX7_placeOf 28 = .ok (.iaload, 1) := by decide +kernel
theorem dX7_placeOf_29 : decode cX7_placeOf 29 = .ok (.isub, 1) := by decide +kernel
theorem dX7_placeOf_30 : decode cX7_placeOf 30 = .ok (.istore 4, 2) := by decide +kernel
theorem dX7_placeOf_32 : decode cX7_placeOf 32 = .ok (.iinc 5 1, 3) := by decide +kernel
theorem dX7_placeOf_35 : decode cX7_placeOf 35 = .ok (.goto (-29), 3) := by decide +kernel
theorem dX7_placeOf_38 : decode cX7_placeOf 38 = .ok (.iload 4, 2) := by decide +kernel
theorem dX7_placeOf_40 : decode cX7_placeOf 40 = .ok (.ireturn, 1) := by decide +kernel
theorem dX7_pressOn_0 : decode cX7_pressOn 0 = .ok (.iconst 0, 1) := by decide +kernel
theorem dX7_pressOn_1 : decode cX7_pressOn 1 = .ok (.istore 4, 2) := by decide +kernel
theorem dX7_pressOn_3 : decode cX7_pressOn 3 = .ok (.iconst 0, 1) := by decide +kernel
theorem dX7_pressOn_4 : decode cX7_pressOn 4 = .ok (.istore 5, 2) := by decide +kernel
theorem dX7_pressOn_6 : decode cX7_pressOn 6 = .ok (.iload 5, 2) := by decide +kernel
theorem dX7_pressOn_8 : decode cX7_pressOn 8 = .ok (.aload_n 0, 1) := by decide +kernel
theorem dX7_pressOn_9 : decode cX7_pressOn 9 = .ok (.getfield 98, 3) := by decide +kernel
theorem dX7_pressOn_12 : decode cX7_pressOn 12 = .ok (.if_icmp .ge 78, 3) := by decide +kernel
theorem dX7_pressOn_15 : decode cX7_pressOn 15 = .ok (.aload_n 0, 1) := by decide +kernel
theorem dX7_pressOn_16 : decode cX7_pressOn 16 = .ok (.iload 5, 2) := by decide +kernel
theorem dX7_pressOn_18 : decode cX7_pressOn 18 = .ok (.iload_n 2, 1) := by decide +kernel
theorem dX7_pressOn_19 : decode cX7_pressOn 19 = .ok (.iload_n 3, 1) := by decide +kernel
theorem dX7_pressOn_20 : decode cX7_pressOn 20 = .ok (.invokevirtual 103, 3) := by decide +kernel
theorem dX7_pressOn_23 : decode cX7_pressOn 23 = .ok (.istore 6, 2) := by decide +kernel
theorem dX7_pressOn_25 : decode cX7_pressOn 25 = .ok (.aload_n 0, 1) := by decide +kernel
theorem dX7_pressOn_26 : decode cX7_pressOn 26 = .ok (.iload 6, 2) := by decide +kernel
theorem dX7_pressOn_28 : decode cX7_pressOn 28 = .ok (.invokevirtual 88, 3) := by decide +kernel
theorem dX7_pressOn_31 : decode cX7_pressOn 31 = .ok (.ifCond .eq 53, 3) := by decide +kernel
theorem dX7_pressOn_34 : decode cX7_pressOn 34 = .ok (.iload 4, 2) := by decide +kernel
theorem dX7_pressOn_36 : decode cX7_pressOn 36 = .ok (.iload 6, 2) := by decide +kernel
theorem dX7_pressOn_38 : decode cX7_pressOn 38 = .ok (.iload_n 1, 1) := by decide +kernel
theorem dX7_pressOn_39 : decode cX7_pressOn 39 = .ok (.if_icmp .ne 15, 3) := by decide +kernel
theorem dX7_pressOn_42 : decode cX7_pressOn 42 = .ok (.iconst 2, 1) := by decide +kernel
theorem dX7_pressOn_43 : decode cX7_pressOn 43 = .ok (.aload_n 0, 1) := by decide +kernel
theorem dX7_pressOn_44 : decode cX7_pressOn 44 = .ok (.getfield 19, 3) := by decide +kernel
theorem dX7_pressOn_47 : decode cX7_pressOn 47 = .ok (.iload 5, 2) := by decide +kernel
theorem dX7_pressOn_49 : decode cX7_pressOn 49 = .ok (.iaload, 1) := by decide +kernel
theorem dX7_pressOn_50 : decode cX7_pressOn 50 = .ok (.imul, 1) := by decide +kernel
theorem dX7_pressOn_51 : decode cX7_pressOn 51 = .ok (.goto 30, 3) := by decide +kernel
theorem dX7_pressOn_54 : decode cX7_pressOn 54 = .ok (.iload 6, 2) := by decide +kernel
theorem dX7_pressOn_56 : decode cX7_pressOn 56 = .ok (.iload_n 1, 1) := by decide +kernel
theorem dX7_pressOn_57 : decode cX7_pressOn 57 = .ok (.iconst 1, 1) := by decide +kernel
theorem dX7_pressOn_58 : decode cX7_pressOn 58 = .ok (.isub, 1) := by decide +kernel
theorem dX7_pressOn_59 : decode cX7_pressOn 59 = .ok (.if_icmp .eq 11, 3) := by decide +kernel
theorem dX7_pressOn_62 : decode cX7_pressOn 62 = .ok (.iload 6, 2) := by decide +kernel
theorem dX7_pressOn_64 : decode cX7_pressOn 64 = .ok (.iload_n 1, 1) := by decide +kernel
theorem dX7_pressOn_65 : decode cX7_pressOn 65 = .ok (.iconst 1, 1) := by decide +kernel
theorem dX7_pressOn_66 : decode cX7_pressOn 66 = .ok (.iadd, 1) := by decide +kernel
theorem dX7_pressOn_67 : decode cX7_pressOn 67 = .ok (.if_icmp .ne 13, 3) := by decide +kernel
theorem dX7_pressOn_70 : decode cX7_pressOn 70 = .ok (.aload_n 0, 1) := by decide +kernel
theorem dX7_pressOn_71 : decode cX7_pressOn 71 = .ok (.getfield 19, 3) := by decide +kernel
theorem dX7_pressOn_74 : decode cX7_pressOn 74 = .ok (.iload 5, 2) := by decide +kernel
theorem dX7_pressOn_76 : decode cX7_pressOn 76 = .ok (.iaload, 1) := by decide +kernel
theorem dX7_pressOn_77 : decode cX7_pressOn 77 = .ok (.goto 4, 3) := by decide +kernel
theorem dX7_pressOn_80 : decode cX7_pressOn 80 = .ok (.iconst 0, 1) := by decide +kernel
theorem dX7_pressOn_81 : decode cX7_pressOn 81 = .ok (.iadd, 1) := by decide +kernel
theorem dX7_pressOn_82 : decode cX7_pressOn 82 = .ok (.istore 4, 2) := by decide +kernel
theorem dX7_pressOn_84 : decode cX7_pressOn 84 = .ok (.iinc 5 1, 3) := by decide +kernel
theorem dX7_pressOn_87 : decode cX7_pressOn 87 = .ok (.goto (-81), 3) := by decide +kernel
theorem dX7_pressOn_90 : decode cX7_pressOn 90 = .ok (.iload 4, 2) := by decide +kernel
theorem dX7_pressOn_92 : decode cX7_pressOn 92 = .ok (.ireturn, 1) := by decide +kernel
theorem dX7_pressed_0 : decode cX7_pressed 0 = .ok (.aload_n 0, 1) := by decide +kernel
theorem dX7_pressed_1 : decode cX7_pressed 1 = .ok (.iload_n 1, 1) := by decide +kernel
theorem dX7_pressed_2 : decode cX7_pressed 2 = .ok (.invokevirtual 88, 3) := by decide +kernel
theorem dX7_pressed_5 : decode cX7_pressed 5 = .ok (.ifCond .eq 15, 3) := by decide +kernel
theorem dX7_pressed_8 : decode cX7_pressed 8 = .ok (.iload_n 2, 1) := by decide +kernel
theorem dX7_pressed_9 : decode cX7_pressed 9 = .ok (.i2l, 1) := by decide +kernel
theorem dX7_pressed_10 : decode cX7_pressed 10 = .ok (.lconst 0, 1) := by decide +kernel
theorem dX7_pressed_11 : decode cX7_pressed 11 = .ok (.ldc2_w 107, 3) := by decide +kernel
theorem dX7_pressed_14 : decode cX7_pressed 14 = .ok (.invokestatic 84, 3) := by decide +kernel
theorem dX7_pressed_17 : decode cX7_pressed 17 = .ok (.ifCond .ne 7, 3) := by decide +kernel
theorem dX7_pressed_20 : decode cX7_pressed 20 = .ok (.iconst (-1), 1) := by decide +kernel
theorem dX7_pressed_21 : decode cX7_pressed 21 = .ok (.goto 10, 3) := by decide +kernel
theorem dX7_pressed_24 : decode cX7_pressed 24 = .ok (.aload_n 0, 1) := by decide +kernel
theorem dX7_pressed_25 : decode cX7_pressed 25 = .ok (.iload_n 1, 1) := by decide +kernel
theorem dX7_pressed_26 : decode cX7_pressed 26 = .ok (.iload_n 2, 1) := by decide +kernel
theorem dX7_pressed_27 : decode cX7_pressed 27 = .ok (.iconst 0, 1) := by decide +kernel
theorem dX7_pressed_28 : decode cX7_pressed 28 = .ok (.invokevirtual 109, 3) := by decide +kernel
theorem dX7_pressed_31 : decode cX7_pressed 31 = .ok (.ireturn, 1) := by decide +kernel
theorem dX7_looks_0 : decode cX7_looks 0 = .ok (.aload_n 0, 1) := by decide +kernel
theorem dX7_looks_1 : decode cX7_looks 1 = .ok (.ldc 112, 2) := by decide +kernel
theorem dX7_looks_3 : decode cX7_looks 3 = .ok (.putfield 113, 3) := by decide +kernel
theorem dX7_looks_6 : decode cX7_looks 6 = .ok (.iconst 0, 1) := by decide +kernel
theorem dX7_looks_7 : decode cX7_looks 7 = .ok (.istore_n 2, 1) := by decide +kernel
theorem dX7_looks_8 : decode cX7_looks 8 = .ok (.aload_n 0, 1) := by decide +kernel
theorem dX7_looks_9 : decode cX7_looks 9 = .ok (.aload_n 0, 1) := by decide +kernel
theorem dX7_looks_10 : decode cX7_looks 10 = .ok (.getfield 98, 3) := by decide +kernel
theorem dX7_looks_13 : decode cX7_looks 13 = .ok (.iconst 1, 1) := by decide +kernel
theorem dX7_looks_14 : decode cX7_looks 14 = .ok (.isub, 1) := by decide +kernel
theorem dX7_looks_15 : decode cX7_looks 15 = .ok (.iload_n 2, 1) := by decide +kernel
theorem dX7_looks_16 : decode cX7_looks 16 = .ok (.iload_n 1, 1) := by decide +kernel
theorem dX7_looks_17 : decode cX7_looks 17 = .ok (.invokevirtual 103, 3) := by decide +kernel
theorem dX7_looks_20 : decode cX7_looks 20 = .ok (.aload_n 0, 1) := by decide +kernel
theorem dX7_looks_21 : decode cX7_looks 21 = .ok (.getfield 81, 3) := by decide +kernel
theorem dX7_looks_24 : decode cX7_looks 24 = .ok (.if_icmp .ge 68, 3) := by decide +kernel
theorem dX7_looks_27 : decode cX7_looks 27 = .ok (.iconst 0, 1) := by decide +kernel
theorem dX7_looks_28 : decode cX7_looks 28 = .ok (.istore_n 3, 1) := by decide +kernel
theorem dX7_looks_29 : decode cX7_looks 29 = .ok (.iload_n 3, 1) := by decide +kernel
theorem dX7_looks_30 : decode cX7_looks 30 = .ok (.aload_n 0, 1) := by decide +kernel
theorem dX7_looks_31 : decode cX7_looks 31 = .ok (.getfield 81, 3) := by decide +kernel
theorem dX7_looks_34 : decode cX7_looks 34 = .ok (.if_icmp .ge 52, 3) := by decide +kernel
theorem dX7_looks_37 : decode cX7_looks 37 = .ok (.iconst 4, 1) := by decide +kernel
theorem dX7_looks_38 : decode cX7_looks 38 = .ok (.aload_n 0, 1) := by decide +kernel
theorem dX7_looks_39 : decode cX7_looks 39 = .ok (.getfield 7, 3) := by decide +kernel
theorem dX7_looks_42 : decode cX7_looks 42 = .ok (.iload_n 3, 1) := by decide +kernel
theorem dX7_looks_43 : decode cX7_looks 43 = .ok (.iaload, 1) := by decide +kernel
theorem dX7_looks_44 : decode cX7_looks 44 = .ok (.imul, 1) := by decide +kernel
theorem dX7_looks_45 : decode cX7_looks 45 = .ok (.aload_n 0, 1) := by decide +kernel
theorem dX7_looks_46 : decode cX7_looks 46 = .ok (.iload_n 3, 1) := by decide +kernel
theorem dX7_looks_47 : decode cX7_looks 47 = .ok (.iload_n 2, 1) := by decide +kernel
theorem dX7_looks_48 : decode cX7_looks 48 = .ok (.iload_n 1, 1) := by decide +kernel
theorem dX7_looks_49 : decode cX7_looks 49 = .ok (.invokevirtual 109, 3) := by decide +kernel
theorem dX7_looks_52 : decode cX7_looks 52 = .ok (.isub, 1) := by decide +kernel
theorem dX7_looks_53 : decode cX7_looks 53 = .ok (.istore 4, 2) := by decide +kernel
theorem dX7_looks_55 : decode cX7_looks 55 = .ok (.iload 4, 2) := by decide +kernel
theorem dX7_looks_57 : decode cX7_looks 57 = .ok (.aload_n 0, 1) := by decide +kernel
theorem dX7_looks_58 : decode cX7_looks 58 = .ok (.getfield 113, 3) := by decide +kernel
theorem dX7_looks_61 : decode cX7_looks 61 = .ok (.if_icmp .ge 19, 3) := by decide +kernel
theorem dX7_looks_64 : decode cX7_looks 64 = .ok (.aload_n 0, 1) := by decide +kernel
theorem dX7_looks_65 : decode cX7_looks 65 = .ok (.iload 4, 2) := by decide +kernel
theorem dX7_looks_67 : decode cX7_looks 67 = .ok (.putfield 113, 3) := by decide +kernel
theorem dX7_looks_70 : decode cX7_looks 70 = .ok (.aload_n 0, 1) := by decide +kernel
theorem dX7_looks_71 : decode cX7_looks 71 = .ok (.iload_n 3, 1) := by decide +kernel
theorem dX7_looks_72 : decode cX7_looks 72 = .ok (.putfield 116, 3) := by decide +kernel
theorem dX7_looks_75 : decode cX7_looks 75 = .ok (.aload_n 0, 1) := by decide +kernel
theorem dX7_looks_76 : decode cX7_looks 76 = .ok (.iload_n 2, 1) := by decide +kernel
theorem dX7_looks_77 : decode cX7_looks 77 = .ok (.putfield 119, 3) := by decide +kernel
theorem dX7_looks_80 : decode cX7_looks 80 = .ok (.iinc 3 1, 3) := by decide +kernel
theorem dX7_looks_83 : decode cX7_looks 83 = .ok (.goto (-54), 3) := by decide +kernel
theorem dX7_looks_86 : decode cX7_looks 86 = .ok (.iinc 2 1, 3) := by decide +kernel
theorem dX7_looks_89 : decode cX7_looks 89 = .ok (.goto (-81), 3) := by decide +kernel
theorem dX7_looks_92 : decode cX7_looks 92 = .ok (.return_, 1) := by decide +kernel
theorem dX7_worst_0 : decode cX7_worst 0 = .ok (.aload_n 0, 1) := by decide +kernel
theorem dX7_worst_1 : decode cX7_worst 1 = .ok (.getfield 98, 3) := by decide +kernel
theorem dX7_worst_4 : decode cX7_worst 4 = .ok (.ifCond .eq 15, 3) := by decide +kernel
theorem dX7_worst_7 : decode cX7_worst 7 = .ok (.iload_n 1, 1) := by decide +kernel
theorem dX7_worst_8 : decode cX7_worst 8 = .ok (.i2l, 1) := by decide +kernel
theorem dX7_worst_9 : decode cX7_worst 9 = .ok (.lconst 0, 1) := by decide +kernel
theorem dX7_worst_10 : decode cX7_worst 10 = .ok (.ldc2_w 122, 3) := by decide +kernel
theorem dX7_worst_13 : decode cX7_worst 13 = .ok (.invokestatic 84, 3) := by decide +kernel
theorem dX7_worst_16 : decode cX7_worst 16 = .ok (.ifCond .ne 6, 3) := by decide +kernel
theorem dX7_worst_19 : decode cX7_worst 19 = .ok (.ldc 124, 2) := by decide +kernel
theorem dX7_worst_21 : decode cX7_worst 21 = .ok (.ireturn, 1) := by decide +kernel
theorem dX7_worst_22 : decode cX7_worst 22 = .ok (.aload_n 0, 1) := by decide +kernel
theorem dX7_worst_23 : decode cX7_worst 23 = .ok (.iconst 0, 1) := by decide +kernel
theorem dX7_worst_24 : decode cX7_worst 24 = .ok (.invokevirtual 125, 3) := by decide +kernel
theorem dX7_worst_27 : decode cX7_worst 27 = .ok (.iload_n 1, 1) := by decide +kernel
theorem dX7_worst_28 : decode cX7_worst 28 = .ok (.ifCond .ne 10, 3) := by decide +kernel
theorem dX7_worst_31 : decode cX7_worst 31 = .ok (.aload_n 0, 1) := by decide +kernel
theorem dX7_worst_32 : decode cX7_worst 32 = .ok (.getfield 113, 3) := by decide +kernel
theorem dX7_worst_35 : decode cX7_worst 35 = .ok (.goto 19, 3) := by decide +kernel
theorem dX7_worst_38 : decode cX7_worst 38 = .ok (.iload_n 1, 1) := by decide +kernel
theorem dX7_worst_39 : decode cX7_worst 39 = .ok (.iconst 1, 1) := by decide +kernel
theorem dX7_worst_40 : decode cX7_worst 40 = .ok (.if_icmp .ne 10, 3) := by decide +kernel
theorem dX7_worst_43 : decode cX7_worst 43 = .ok (.aload_n 0, 1) := by decide +kernel
theorem dX7_worst_44 : decode cX7_worst 44 = .ok (.getfield 116, 3) := by decide +kernel
theorem dX7_worst_47 : decode cX7_worst 47 = .ok (.goto 7, 3) := by decide +kernel
theorem dX7_worst_50 : decode cX7_worst 50 = .ok (.aload_n 0, 1) := by decide +kernel
theorem dX7_worst_51 : decode cX7_worst 51 = .ok (.getfield 119, 3) := by decide +kernel
theorem dX7_worst_54 : decode cX7_worst 54 = .ok (.ireturn, 1) := by decide +kernel
theorem dX7_gap_0 : decode cX7_gap 0 = .ok (.iconst (-1), 1) := by decide +kernel
theorem dX7_gap_1 : decode cX7_gap 1 = .ok (.istore_n 1, 1) := by decide +kernel
theorem dX7_gap_2 : decode cX7_gap 2 = .ok (.iconst 1, 1) := by decide +kernel
theorem dX7_gap_3 : decode cX7_gap 3 = .ok (.istore_n 2, 1) := by decide +kernel
theorem dX7_gap_4 : decode cX7_gap 4 = .ok (.iload_n 2, 1) := by decide +kernel
theorem dX7_gap_5 : decode cX7_gap 5 = .ok (.bipush 12, 2) := by decide +kernel
theorem dX7_gap_7 : decode cX7_gap 7 = .ok (.if_icmp .gt 38, 3) := by decide +kernel
theorem dX7_gap_10 : decode cX7_gap 10 = .ok (.iload_n 1, 1) := by decide +kernel
theorem dX7_gap_11 : decode cX7_gap 11 = .ok (.ifCond .ge 34, 3) := by decide +kernel
theorem dX7_gap_14 : decode cX7_gap 14 = .ok (.aload_n 0, 1) := by decide +kernel
theorem dX7_gap_15 : decode cX7_gap 15 = .ok (.getfield 98, 3) := by decide +kernel
theorem dX7_gap_18 : decode cX7_gap 18 = .ok (.ifCond .le 27, 3) := by decide +kernel
theorem dX7_gap_21 : decode cX7_gap 21 = .ok (.aload_n 0, 1) := by decide +kernel
theorem dX7_gap_22 : decode cX7_gap 22 = .ok (.iload_n 2, 1) := by decide +kernel
theorem dX7_gap_23 : decode cX7_gap 23 = .ok (.invokevirtual 125, 3) := by decide +kernel
theorem dX7_gap_26 : decode cX7_gap 26 = .ok (.aload_n 0, 1) := by decide +kernel
theorem dX7_gap_27 : decode cX7_gap 27 = .ok (.getfield 113, 3) := by decide +kernel
theorem dX7_gap_30 : decode cX7_gap 30 = .ok (.ifCond .lt 7, 3) := by decide +kernel
theorem dX7_gap_33 : decode cX7_gap 33 = .ok (.iload_n 2, 1) := by decide +kernel
theorem dX7_gap_34 : decode cX7_gap 34 = .ok (.goto 4, 3) := by decide +kernel
theorem dX7_gap_37 : decode cX7_gap 37 = .ok (.iconst (-1), 1) := by decide +kernel
theorem dX7_gap_38 : decode cX7_gap 38 = .ok (.istore_n 1, 1) := by decide +kernel
theorem dX7_gap_39 : decode cX7_gap 39 = .ok (.iinc 2 1, 3) := by decide +kernel
theorem dX7_gap_42 : decode cX7_gap 42 = .ok (.goto (-38), 3) := by decide +kernel
theorem dX7_gap_45 : decode cX7_gap 45 = .ok (.iload_n 1, 1) := by decide +kernel
theorem dX7_gap_46 : decode cX7_gap 46 = .ok (.ireturn, 1) := by decide +kernel
theorem dX7_ship_0 : decode cX7_ship 0 = .ok (.iload_n 1, 1) := by decide +kernel
theorem dX7_ship_1 : decode cX7_ship 1 = .ok (.i2l, 1) := by decide +kernel
theorem dX7_ship_2 : decode cX7_ship 2 = .ok (.lconst 0, 1) := by decide +kernel
theorem dX7_ship_3 : decode cX7_ship 3 = .ok (.ldc2_w 129, 3) := by decide +kernel
theorem dX7_ship_6 : decode cX7_ship 6 = .ok (.invokestatic 84, 3) := by decide +kernel
theorem dX7_ship_9 : decode cX7_ship 9 = .ok (.ifCond .eq 12, 3) := by decide +kernel
theorem dX7_ship_12 : decode cX7_ship 12 = .ok (.aload_n 0, 1) := by decide +kernel
theorem dX7_ship_13 : decode cX7_ship 13 = .ok (.getfield 131, 3) := by decide +kernel
theorem dX7_ship_16 : decode cX7_ship 16 = .ok (.bipush 10, 2) := by decide +kernel
theorem dX7_ship_18 : decode cX7_ship 18 = .ok (.if_icmp .ne 5, 3) := by decide +kernel
theorem dX7_ship_21 : decode cX7_ship 21 = .ok (.iconst (-1), 1) := by decide +kernel
theorem dX7_ship_22 : decode cX7_ship 22 = .ok (.ireturn, 1) := by decide +kernel
theorem dX7_ship_23 : decode cX7_ship 23 = .ok (.aload_n 0, 1) := by decide +kernel
theorem dX7_ship_24 : decode cX7_ship 24 = .ok (.getfield 25, 3) := by decide +kernel
theorem dX7_ship_27 : decode cX7_ship 27 = .ok (.aload_n 0, 1) := by decide +kernel
theorem dX7_ship_28 : decode cX7_ship 28 = .ok (.getfield 131, 3) := by decide +kernel
theorem dX7_ship_31 : decode cX7_ship 31 = .ok (.iload_n 1, 1) := by decide +kernel
theorem dX7_ship_32 : decode cX7_ship 32 = .ok (.iastore, 1) := by decide +kernel
theorem dX7_ship_33 : decode cX7_ship 33 = .ok (.aload_n 0, 1) := by decide +kernel
theorem dX7_ship_34 : decode cX7_ship 34 = .ok (.dup, 1) := by decide +kernel
theorem dX7_ship_35 : decode cX7_ship 35 = .ok (.getfield 131, 3) := by decide +kernel
theorem dX7_ship_38 : decode cX7_ship 38 = .ok (.iconst 1, 1) := by decide +kernel
theorem dX7_ship_39 : decode cX7_ship 39 = .ok (.iadd, 1) := by decide +kernel
theorem dX7_ship_40 : decode cX7_ship 40 = .ok (.putfield 131, 3) := by decide +kernel
theorem dX7_ship_43 : decode cX7_ship 43 = .ok (.aload_n 0, 1) := by decide +kernel
theorem dX7_ship_44 : decode cX7_ship 44 = .ok (.getfield 131, 3) := by decide +kernel
theorem dX7_ship_47 : decode cX7_ship 47 = .ok (.iconst 1, 1) := by decide +kernel
theorem dX7_ship_48 : decode cX7_ship 48 = .ok (.isub, 1) := by decide +kernel
theorem dX7_ship_49 : decode cX7_ship 49 = .ok (.ireturn, 1) := by decide +kernel
theorem dX7_crosser_0 : decode cX7_crosser 0 = .ok (.iload_n 1, 1) := by decide +kernel
theorem dX7_crosser_1 : decode cX7_crosser 1 = .ok (.i2l, 1) := by decide +kernel
theorem dX7_crosser_2 : decode cX7_crosser 2 = .ok (.lconst 0, 1) := by decide +kernel
theorem dX7_crosser_3 : decode cX7_crosser 3 = .ok (.ldc2_w 129, 3) := by decide +kernel
theorem dX7_crosser_6 : decode cX7_crosser 6 = .ok (.invokestatic 84, 3) := by decide +kernel
theorem dX7_crosser_9 : decode cX7_crosser 9 = .ok (.ifCond .eq 12, 3) := by decide +kernel
theorem dX7_crosser_12 : decode cX7_crosser 12 = .ok (.aload_n 0, 1) := by decide +kernel
theorem dX7_crosser_13 : decode cX7_crosser 13 = .ok (.getfield 134, 3) := by decide +kernel
theorem dX7_crosser_16 : decode cX7_crosser 16 = .ok (.bipush 30, 2) := by decide +kernel
theorem dX7_crosser_18 : decode cX7_crosser 18 = .ok (.if_icmp .ne 5, 3) := by decide +kernel
theorem dX7_crosser_21 : decode cX7_crosser 21 = .ok (.iconst (-1), 1) := by decide +kernel
theorem dX7_crosser_22 : decode cX7_crosser 22 = .ok (.ireturn, 1) := by decide +kernel
theorem dX7_crosser_23 : decode cX7_crosser 23 = .ok (.aload_n 0, 1) := by decide +kernel
theorem dX7_crosser_24 : decode cX7_crosser 24 = .ok (.getfield 28, 3) := by decide +kernel
theorem dX7_crosser_27 : decode cX7_crosser 27 = .ok (.aload_n 0, 1) := by decide +kernel
theorem dX7_crosser_28 : decode cX7_crosser 28 = .ok (.getfield 134, 3) := by decide +kernel
theorem dX7_crosser_31 : decode cX7_crosser 31 = .ok (.iload_n 1, 1) := by decide +kernel
theorem dX7_crosser_32 : decode cX7_crosser 32 = .ok (.iastore, 1) := by decide +kernel
theorem dX7_crosser_33 : decode cX7_crosser 33 = .ok (.aload_n 0, 1) := by decide +kernel
theorem dX7_crosser_34 : decode cX7_crosser 34 = .ok (.dup, 1) := by decide +kernel
theorem dX7_crosser_35 : decode cX7_crosser 35 = .ok (.getfield 134, 3) := by decide +kernel
theorem dX7_crosser_38 : decode cX7_crosser 38 = .ok (.iconst 1, 1) := by decide +kernel
theorem dX7_crosser_39 : decode cX7_crosser 39 = .ok (.iadd, 1) := by decide +kernel
theorem dX7_crosser_40 : decode cX7_crosser 40 = .ok (.putfield 134, 3) := by decide +kernel
theorem dX7_crosser_43 : decode cX7_crosser 43 = .ok (.aload_n 0, 1) := by decide +kernel
theorem dX7_crosser_44 : decode cX7_crosser 44 = .ok (.getfield 134, 3) := by decide +kernel
theorem dX7_crosser_47 : decode cX7_crosser 47 = .ok (.ireturn, 1) := by decide +kernel
theorem dX7_times_0 : decode cX7_times 0 = .ok (.iload_n 1, 1) := by decide +kernel
theorem dX7_times_1 : decode cX7_times 1 = .ok (.i2l, 1) := by decide +kernel
theorem dX7_times_2 : decode cX7_times 2 = .ok (.lconst 1, 1) := by decide +kernel
theorem dX7_times_3 : decode cX7_times 3 = .ok (.ldc2_w 137, 3) := by decide +kernel
theorem dX7_times_6 : decode cX7_times 6 = .ok (.invokestatic 84, 3) := by decide +kernel
theorem dX7_times_9 : decode cX7_times 9 = .ok (.ifCond .eq 40, 3) := by decide +kernel
theorem dX7_times_12 : decode cX7_times 12 = .ok (.iload_n 2, 1) := by decide +kernel
theorem dX7_times_13 : decode cX7_times 13 = .ok (.i2l, 1) := by decide +kernel
theorem dX7_times_14 : decode cX7_times 14 = .ok (.lconst 1, 1) := by decide +kernel
theorem dX7_times_15 : decode cX7_times 15 = .ok (.ldc2_w 137, 3) := by decide +kernel
theorem dX7_times_18 : decode cX7_times 18 = .ok (.invokestatic 84, 3) := by decide +kernel
theorem dX7_times_21 : decode cX7_times 21 = .ok (.ifCond .eq 28, 3) := by decide +kernel
theorem dX7_times_24 : decode cX7_times 24 = .ok (.iload_n 3, 1) := by decide +kernel
theorem dX7_times_25 : decode cX7_times 25 = .ok (.i2l, 1) := by decide +kernel
theorem dX7_times_26 : decode cX7_times 26 = .ok (.lconst 1, 1) := by decide +kernel
theorem dX7_times_27 : decode cX7_times 27 = .ok (.ldc2_w 137, 3) := by decide +kernel
theorem dX7_times_30 : decode cX7_times 30 = .ok (.invokestatic 84, 3) := by decide +kernel
theorem dX7_times_33 : decode cX7_times 33 = .ok (.ifCond .eq 16, 3) := by decide +kernel
theorem dX7_times_36 : decode cX7_times 36 = .ok (.iload 4, 2) := by decide +kernel
theorem dX7_times_38 : decode cX7_times 38 = .ok (.i2l, 1) := by decide +kernel
theorem dX7_times_39 : decode cX7_times 39 = .ok (.lconst 1, 1) := by decide +kernel
theorem dX7_times_40 : decode cX7_times 40 = .ok (.ldc2_w 94, 3) := by decide +kernel
theorem dX7_times_43 : decode cX7_times 43 = .ok (.invokestatic 84, 3) := by decide +kernel
theorem dX7_times_46 : decode cX7_times 46 = .ok (.ifCond .ne 5, 3) := by decide +kernel
theorem dX7_times_49 : decode cX7_times 49 = .ok (.iconst 0, 1) := by decide +kernel
theorem dX7_times_50 : decode cX7_times 50 = .ok (.ireturn, 1) := by decide +kernel
theorem dX7_times_51 : decode cX7_times 51 = .ok (.aload_n 0, 1) := by decide +kernel
theorem dX7_times_52 : decode cX7_times 52 = .ok (.getfield 31, 3) := by decide +kernel
theorem dX7_times_55 : decode cX7_times 55 = .ok (.iconst 0, 1) := by decide +kernel
theorem dX7_times_56 : decode cX7_times 56 = .ok (.iload_n 1, 1) := by decide +kernel
theorem dX7_times_57 : decode cX7_times 57 = .ok (.iastore, 1) := by decide +kernel
theorem dX7_times_58 : decode cX7_times 58 = .ok (.aload_n 0, 1) := by decide +kernel
theorem dX7_times_59 : decode cX7_times 59 = .ok (.getfield 31, 3) := by decide +kernel
theorem dX7_times_62 : decode cX7_times 62 = .ok (.iconst 1, 1) := by decide +kernel
theorem dX7_times_63 : decode cX7_times 63 = .ok (.iload_n 2, 1) := by decide +kernel
theorem dX7_times_64 : decode cX7_times 64 = .ok (.iastore, 1) := by decide +kernel
theorem dX7_times_65 : decode cX7_times 65 = .ok (.aload_n 0, 1) := by decide +kernel
theorem dX7_times_66 : decode cX7_times 66 = .ok (.getfield 31, 3) := by decide +kernel
theorem dX7_times_69 : decode cX7_times 69 = .ok (.iconst 2, 1) := by decide +kernel
theorem dX7_times_70 : decode cX7_times 70 = .ok (.iload_n 3, 1) := by decide +kernel
theorem dX7_times_71 : decode cX7_times 71 = .ok (.iastore, 1) := by decide +kernel
theorem dX7_times_72 : decode cX7_times 72 = .ok (.aload_n 0, 1) := by decide +kernel
theorem dX7_times_73 : decode cX7_times 73 = .ok (.getfield 31, 3) := by decide +kernel
theorem dX7_times_76 : decode cX7_times 76 = .ok (.iconst 3, 1) := by decide +kernel
theorem dX7_times_77 : decode cX7_times 77 = .ok (.iload 4, 2) := by decide +kernel
theorem dX7_times_79 : decode cX7_times 79 = .ok (.iastore, 1) := by decide +kernel
theorem dX7_times_80 : decode cX7_times 80 = .ok (.iconst 1, 1) := by decide +kernel
theorem dX7_times_81 : decode cX7_times 81 = .ok (.ireturn, 1) := by decide +kernel
theorem dX7_sorts_0 : decode cX7_sorts 0 = .ok (.iconst 0, 1) := by decide +kernel
theorem dX7_sorts_1 : decode cX7_sorts 1 = .ok (.istore_n 1, 1) := by decide +kernel
theorem dX7_sorts_2 : decode cX7_sorts 2 = .ok (.iload_n 1, 1) := by decide +kernel
theorem dX7_sorts_3 : decode cX7_sorts 3 = .ok (.aload_n 0, 1) := by decide +kernel
theorem dX7_sorts_4 : decode cX7_sorts 4 = .ok (.getfield 131, 3) := by decide +kernel
theorem dX7_sorts_7 : decode cX7_sorts 7 = .ok (.if_icmp .ge 64, 3) := by decide +kernel
theorem dX7_sorts_10 : decode cX7_sorts 10 = .ok (.iload_n 1, 1) := by decide +kernel
theorem dX7_sorts_11 : decode cX7_sorts 11 = .ok (.istore_n 2, 1) := by decide +kernel
theorem dX7_sorts_12 : decode cX7_sorts 12 = .ok (.iload_n 2, 1) := by decide +kernel
theorem dX7_sorts_13 : decode cX7_sorts 13 = .ok (.ifCond .le 40, 3) := by decide +kernel
theorem dX7_sorts_16 : decode cX7_sorts 16 = .ok (.aload_n 0, 1) := by decide +kernel
theorem dX7_sorts_17 : decode cX7_sorts 17 = .ok (.getfield 72, 3) := by decide +kernel
theorem dX7_sorts_20 : decode cX7_sorts 20 = .ok (.iload_n 2, 1) := by decide +kernel
theorem dX7_sorts_21 : decode cX7_sorts 21 = .ok (.iconst 1, 1) := by decide +kernel
theorem dX7_sorts_22 : decode cX7_sorts 22 = .ok (.isub, 1) := by decide +kernel
theorem dX7_sorts_23 : decode cX7_sorts 23 = .ok (.iaload, 1) := by decide +kernel
theorem dX7_sorts_24 : decode cX7_sorts 24 = .ok (.aload_n 0, 1) := by decide +kernel
theorem dX7_sorts_25 : decode cX7_sorts 25 = .ok (.getfield 25, 3) := by decide +kernel
theorem dX7_sorts_28 : decode cX7_sorts 28 = .ok (.iload_n 1, 1) := by decide +kernel
theorem dX7_sorts_29 : decode cX7_sorts 29 = .ok (.iaload, 1) := by decide +kernel
theorem dX7_sorts_30 : decode cX7_sorts 30 = .ok (.if_icmp .le 23, 3) := by decide +kernel
theorem dX7_sorts_33 : decode cX7_sorts 33 = .ok (.aload_n 0, 1) := by decide +kernel
theorem dX7_sorts_34 : decode cX7_sorts 34 = .ok (.getfield 72, 3) := by decide +kernel
theorem dX7_sorts_37 : decode cX7_sorts 37 = .ok (.iload_n 2, 1) := by decide +kernel
theorem dX7_sorts_38 : decode cX7_sorts 38 = .ok (.aload_n 0, 1) := by decide +kernel
theorem dX7_sorts_39 : decode cX7_sorts 39 = .ok (.getfield 72, 3) := by decide +kernel
theorem dX7_sorts_42 : decode cX7_sorts 42 = .ok (.iload_n 2, 1) := by decide +kernel
theorem dX7_sorts_43 : decode cX7_sorts 43 = .ok (.iconst 1, 1) := by decide +kernel
theorem dX7_sorts_44 : decode cX7_sorts 44 = .ok (.isub, 1) := by decide +kernel
theorem dX7_sorts_45 : decode cX7_sorts 45 = .ok (.iaload, 1) := by decide +kernel
theorem dX7_sorts_46 : decode cX7_sorts 46 = .ok (.iastore, 1) := by decide +kernel
theorem dX7_sorts_47 : decode cX7_sorts 47 = .ok (.iinc 2 (-1), 3) := by decide +kernel
theorem dX7_sorts_50 : decode cX7_sorts 50 = .ok (.goto (-38), 3) := by decide +kernel
theorem dX7_sorts_53 : decode cX7_sorts 53 = .ok (.aload_n 0, 1) := by decide +kernel
theorem dX7_sorts_54 : decode cX7_sorts 54 = .ok (.getfield 72, 3) := by decide +kernel
theorem dX7_sorts_57 : decode cX7_sorts 57 = .ok (.iload_n 2, 1) := by decide +kernel
theorem dX7_sorts_58 : decode cX7_sorts 58 = .ok (.aload_n 0, 1) := by decide +kernel
theorem dX7_sorts_59 : decode cX7_sorts 59 = .ok (.getfield 25, 3) := by decide +kernel
theorem dX7_sorts_62 : decode cX7_sorts 62 = .ok (.iload_n 1, 1) := by decide +kernel
theorem dX7_sorts_63 : decode cX7_sorts 63 = .ok (.iaload, 1) := by decide +kernel
theorem dX7_sorts_64 : decode cX7_sorts 64 = .ok (.iastore, 1) := by decide +kernel
theorem dX7_sorts_65 : decode cX7_sorts 65 = .ok (.iinc 1 1, 3) := by decide +kernel
theorem dX7_sorts_68 : decode cX7_sorts 68 = .ok (.goto (-66), 3) := by decide +kernel
theorem dX7_sorts_71 : decode cX7_sorts 71 = .ok (.return_, 1) := by decide +kernel
theorem dX7_cameBy_0 : decode cX7_cameBy 0 = .ok (.iconst 0, 1) := by decide +kernel
theorem dX7_cameBy_1 : decode cX7_cameBy 1 = .ok (.istore_n 2, 1) := by decide +kernel
theorem dX7_cameBy_2 : decode cX7_cameBy 2 = .ok (.iconst 0, 1) := by decide +kernel
theorem dX7_cameBy_3 : decode cX7_cameBy 3 = .ok (.istore_n 3, 1) := by decide +kernel
theorem dX7_cameBy_4 : decode cX7_cameBy 4 = .ok (.iload_n 3, 1) := by decide +kernel
theorem dX7_cameBy_5 : decode cX7_cameBy 5 = .ok (.aload_n 0, 1) := by decide +kernel
theorem dX7_cameBy_6 : decode cX7_cameBy 6 = .ok (.getfield 131, 3) := by decide +kernel
theorem dX7_cameBy_9 : decode cX7_cameBy 9 = .ok (.if_icmp .ge 27, 3) := by decide +kernel
theorem dX7_cameBy_12 : decode cX7_cameBy 12 = .ok (.iload_n 2, 1) := by decide +kernel
theorem dX7_cameBy_13 : decode cX7_cameBy 13 = .ok (.aload_n 0, 1) := by decide +kernel
theorem dX7_cameBy_14 : decode cX7_cameBy 14 = .ok (.getfield 72, 3) := by decide +kernel
theorem dX7_cameBy_17 : decode cX7_cameBy 17 = .ok (.iload_n 3, 1) := by decide +kernel
theorem dX7_cameBy_18 : decode cX7_cameBy 18 = .ok (.iaload, 1) := by decide +kernel
theorem dX7_cameBy_19 : decode cX7_cameBy 19 = .ok (.iload_n 1, 1) := by decide +kernel
theorem dX7_cameBy_20 : decode cX7_cameBy 20 = .ok (.if_icmp .gt 7, 3) := by decide +kernel
