theorem dX7_init_0 : decode cX7_init 0 = .ok (.aload_n 0, 1) := by decide +kernel
theorem dX7_init_1 : decode cX7_init 1 = .ok (.invokespecial 3, 3) := by decide +kernel
theorem dX7_init_4 : decode cX7_init 4 = .ok (.aload_n 0, 1) := by decide +kernel
theorem dX7_init_5 : decode cX7_init 5 = .ok (.new 9, 3) := by decide +kernel
theorem dX7_init_8 : decode cX7_init 8 = .ok (.dup, 1) := by decide +kernel
theorem dX7_init_9 : decode cX7_init 9 = .ok (.invokespecial 11, 3) := by decide +kernel
theorem dX7_init_12 : decode cX7_init 12 = .ok (.putfield 12, 3) := by decide +kernel
theorem dX7_init_15 : decode cX7_init 15 = .ok (.aload_n 0, 1) := by decide +kernel
theorem dX7_init_16 : decode cX7_init 16 = .ok (.new 9, 3) := by decide +kernel
theorem dX7_init_19 : decode cX7_init 19 = .ok (.dup, 1) := by decide +kernel
theorem dX7_init_20 : decode cX7_init 20 = .ok (.invokespecial 11, 3) := by decide +kernel
theorem dX7_init_23 : decode cX7_init 23 = .ok (.putfield 16, 3) := by decide +kernel
theorem dX7_init_26 : decode cX7_init 26 = .ok (.aload_n 0, 1) := by decide +kernel
theorem dX7_init_27 : decode cX7_init 27 = .ok (.new 9, 3) := by decide +kernel
theorem dX7_init_30 : decode cX7_init 30 = .ok (.dup, 1) := by decide +kernel
theorem dX7_init_31 : decode cX7_init 31 = .ok (.invokespecial 11, 3) := by decide +kernel
theorem dX7_init_34 : decode cX7_init 34 = .ok (.putfield 19, 3) := by decide +kernel
theorem dX7_init_37 : decode cX7_init 37 = .ok (.aload_n 0, 1) := by decide +kernel
theorem dX7_init_38 : decode cX7_init 38 = .ok (.new 9, 3) := by decide +kernel
theorem dX7_init_41 : decode cX7_init 41 = .ok (.dup, 1) := by decide +kernel
theorem dX7_init_42 : decode cX7_init 42 = .ok (.invokespecial 11, 3) := by decide +kernel
theorem dX7_init_45 : decode cX7_init 45 = .ok (.putfield 22, 3) := by decide +kernel
theorem dX7_init_48 : decode cX7_init 48 = .ok (.aload_n 0, 1) := by decide +kernel
theorem dX7_init_49 : decode cX7_init 49 = .ok (.new 9, 3) := by decide +kernel
theorem dX7_init_52 : decode cX7_init 52 = .ok (.dup, 1) := by decide +kernel
theorem dX7_init_53 : decode cX7_init 53 = .ok (.invokespecial 11, 3) := by decide +kernel
theorem dX7_init_56 : decode cX7_init 56 = .ok (.putfield 25, 3) := by decide +kernel
theorem dX7_init_59 : decode cX7_init 59 = .ok (.aload_n 0, 1) := by decide +kernel
theorem dX7_init_60 : decode cX7_init 60 = .ok (.new 28, 3) := by decide +kernel
theorem dX7_init_63 : decode cX7_init 63 = .ok (.dup, 1) := by decide +kernel
theorem dX7_init_64 : decode cX7_init 64 = .ok (.invokespecial 30, 3) := by decide +kernel
theorem dX7_init_67 : decode cX7_init 67 = .ok (.putfield 31, 3) := by decide +kernel
theorem dX7_init_70 : decode cX7_init 70 = .ok (.aload_n 0, 1) := by decide +kernel
theorem dX7_init_71 : decode cX7_init 71 = .ok (.sipush 400, 3) := by decide +kernel
theorem dX7_init_74 : decode cX7_init 74 = .ok (.newarray .byte, 2) := by decide +kernel
theorem dX7_init_76 : decode cX7_init 76 = .ok (.putfield 35, 3) := by decide +kernel
theorem dX7_init_79 : decode cX7_init 79 = .ok (.aload_n 0, 1) := by decide +kernel
theorem dX7_init_80 : decode cX7_init 80 = .ok (.iconst (-1), 1) := by decide +kernel
theorem dX7_init_81 : decode cX7_init 81 = .ok (.putfield 39, 3) := by decide +kernel
theorem dX7_init_84 : decode cX7_init 84 = .ok (.return_, 1) := by decide +kernel
theorem dX7_feed_0 : decode cX7_feed 0 = .ok (.aload_n 0, 1) := by decide +kernel
theorem dX7_feed_1 : decode cX7_feed 1 = .ok (.getfield 43, 3) := by decide +kernel
theorem dX7_feed_4 : decode cX7_feed 4 = .ok (.sipush 380, 3) := by decide +kernel
theorem dX7_feed_7 : decode cX7_feed 7 = .ok (.if_icmp .le 5, 3) := by decide +kernel
theorem dX7_feed_10 : decode cX7_feed 10 = .ok (.iconst (-1), 1) := by decide +kernel
theorem dX7_feed_11 : decode cX7_feed 11 = .ok (.ireturn, 1) := by decide +kernel
theorem dX7_feed_12 : decode cX7_feed 12 = .ok (.aload_n 0, 1) := by decide +kernel
theorem dX7_feed_13 : decode cX7_feed 13 = .ok (.iload_n 1, 1) := by decide +kernel
theorem dX7_feed_14 : decode cX7_feed 14 = .ok (.invokevirtual 46, 3) := by decide +kernel
theorem dX7_feed_17 : decode cX7_feed 17 = .ok (.aload_n 0, 1) := by decide +kernel
theorem dX7_feed_18 : decode cX7_feed 18 = .ok (.iload_n 2, 1) := by decide +kernel
theorem dX7_feed_19 : decode cX7_feed 19 = .ok (.invokevirtual 46, 3) := by decide +kernel
theorem dX7_feed_22 : decode cX7_feed 22 = .ok (.aload_n 0, 1) := by decide +kernel
theorem dX7_feed_23 : decode cX7_feed 23 = .ok (.iload_n 3, 1) := by decide +kernel
theorem dX7_feed_24 : decode cX7_feed 24 = .ok (.invokevirtual 46, 3) := by decide +kernel
theorem dX7_feed_27 : decode cX7_feed 27 = .ok (.aload_n 0, 1) := by decide +kernel
theorem dX7_feed_28 : decode cX7_feed 28 = .ok (.iload 4, 2) := by decide +kernel
theorem dX7_feed_30 : decode cX7_feed 30 = .ok (.invokevirtual 46, 3) := by decide +kernel
theorem dX7_feed_33 : decode cX7_feed 33 = .ok (.aload_n 0, 1) := by decide +kernel
theorem dX7_feed_34 : decode cX7_feed 34 = .ok (.iload 5, 2) := by decide +kernel
theorem dX7_feed_36 : decode cX7_feed 36 = .ok (.invokevirtual 46, 3) := by decide +kernel
theorem dX7_feed_39 : decode cX7_feed 39 = .ok (.aload_n 0, 1) := by decide +kernel
theorem dX7_feed_40 : decode cX7_feed 40 = .ok (.getfield 43, 3) := by decide +kernel
theorem dX7_feed_43 : decode cX7_feed 43 = .ok (.ireturn, 1) := by decide +kernel
theorem dX7_putNumber_0 : decode cX7_putNumber 0 = .ok (.bipush 24, 2) := by decide +kernel
theorem dX7_putNumber_2 : decode cX7_putNumber 2 = .ok (.istore_n 2, 1) := by decide +kernel
theorem dX7_putNumber_3 : decode cX7_putNumber 3 = .ok (.iload_n 2, 1) := by decide +kernel
theorem dX7_putNumber_4 : decode cX7_putNumber 4 = .ok (.ifCond .lt 44, 3) := by decide +kernel
theorem dX7_putNumber_7 : decode cX7_putNumber 7 = .ok (.aload_n 0, 1) := by decide +kernel
theorem dX7_putNumber_8 : decode cX7_putNumber 8 = .ok (.getfield 43, 3) := by decide +kernel
theorem dX7_putNumber_11 : decode cX7_putNumber 11 = .ok (.aload_n 0, 1) := by decide +kernel
theorem dX7_putNumber_12 : decode cX7_putNumber 12 = .ok (.getfield 35, 3) := by decide +kernel
theorem dX7_putNumber_15 : decode cX7_putNumber 15 = .ok (.arraylength, 1) := by decide +kernel
theorem dX7_putNumber_16 : decode cX7_putNumber 16 = .ok (.if_icmp .ge 32, 3) := by decide +kernel
theorem dX7_putNumber_19 : decode cX7_putNumber 19 = .ok (.aload_n 0, 1) := by decide +kernel
theorem dX7_putNumber_20 : decode cX7_putNumber 20 = .ok (.getfield 35, 3) := by decide +kernel
theorem dX7_putNumber_23 : decode cX7_putNumber 23 = .ok (.aload_n 0, 1) := by decide +kernel
theorem dX7_putNumber_24 : decode cX7_putNumber 24 = .ok (.getfield 43, 3) := by decide +kernel
theorem dX7_putNumber_27 : decode cX7_putNumber 27 = .ok (.iload_n 1, 1) := by decide +kernel
theorem dX7_putNumber_28 : decode cX7_putNumber 28 = .ok (.iload_n 2, 1) := by decide +kernel
theorem dX7_putNumber_29 : decode cX7_putNumber 29 = .ok (.ishr, 1) := by decide +kernel
theorem dX7_putNumber_30 : decode cX7_putNumber 30 = .ok (.i2b, 1) := by decide +kernel
theorem dX7_putNumber_31 : decode cX7_putNumber 31 = .ok (.bastore, 1) := by decide +kernel
theorem dX7_putNumber_32 : decode cX7_putNumber 32 = .ok (.aload_n 0, 1) := by decide +kernel
theorem dX7_putNumber_33 : decode cX7_putNumber 33 = .ok (.dup, 1) := by decide +kernel
theorem dX7_putNumber_34 : decode cX7_putNumber 34 = .ok (.getfield 43, 3) := by decide +kernel
theorem dX7_putNumber_37 : decode cX7_putNumber 37 = .ok (.iconst 1, 1) := by decide +kernel
theorem dX7_putNumber_38 : decode cX7_putNumber 38 = .ok (.iadd, 1) := by decide +kernel
theorem dX7_putNumber_39 : decode cX7_putNumber 39 = .ok (.putfield 43, 3) := by decide +kernel
theorem dX7_putNumber_42 : decode cX7_putNumber 42 = .ok (.iinc 2 (-8), 3) := by decide +kernel
theorem dX7_putNumber_45 : decode cX7_putNumber 45 = .ok (.goto (-42), 3) := by decide +kernel
theorem dX7_putNumber_48 : decode cX7_putNumber 48 = .ok (.return_, 1) := by decide +kernel
theorem dX7_end_0 : decode cX7_end 0 = .ok (.iload_n 1, 1) := by decide +kernel
theorem dX7_end_1 : decode cX7_end 1 = .ok (.ifCond .lt 11, 3) := by decide +kernel
theorem dX7_end_4 : decode cX7_end 4 = .ok (.iload_n 1, 1) := by decide +kernel
theorem dX7_end_5 : decode cX7_end 5 = .ok (.aload_n 0, 1) := by decide +kernel
theorem dX7_end_6 : decode cX7_end 6 = .ok (.getfield 43, 3) := by decide +kernel
theorem dX7_end_9 : decode cX7_end 9 = .ok (.if_icmp .le 5, 3) := by decide +kernel
theorem dX7_end_12 : decode cX7_end 12 = .ok (.iconst 0, 1) := by decide +kernel
theorem dX7_end_13 : decode cX7_end 13 = .ok (.ireturn, 1) := by decide +kernel
theorem dX7_end_14 : decode cX7_end 14 = .ok (.aload_n 0, 1) := by decide +kernel
theorem dX7_end_15 : decode cX7_end 15 = .ok (.iload_n 1, 1) := by decide +kernel
theorem dX7_end_16 : decode cX7_end 16 = .ok (.putfield 43, 3) := by decide +kernel
theorem dX7_end_19 : decode cX7_end 19 = .ok (.iconst 1, 1) := by decide +kernel
theorem dX7_end_20 : decode cX7_end 20 = .ok (.ireturn, 1) := by decide +kernel
theorem dX7_lift_0 : decode cX7_lift 0 = .ok (.iload_n 1, 1) := by decide +kernel
theorem dX7_lift_1 : decode cX7_lift 1 = .ok (.invokestatic 50, 3) := by decide +kernel
theorem dX7_lift_4 : decode cX7_lift 4 = .ok (.iload_n 2, 1) := by decide +kernel
theorem dX7_lift_5 : decode cX7_lift 5 = .ok (.invokestatic 50, 3) := by decide +kernel
theorem dX7_lift_8 : decode cX7_lift 8 = .ok (.iload_n 3, 1) := by decide +kernel
theorem dX7_lift_9 : decode cX7_lift 9 = .ok (.iconst 1, 1) := by decide +kernel
theorem dX7_lift_10 : decode cX7_lift 10 = .ok (.bipush 20, 2) := by decide +kernel
theorem dX7_lift_12 : decode cX7_lift 12 = .ok (.invokestatic 53, 3) := by decide +kernel
theorem dX7_lift_15 : decode cX7_lift 15 = .ok (.iload 4, 2) := by decide +kernel
theorem dX7_lift_17 : decode cX7_lift 17 = .ok (.iconst 1, 1) := by decide +kernel
theorem dX7_lift_18 : decode cX7_lift 18 = .ok (.bipush 30, 2) := by decide +kernel
theorem dX7_lift_20 : decode cX7_lift 20 = .ok (.invokestatic 53, 3) := by decide +kernel
theorem dX7_lift_23 : decode cX7_lift 23 = .ok (.iload 5, 2) := by decide +kernel
theorem dX7_lift_25 : decode cX7_lift 25 = .ok (.iconst 0, 1) := by decide +kernel
theorem dX7_lift_26 : decode cX7_lift 26 = .ok (.sipush 200, 3) := by decide +kernel
theorem dX7_lift_29 : decode cX7_lift 29 = .ok (.invokestatic 53, 3) := by decide +kernel
theorem dX7_lift_32 : decode cX7_lift 32 = .ok (.aload_n 0, 1) := by decide +kernel
theorem dX7_lift_33 : decode cX7_lift 33 = .ok (.getfield 12, 3) := by decide +kernel
theorem dX7_lift_36 : decode cX7_lift 36 = .ok (.invokevirtual 57, 3) := by decide +kernel
theorem dX7_lift_39 : decode cX7_lift 39 = .ok (.bipush 8, 2) := by decide +kernel
theorem dX7_lift_41 : decode cX7_lift 41 = .ok (.invokestatic 61, 3) := by decide +kernel
theorem dX7_lift_44 : decode cX7_lift 44 = .ok (.aload_n 0, 1) := by decide +kernel
theorem dX7_lift_45 : decode cX7_lift 45 = .ok (.getfield 12, 3) := by decide +kernel
theorem dX7_lift_48 : decode cX7_lift 48 = .ok (.invokevirtual 57, 3) := by decide +kernel
theorem dX7_lift_51 : decode cX7_lift 51 = .ok (.istore 6, 2) := by decide +kernel
theorem dX7_lift_53 : decode cX7_lift 53 = .ok (.aload_n 0, 1) := by decide +kernel
theorem dX7_lift_54 : decode cX7_lift 54 = .ok (.getfield 12, 3) := by decide +kernel
theorem dX7_lift_57 : decode cX7_lift 57 = .ok (.new 65, 3) := by decide +kernel
theorem dX7_lift_60 : decode cX7_lift 60 = .ok (.dup, 1) := by decide +kernel
theorem dX7_lift_61 : decode cX7_lift 61 = .ok (.iload 6, 2) := by decide +kernel
theorem dX7_lift_63 : decode cX7_lift 63 = .ok (.iload_n 1, 1) := by decide +kernel
theorem dX7_lift_64 : decode cX7_lift 64 = .ok (.iload_n 2, 1) := by decide +kernel
theorem dX7_lift_65 : decode cX7_lift 65 = .ok (.iload_n 3, 1) := by decide +kernel
theorem dX7_lift_66 : decode cX7_lift 66 = .ok (.iload 4, 2) := by decide +kernel
theorem dX7_lift_68 : decode cX7_lift 68 = .ok (.iload 5, 2) := by decide +kernel
theorem dX7_lift_70 : decode cX7_lift 70 = .ok (.invokespecial 67, 3) := by decide +kernel
theorem dX7_lift_73 : decode cX7_lift 73 = .ok (.invokevirtual 70, 3) := by decide +kernel
theorem dX7_lift_76 : decode cX7_lift 76 = .ok (.pop, 1) := by decide +kernel
theorem dX7_lift_77 : decode cX7_lift 77 = .ok (.iload 6, 2) := by decide +kernel
theorem dX7_lift_79 : decode cX7_lift 79 = .ok (.ireturn, 1) := by decide +kernel
theorem dX7_slope_0 : decode cX7_slope 0 = .ok (.iload_n 1, 1) := by decide +kernel
theorem dX7_slope_1 : decode cX7_slope 1 = .ok (.invokestatic 50, 3) := by decide +kernel
theorem dX7_slope_4 : decode cX7_slope 4 = .ok (.iload_n 2, 1) := by decide +kernel
theorem dX7_slope_5 : decode cX7_slope 5 = .ok (.invokestatic 50, 3) := by decide +kernel
theorem dX7_slope_8 : decode cX7_slope 8 = .ok (.iload_n 3, 1) := by decide +kernel
theorem dX7_slope_9 : decode cX7_slope 9 = .ok (.iconst 1, 1) := by decide +kernel
theorem dX7_slope_10 : decode cX7_slope 10 = .ok (.bipush 20, 2) := by decide +kernel
theorem dX7_slope_12 : decode cX7_slope 12 = .ok (.invokestatic 53, 3) := by decide +kernel
theorem dX7_slope_15 : decode cX7_slope 15 = .ok (.iload 4, 2) := by decide +kernel
theorem dX7_slope_17 : decode cX7_slope 17 = .ok (.iconst 0, 1) := by decide +kernel
theorem dX7_slope_18 : decode cX7_slope 18 = .ok (.bipush 9, 2) := by decide +kernel
theorem dX7_slope_20 : decode cX7_slope 20 = .ok (.invokestatic 53, 3) := by decide +kernel
theorem dX7_slope_23 : decode cX7_slope 23 = .ok (.iload 5, 2) := by decide +kernel
theorem dX7_slope_25 : decode cX7_slope 25 = .ok (.iconst 1, 1) := by decide +kernel
theorem dX7_slope_26 : decode cX7_slope 26 = .ok (.iconst 4, 1) := by decide +kernel
theorem dX7_slope_27 : decode cX7_slope 27 = .ok (.invokestatic 53, 3) := by decide +kernel
theorem dX7_slope_30 : decode cX7_slope 30 = .ok (.aload_n 0, 1) := by decide +kernel
theorem dX7_slope_31 : decode cX7_slope 31 = .ok (.getfield 16, 3) := by decide +kernel
theorem dX7_slope_34 : decode cX7_slope 34 = .ok (.invokevirtual 57, 3) := by decide +kernel
theorem dX7_slope_37 : decode cX7_slope 37 = .ok (.bipush 10, 2) := by decide +kernel
theorem dX7_slope_39 : decode cX7_slope 39 = .ok (.invokestatic 61, 3) := by decide +kernel
theorem dX7_slope_42 : decode cX7_slope 42 = .ok (.aload_n 0, 1) := by decide +kernel
theorem dX7_slope_43 : decode cX7_slope 43 = .ok (.getfield 19, 3) := by decide +kernel
theorem dX7_slope_46 : decode cX7_slope 46 = .ok (.invokevirtual 57, 3) := by decide +kernel
theorem dX7_slope_49 : decode cX7_slope 49 = .ok (.iload 5, 2) := by decide +kernel
theorem dX7_slope_51 : decode cX7_slope 51 = .ok (.iadd, 1) := by decide +kernel
theorem dX7_slope_52 : decode cX7_slope 52 = .ok (.iconst 1, 1) := by decide +kernel
theorem dX7_slope_53 : decode cX7_slope 53 = .ok (.isub, 1) := by decide +kernel
theorem dX7_slope_54 : decode cX7_slope 54 = .ok (.bipush 40, 2) := by decide +kernel
theorem dX7_slope_56 : decode cX7_slope 56 = .ok (.invokestatic 61, 3) := by decide +kernel
theorem dX7_slope_59 : decode cX7_slope 59 = .ok (.aload_n 0, 1) := by decide +kernel
theorem dX7_slope_60 : decode cX7_slope 60 = .ok (.getfield 16, 3) := by decide +kernel
theorem dX7_slope_63 : decode cX7_slope 63 = .ok (.invokevirtual 57, 3) := by decide +kernel
theorem dX7_slope_66 : decode cX7_slope 66 = .ok (.istore 6, 2) := by decide +kernel
theorem dX7_slope_68 : decode cX7_slope 68 = .ok (.new 74, 3) := by decide +kernel
theorem dX7_slope_71 : decode cX7_slope 71 = .ok (.dup, 1) := by decide +kernel
theorem dX7_slope_72 : decode cX7_slope 72 = .ok (.iload 6, 2) := by decide +kernel
theorem dX7_slope_74 : decode cX7_slope 74 = .ok (.iload_n 1, 1) := by decide +kernel
theorem dX7_slope_75 : decode cX7_slope 75 = .ok (.iload_n 2, 1) := by decide +kernel
theorem dX7_slope_76 : decode cX7_slope 76 = .ok (.iload_n 3, 1) := by decide +kernel
theorem dX7_slope_77 : decode cX7_slope 77 = .ok (.iload 4, 2) := by decide +kernel
theorem dX7_slope_79 : decode cX7_slope 79 = .ok (.invokespecial 76, 3) := by decide +kernel
theorem dX7_slope_82 : decode cX7_slope 82 = .ok (.astore 7, 2) := by decide +kernel
theorem dX7_slope_84 : decode cX7_slope 84 = .ok (.aload_n 0, 1) := by decide +kernel
theorem dX7_slope_85 : decode cX7_slope 85 = .ok (.getfield 16, 3) := by decide +kernel
theorem dX7_slope_88 : decode cX7_slope 88 = .ok (.aload 7, 2) := by decide +kernel
theorem dX7_slope_90 : decode cX7_slope 90 = .ok (.invokevirtual 70, 3) := by decide +kernel
theorem dX7_slope_93 : decode cX7_slope 93 = .ok (.pop, 1) := by decide +kernel
theorem dX7_slope_94 : decode cX7_slope 94 = .ok (.iconst 0, 1) := by decide +kernel
theorem dX7_slope_95 : decode cX7_slope 95 = .ok (.istore 8, 2) := by decide +kernel
theorem dX7_slope_97 : decode cX7_slope 97 = .ok (.iload 8, 2) := by decide +kernel
theorem dX7_slope_99 : decode cX7_slope 99 = .ok (.iload 5, 2) := by decide +kernel
theorem dX7_slope_101 : decode cX7_slope 101 = .ok (.if_icmp .ge 15, 3) := by decide +kernel
theorem dX7_slope_104 : decode cX7_slope 104 = .ok (.aload_n 0, 1) := by decide +kernel
theorem dX7_slope_105 : decode cX7_slope 105 = .ok (.aload 7, 2) := by decide +kernel
theorem dX7_slope_107 : decode cX7_slope 107 = .ok (.invokevirtual 79, 3) := by decide +kernel
theorem dX7_slope_110 : decode cX7_slope 110 = .ok (.iinc 8 1, 3) := by decide +kernel
theorem dX7_slope_113 : decode cX7_slope 113 = .ok (.goto (-16), 3) := by decide +kernel
theorem dX7_slope_116 : decode cX7_slope 116 = .ok (.iload 6, 2) := by decide +kernel
theorem dX7_slope_118 : decode cX7_slope 118 = .ok (.ireturn, 1) := by decide +kernel
theorem dX7_addCell_0 : decode cX7_addCell 0 = .ok (.new 83, 3) := by decide +kernel
theorem dX7_addCell_3 : decode cX7_addCell 3 = .ok (.dup, 1) := by decide +kernel
theorem dX7_addCell_4 : decode cX7_addCell 4 = .ok (.aload_n 1, 1) := by decide +kernel
theorem dX7_addCell_5 : decode cX7_addCell 5 = .ok (.getfield 85, 3) := by decide +kernel
theorem dX7_addCell_8 : decode cX7_addCell 8 = .ok (.invokespecial 88, 3) := by decide +kernel
theorem dX7_addCell_11 : decode cX7_addCell 11 = .ok (.astore_n 2, 1) := by decide +kernel
theorem dX7_addCell_12 : decode cX7_addCell 12 = .ok (.aload_n 0, 1) := by decide +kernel
theorem dX7_addCell_13 : decode cX7_addCell 13 = .ok (.getfield 19, 3) := by decide +kernel
theorem dX7_addCell_16 : decode cX7_addCell 16 = .ok (.aload_n 2, 1) := by decide +kernel
theorem dX7_addCell_17 : decode cX7_addCell 17 = .ok (.invokevirtual 70, 3) := by decide +kernel
theorem dX7_addCell_20 : decode cX7_addCell 20 = .ok (.pop, 1) := by decide +kernel
theorem dX7_addCell_21 : decode cX7_addCell 21 = .ok (.aload_n 1, 1) := by decide +kernel
theorem dX7_addCell_22 : decode cX7_addCell 22 = .ok (.getfield 90, 3) := by decide +kernel
theorem dX7_addCell_25 : decode cX7_addCell 25 = .ok (.aload_n 2, 1) := by decide +kernel
theorem dX7_addCell_26 : decode cX7_addCell 26 = .ok (.invokevirtual 70, 3) := by decide +kernel
theorem dX7_addCell_29 : decode cX7_addCell 29 = .ok (.pop, 1) := by decide +kernel
theorem dX7_addCell_30 : decode cX7_addCell 30 = .ok (.return_, 1) := by decide +kernel
theorem dX7_runs_0 : decode cX7_runs 0 = .ok (.aload_n 0, 1) := by decide +kernel
theorem dX7_runs_1 : decode cX7_runs 1 = .ok (.aload_n 0, 1) := by decide +kernel
theorem dX7_runs_2 : decode cX7_runs 2 = .ok (.iload_n 1, 1) := by decide +kernel
theorem dX7_runs_3 : decode cX7_runs 3 = .ok (.invokevirtual 91, 3) := by decide +kernel
theorem dX7_runs_6 : decode cX7_runs 6 = .ok (.invokevirtual 95, 3) := by decide +kernel
theorem dX7_runs_9 : decode cX7_runs 9 = .ok (.ireturn, 1) := by decide +kernel
theorem dX7_isRunning_0 : decode cX7_isRunning 0 = .ok (.aload_n 1, 1) := by decide +kernel
theorem dX7_isRunning_1 : decode cX7_isRunning 1 = .ok (.getfield 99, 3) := by decide +kernel
theorem dX7_isRunning_4 : decode cX7_isRunning 4 = .ok (.ifCond .ne 18, 3) := by decide +kernel
theorem dX7_isRunning_7 : decode cX7_isRunning 7 = .ok (.aload_n 0, 1) := by decide +kernel
theorem dX7_isRunning_8 : decode cX7_isRunning 8 = .ok (.getfield 103, 3) := by decide +kernel
theorem dX7_isRunning_11 : decode cX7_isRunning 11 = .ok (.aload_n 1, 1) := by decide +kernel
theorem dX7_isRunning_12 : decode cX7_isRunning 12 = .ok (.getfield 106, 3) := by decide +kernel
theorem dX7_isRunning_15 : decode cX7_isRunning 15 = .ok (.if_icmp .gt 7, 3) := by decide +kernel
theorem dX7_isRunning_18 : decode cX7_isRunning 18 = .ok (.iconst 1, 1) := by decide +kernel
theorem dX7_isRunning_19 : decode cX7_isRunning 19 = .ok (.goto 4, 3) := by decide +kernel
theorem dX7_isRunning_22 : decode cX7_isRunning 22 = .ok (.iconst 0, 1) := by decide +kernel
theorem dX7_isRunning_23 : decode cX7_isRunning 23 = .ok (.ireturn, 1) := by decide +kernel
theorem dX7_wind_0 : decode cX7_wind 0 = .ok (.iload_n 1, 1) := by decide +kernel
theorem dX7_wind_1 : decode cX7_wind 1 = .ok (.iconst 0, 1) := by decide +kernel
theorem dX7_wind_2 : decode cX7_wind 2 = .ok (.sipush 300, 3) := by decide +kernel
theorem dX7_wind_5 : decode cX7_wind 5 = .ok (.invokestatic 53, 3) := by decide +kernel
theorem dX7_wind_8 : decode cX7_wind 8 = .ok (.aload_n 0, 1) := by decide +kernel
theorem dX7_wind_9 : decode cX7_wind 9 = .ok (.iload_n 1, 1) := by decide +kernel
theorem dX7_wind_10 : decode cX7_wind 10 = .ok (.putfield 103, 3) := by decide +kernel
theorem dX7_wind_13 : decode cX7_wind 13 = .ok (.return_, 1) := by decide +kernel
theorem dX7_stop_0 : decode cX7_stop 0 = .ok (.aload_n 0, 1) := by decide +kernel
theorem dX7_stop_1 : decode cX7_stop 1 = .ok (.iload_n 1, 1) := by decide +kernel
theorem dX7_stop_2 : decode cX7_stop 2 = .ok (.invokevirtual 91, 3) := by decide +kernel
theorem dX7_stop_5 : decode cX7_stop 5 = .ok (.astore_n 3, 1) := by decide +kernel
theorem dX7_stop_6 : decode cX7_stop 6 = .ok (.aload_n 3, 1) := by decide +kernel
theorem dX7_stop_7 : decode cX7_stop 7 = .ok (.getfield 99, 3) := by decide +kernel
theorem dX7_stop_10 : decode cX7_stop 10 = .ok (.iload_n 2, 1) := by decide +kernel
theorem dX7_stop_11 : decode cX7_stop 11 = .ok (.if_icmp .eq 7, 3) := by decide +kernel
theorem dX7_stop_14 : decode cX7_stop 14 = .ok (.iconst 1, 1) := by decide +kernel
theorem dX7_stop_15 : decode cX7_stop 15 = .ok (.goto 4, 3) := by decide +kernel
theorem dX7_stop_18 : decode cX7_stop 18 = .ok (.iconst 0, 1) := by decide +kernel
theorem dX7_stop_19 : decode cX7_stop 19 = .ok (.istore 4, 2) := by decide +kernel
theorem dX7_stop_21 : decode cX7_stop 21 = .ok (.aload_n 3, 1) := by decide +kernel
theorem dX7_stop_22 : decode cX7_stop 22 = .ok (.iload_n 2, 1) := by decide +kernel
theorem dX7_stop_23 : decode cX7_stop 23 = .ok (.putfield 99, 3) := by decide +kernel
theorem dX7_stop_26 : decode cX7_stop 26 = .ok (.iload 4, 2) := by decide +kernel
theorem dX7_stop_28 : decode cX7_stop 28 = .ok (.ireturn, 1) := by decide +kernel
theorem dX7_rule_0 : decode cX7_rule 0 = .ok (.aload_n 0, 1) := by decide +kernel
theorem dX7_rule_1 : decode cX7_rule 1 = .ok (.getfield 43, 3) := by decide +kernel
theorem dX7_rule_4 : decode cX7_rule 4 = .ok (.istore_n 2, 1) := by decide +kernel
theorem dX7_rule_5 : decode cX7_rule 5 = .ok (.aload_n 0, 1) := by decide +kernel
theorem dX7_rule_6 : decode cX7_rule 6 = .ok (.iconst 0, 1) := by decide +kernel
theorem dX7_rule_7 : decode cX7_rule 7 = .ok (.putfield 43, 3) := by decide +kernel
theorem dX7_rule_10 : decode cX7_rule 10 = .ok (.aload_n 0, 1) := by decide +kernel
theorem dX7_rule_11 : decode cX7_rule 11 = .ok (.iload_n 1, 1) := by decide +kernel
theorem dX7_rule_12 : decode cX7_rule 12 = .ok (.invokevirtual 109, 3) := by decide +kernel
theorem dX7_rule_15 : decode cX7_rule 15 = .ok (.astore_n 3, 1) := by decide +kernel
theorem dX7_rule_16 : decode cX7_rule 16 = .ok (.aload_n 0, 1) := by decide +kernel
theorem dX7_rule_17 : decode cX7_rule 17 = .ok (.getfield 31, 3) := by decide +kernel
theorem dX7_rule_20 : decode cX7_rule 20 = .ok (.aload_n 0, 1) := by decide +kernel
theorem dX7_rule_21 : decode cX7_rule 21 = .ok (.getfield 35, 3) := by decide +kernel
theorem dX7_rule_24 : decode cX7_rule 24 = .ok (.iload_n 2, 1) := by decide +kernel
theorem dX7_rule_25 : decode cX7_rule 25 = .ok (.aload_n 0, 1) := by decide +kernel
theorem dX7_rule_26 : decode cX7_rule 26 = .ok (.getfield 16, 3) := by decide +kernel
theorem dX7_rule_29 : decode cX7_rule 29 = .ok (.invokevirtual 57, 3) := by decide +kernel
theorem dX7_rule_32 : decode cX7_rule 32 = .ok (.aload_n 0, 1) := by decide +kernel
theorem dX7_rule_33 : decode cX7_rule 33 = .ok (.getfield 12, 3) := by decide +kernel
theorem dX7_rule_36 : decode cX7_rule 36 = .ok (.invokevirtual 57, 3) := by decide +kernel
theorem dX7_rule_39 : decode cX7_rule 39 = .ok (.invokevirtual 113, 3) := by decide +kernel
theorem dX7_rule_42 : decode cX7_rule 42 = .ok (.istore 4, 2) := by decide +kernel
theorem dX7_rule_44 : decode cX7_rule 44 = .ok (.aload_n 0, 1) := by decide +kernel
theorem dX7_rule_45 : decode cX7_rule 45 = .ok (.aload_n 0, 1) := by decide +kernel
theorem dX7_rule_46 : decode cX7_rule 46 = .ok (.getfield 31, 3) := by decide +kernel
theorem dX7_rule_49 : decode cX7_rule 49 = .ok (.getfield 117, 3) := by decide +kernel
theorem dX7_rule_52 : decode cX7_rule 52 = .ok (.putfield 39, 3) := by decide +kernel
theorem dX7_rule_55 : decode cX7_rule 55 = .ok (.aload_n 0, 1) := by decide +kernel
theorem dX7_rule_56 : decode cX7_rule 56 = .ok (.iconst 0, 1) := by decide +kernel
theorem dX7_rule_57 : decode cX7_rule 57 = .ok (.putfield 120, 3) := by decide +kernel
theorem dX7_rule_60 : decode cX7_rule 60 = .ok (.iload 4, 2) := by decide +kernel
theorem dX7_rule_62 : decode cX7_rule 62 = .ok (.ifCond .ne 11, 3) := by decide +kernel
theorem dX7_rule_65 : decode cX7_rule 65 = .ok (.new 123, 3) := by decide +kernel
theorem dX7_rule_68 : decode cX7_rule 68 = .ok (.dup, 1) := by decide +kernel
theorem dX7_rule_69 : decode cX7_rule 69 = .ok (.invokespecial 125, 3) := by decide +kernel
theorem dX7_rule_72 : decode cX7_rule 72 = .ok (.athrow, 1) := by decide +kernel
theorem dX7_rule_73 : decode cX7_rule 73 = .ok (.aload_n 0, 1) := by decide +kernel
theorem dX7_rule_74 : decode cX7_rule 74 = .ok (.aload_n 0, 1) := by decide +kernel
theorem dX7_rule_75 : decode cX7_rule 75 = .ok (.aload_n 3, 1) := by decide +kernel
theorem dX7_rule_76 : decode cX7_rule 76 = .ok (.aload_n 0, 1) := by decide +kernel
theorem dX7_rule_77 : decode cX7_rule 77 = .ok (.getfield 31, 3) := by decide +kernel
theorem dX7_rule_80 : decode cX7_rule 80 = .ok (.getfield 126, 3) := by decide +kernel
theorem dX7_rule_83 : decode cX7_rule 83 = .ok (.invokevirtual 129, 3) := by decide +kernel
theorem dX7_rule_86 : decode cX7_rule 86 = .ok (.putfield 120, 3) := by decide +kernel
theorem dX7_rule_89 : decode cX7_rule 89 = .ok (.aload_n 0, 1) := by decide +kernel
theorem dX7_rule_90 : decode cX7_rule 90 = .ok (.getfield 120, 3) := by decide +kernel
theorem dX7_rule_93 : decode cX7_rule 93 = .ok (.ifCond .eq 11, 3) := by decide +kernel
theorem dX7_rule_96 : decode cX7_rule 96 = .ok (.new 133, 3) := by decide +kernel
theorem dX7_rule_99 : decode cX7_rule 99 = .ok (.dup, 1) := by decide +kernel
theorem dX7_rule_100 : decode cX7_rule 100 = .ok (.invokespecial 135, 3) := by decide +kernel
theorem dX7_rule_103 : decode cX7_rule 103 = .ok (.athrow, 1) := by decide +kernel
theorem dX7_rule_104 : decode cX7_rule 104 = .ok (.aload_n 3, 1) := by decide +kernel
theorem dX7_rule_105 : decode cX7_rule 105 = .ok (.iconst 1, 1) := by decide +kernel
theorem dX7_rule_106 : decode cX7_rule 106 = .ok (.putfield 136, 3) := by decide +kernel
theorem dX7_rule_109 : decode cX7_rule 109 = .ok (.aload_n 3, 1) := by decide +kernel
theorem dX7_rule_110 : decode cX7_rule 110 = .ok (.aload_n 0, 1) := by decide +kernel
theorem dX7_rule_111 : decode cX7_rule 111 = .ok (.getfield 31, 3) := by decide +kernel
theorem dX7_rule_114 : decode cX7_rule 114 = .ok (.getfield 126, 3) := by decide +kernel
theorem dX7_rule_117 : decode cX7_rule 117 = .ok (.putfield 139, 3) := by decide +kernel
theorem dX7_rule_120 : decode cX7_rule 120 = .ok (.aload_n 3, 1) := by decide +kernel
theorem dX7_rule_121 : decode cX7_rule 121 = .ok (.aload_n 0, 1) := by decide +kernel
theorem dX7_rule_122 : decode cX7_rule 122 = .ok (.getfield 31, 3) := by decide +kernel
theorem dX7_rule_125 : decode cX7_rule 125 = .ok (.invokevirtual 140, 3) := by decide +kernel
theorem dX7_rule_128 : decode cX7_rule 128 = .ok (.putfield 144, 3) := by decide +kernel
theorem dX7_rule_131 : decode cX7_rule 131 = .ok (.aload_n 3, 1) := by decide +kernel
theorem dX7_rule_132 : decode cX7_rule 132 = .ok (.getfield 139, 3) := by decide +kernel
theorem dX7_rule_135 : decode cX7_rule 135 = .ok (.invokestatic 148, 3) := by decide +kernel
theorem dX7_rule_138 : decode cX7_rule 138 = .ok (.ireturn, 1) := by decide +kernel
theorem dX7_circleWith_0 : decode cX7_circleWith 0 = .ok (.iconst 0, 1) := by decide +kernel
theorem dX7_circleWith_1 : decode cX7_circleWith 1 = .ok (.istore_n 3, 1) := by decide +kernel
theorem dX7_circleWith_2 : decode cX7_circleWith 2 = .ok (.iload_n 3, 1) := by decide +kernel
theorem dX7_circleWith_3 : decode cX7_circleWith 3 = .ok (.aload_n 0, 1) := by decide +kernel
theorem dX7_circleWith_4 : decode cX7_circleWith 4 = .ok (.getfield 16, 3) := by decide +kernel
theorem dX7_circleWith_7 : decode cX7_circleWith 7 = .ok (.invokevirtual 57, 3) := by decide +kernel
theorem dX7_circleWith_10 : decode cX7_circleWith 10 = .ok (.if_icmp .ge 42, 3) := by decide +kernel
theorem dX7_circleWith_13 : decode cX7_circleWith 13 = .ok (.aload_n 0, 1) := by decide +kernel
theorem dX7_circleWith_14 : decode cX7_circleWith 14 = .ok (.getfield 16, 3) := by decide +kernel
theorem dX7_circleWith_17 : decode cX7_circleWith 17 = .ok (.iload_n 3, 1) := by decide +kernel
theorem dX7_circleWith_18 : decode cX7_circleWith 18 = .ok (.invokevirtual 154, 3) := by decide +kernel
theorem dX7_circleWith_21 : decode cX7_circleWith 21 = .ok (.checkcast 74, 3) := by decide +kernel
theorem dX7_circleWith_24 : decode cX7_circleWith 24 = .ok (.astore 4, 2) := by decide +kernel
theorem dX7_circleWith_26 : decode cX7_circleWith 26 = .ok (.aload 4, 2) := by decide +kernel
theorem dX7_circleWith_28 : decode cX7_circleWith 28 = .ok (.aload 4, 2) := by decide +kernel
theorem dX7_circleWith_30 : decode cX7_circleWith 30 = .ok (.aload_n 1, 1) := by decide +kernel
theorem dX7_circleWith_31 : decode cX7_circleWith 31 = .ok (.if_acmp .ne 7, 3) := by decide +kernel
theorem dX7_circleWith_34 : decode cX7_circleWith 34 = .ok (.iload_n 2, 1) := by decide +kernel
theorem dX7_circleWith_35 : decode cX7_circleWith 35 = .ok (.goto 8, 3) := by decide +kernel
theorem dX7_circleWith_38 : decode cX7_circleWith 38 = .ok (.aload 4, 2) := by decide +kernel
theorem dX7_circleWith_40 : decode cX7_circleWith 40 = .ok (.getfield 139, 3) := by decide +kernel
theorem dX7_circleWith_43 : decode cX7_circleWith 43 = .ok (.putfield 158, 3) := by decide +kernel
theorem dX7_circleWith_46 : decode cX7_circleWith 46 = .ok (.iinc 3 1, 3) := by decide +kernel
theorem dX7_circleWith_49 : decode cX7_circleWith 49 = .ok (.goto (-47), 3) := by decide +kernel
theorem dX7_circleWith_52 : decode cX7_circleWith 52 = .ok (.iconst 0, 1) := by decide +kernel
theorem dX7_circleWith_53 : decode cX7_circleWith 53 = .ok (.istore_n 3, 1) := by decide +kernel
theorem dX7_circleWith_54 : decode cX7_circleWith 54 = .ok (.iload_n 3, 1) := by decide +kernel
theorem dX7_circleWith_55 : decode cX7_circleWith 55 = .ok (.aload_n 0, 1) := by decide +kernel
theorem dX7_circleWith_56 : decode cX7_circleWith 56 = .ok (.getfield 16, 3) := by decide +kernel
theorem dX7_circleWith_59 : decode cX7_circleWith 59 = .ok (.invokevirtual 57, 3) := by decide +kernel
theorem dX7_circleWith_62 : decode cX7_circleWith 62 = .ok (.if_icmp .ge 80, 3) := by decide +kernel
theorem dX7_circleWith_65 : decode cX7_circleWith 65 = .ok (.iconst 0, 1) := by decide +kernel
theorem dX7_circleWith_66 : decode cX7_circleWith 66 = .ok (.istore 4, 2) := by decide +kernel
theorem dX7_circleWith_68 : decode cX7_circleWith 68 = .ok (.iload 4, 2) := by decide +kernel
theorem dX7_circleWith_70 : decode cX7_circleWith 70 = .ok (.aload_n 0, 1) := by decide +kernel
theorem dX7_circleWith_71 : decode cX7_circleWith 71 = .ok (.getfield 16, 3) := by decide +kernel
theorem dX7_circleWith_74 : decode cX7_circleWith 74 = .ok (.invokevirtual 57, 3) := by decide +kernel
theorem dX7_circleWith_77 : decode cX7_circleWith 77 = .ok (.if_icmp .ge 59, 3) := by decide +kernel
theorem dX7_circleWith_80 : decode cX7_circleWith 80 = .ok (.aload_n 0, 1) := by decide +kernel
theorem dX7_circleWith_81 : decode cX7_circleWith 81 = .ok (.getfield 16, 3) := by decide +kernel
theorem dX7_circleWith_84 : decode cX7_circleWith 84 = .ok (.iload 4, 2) := by decide +kernel
theorem dX7_circleWith_86 : decode cX7_circleWith 86 = .ok (.invokevirtual 154, 3) := by decide +kernel
theorem dX7_circleWith_89 : decode cX7_circleWith 89 = .ok (.checkcast 74, 3) := by decide +kernel
theorem dX7_circleWith_92 : decode cX7_circleWith 92 = .ok (.astore 5, 2) := by decide +kernel
theorem dX7_circleWith_94 : decode cX7_circleWith 94 = .ok (.aload 5, 2) := by decide +kernel
theorem dX7_circleWith_96 : decode cX7_circleWith 96 = .ok (.getfield 158, 3) := by decide +kernel
theorem dX7_circleWith_99 : decode cX7_circleWith 99 = .ok (.iload_n 3, 1) := by decide +kernel
theorem dX7_circleWith_100 : decode cX7_circleWith 100 = .ok (.invokestatic 161, 3) := by decide +kernel
theorem dX7_circleWith_103 : decode cX7_circleWith 103 = .ok (.ifCond .eq 27, 3) := by decide +kernel
theorem dX7_circleWith_106 : decode cX7_circleWith 106 = .ok (.aload 5, 2) := by decide +kernel
theorem dX7_circleWith_108 : decode cX7_circleWith 108 = .ok (.dup, 1) := by decide +kernel
theorem dX7_circleWith_109 : decode cX7_circleWith 109 = .ok (.getfield 158, 3) := by decide +kernel
theorem dX7_circleWith_112 : decode cX7_circleWith 112 = .ok (.aload_n 0, 1) := by decide +kernel
theorem dX7_circleWith_113 : decode cX7_circleWith 113 = .ok (.getfield 16, 3) := by decide +kernel
theorem dX7_circleWith_116 : decode cX7_circleWith 116 = .ok (.iload_n 3, 1) := by decide +kernel
theorem dX7_circleWith_117 : decode cX7_circleWith 117 = .ok (.invokevirtual 154, 3) := by decide +kernel
theorem dX7_circleWith_120 : decode cX7_circleWith 120 = .ok (.checkcast 74, 3) := by decide +kernel
theorem dX7_circleWith_123 : decode cX7_circleWith 123 = .ok (.getfield 158, 3) := by decide +kernel
theorem dX7_circleWith_126 : decode cX7_circleWith 126 = .ok (.ior, 1) := by decide +kernel
theorem dX7_circleWith_127 : decode cX7_circleWith 127 = .ok (.putfield 158, 3) := by decide +kernel
theorem dX7_circleWith_130 : decode cX7_circleWith 130 = .ok (.iinc 4 1, 3) := by decide +kernel
theorem dX7_circleWith_133 : decode cX7_circleWith 133 = .ok (.goto (-65), 3) := by decide +kernel
theorem dX7_circleWith_136 : decode cX7_circleWith 136 = .ok (.iinc 3 1, 3) := by decide +kernel
theorem dX7_circleWith_139 : decode cX7_circleWith 139 = .ok (.goto (-85), 3) := by decide +kernel
theorem dX7_circleWith_142 : decode cX7_circleWith 142 = .ok (.iconst 0, 1) := by decide +kernel
theorem dX7_circleWith_143 : decode cX7_circleWith 143 = .ok (.istore_n 3, 1) := by decide +kernel
theorem dX7_circleWith_144 : decode cX7_circleWith 144 = .ok (.iconst 0, 1) := by decide +kernel
theorem dX7_circleWith_145 : decode cX7_circleWith 145 = .ok (.istore 4, 2) := by decide +kernel
theorem dX7_circleWith_147 : decode cX7_circleWith 147 = .ok (.iload 4, 2) := by decide +kernel
theorem dX7_circleWith_149 : decode cX7_circleWith 149 = .ok (.aload_n 0, 1) := by decide +kernel
theorem dX7_circleWith_150 : decode cX7_circleWith 150 = .ok (.getfield 16, 3) := by decide +kernel
theorem dX7_circleWith_153 : decode cX7_circleWith 153 = .ok (.invokevirtual 57, 3) := by decide +kernel
theorem dX7_circleWith_156 : decode cX7_circleWith 156 = .ok (.if_icmp .ge 39, 3) := by decide +kernel
theorem dX7_circleWith_159 : decode cX7_circleWith 159 = .ok (.aload_n 0, 1) := by decide +kernel
theorem dX7_circleWith_160 : decode cX7_circleWith 160 = .ok (.getfield 16, 3) := by decide +kernel
theorem dX7_circleWith_163 : decode cX7_circleWith 163 = .ok (.iload 4, 2) := by decide +kernel
theorem dX7_circleWith_165 : decode cX7_circleWith 165 = .ok (.invokevirtual 154, 3) := by decide +kernel
theorem dX7_circleWith_168 : decode cX7_circleWith 168 = .ok (.checkcast 74, 3) := by decide +kernel
theorem dX7_circleWith_171 : decode cX7_circleWith 171 = .ok (.getfield 158, 3) := by decide +kernel
theorem dX7_circleWith_174 : decode cX7_circleWith 174 = .ok (.iload 4, 2) := by decide +kernel
theorem dX7_circleWith_176 : decode cX7_circleWith 176 = .ok (.invokestatic 161, 3) := by decide +kernel
theorem dX7_circleWith_179 : decode cX7_circleWith 179 = .ok (.ifCond .eq 10, 3) := by decide +kernel
theorem dX7_circleWith_182 : decode cX7_circleWith 182 = .ok (.iload_n 3, 1) := by decide +kernel
theorem dX7_circleWith_183 : decode cX7_circleWith 183 = .ok (.iconst 1, 1) := by decide +kernel
theorem dX7_circleWith_184 : decode cX7_circleWith 184 = .ok (.iload 4, 2) := by decide +kernel
theorem dX7_circleWith_186 : decode cX7_circleWith 186 = .ok (.ishl, 1) := by decide +kernel
theorem dX7_circleWith_187 : decode cX7_circleWith 187 = .ok (.ior, 1) := by decide +kernel
theorem dX7_circleWith_188 : decode cX7_circleWith 188 = .ok (.istore_n 3, 1) := by decide +kernel
theorem dX7_circleWith_189 : decode cX7_circleWith 189 = .ok (.iinc 4 1, 3) := by decide +kernel
theorem dX7_circleWith_192 : decode cX7_circleWith 192 = .ok (.goto (-45), 3) := by decide +kernel
theorem dX7_circleWith_195 : decode cX7_circleWith 195 = .ok (.iload_n 3, 1) := by decide +kernel
theorem dX7_circleWith_196 : decode cX7_circleWith 196 = .ok (.ireturn, 1) := by decide +kernel
theorem dX7_unrule_0 : decode cX7_unrule 0 = .ok (.aload_n 0, 1) := by decide +kernel
theorem dX7_unrule_1 : decode cX7_unrule 1 = .ok (.iload_n 1, 1) := by decide +kernel
theorem dX7_unrule_2 : decode cX7_unrule 2 = .ok (.invokevirtual 109, 3) := by decide +kernel
theorem dX7_unrule_5 : decode cX7_unrule 5 = .ok (.astore_n 2, 1) := by decide +kernel
theorem dX7_unrule_6 : decode cX7_unrule 6 = .ok (.aload_n 2, 1) := by decide +kernel
theorem dX7_unrule_7 : decode cX7_unrule 7 = .ok (.getfield 136, 3) := by decide +kernel
theorem dX7_unrule_10 : decode cX7_unrule 10 = .ok (.istore_n 3, 1) := by decide +kernel
theorem dX7_unrule_11 : decode cX7_unrule 11 = .ok (.aload_n 2, 1) := by decide +kernel
theorem dX7_unrule_12 : decode cX7_unrule 12 = .ok (.iconst 0, 1) := by decide +kernel
theorem dX7_unrule_13 : decode cX7_unrule 13 = .ok (.putfield 136, 3) := by decide +kernel
theorem dX7_unrule_16 : decode cX7_unrule 16 = .ok (.aload_n 2, 1) := by decide +kernel
theorem dX7_unrule_17 : decode cX7_unrule 17 = .ok (.iconst 0, 1) := by decide +kernel
theorem dX7_unrule_18 : decode cX7_unrule 18 = .ok (.putfield 139, 3) := by decide +kernel
theorem dX7_unrule_21 : decode cX7_unrule 21 = .ok (.iload_n 3, 1) := by decide +kernel
theorem dX7_unrule_22 : decode cX7_unrule 22 = .ok (.ireturn, 1) := by decide +kernel
theorem dX7_fault_0 : decode cX7_fault 0 = .ok (.iload_n 1, 1) := by decide +kernel
theorem dX7_fault_1 : decode cX7_fault 1 = .ok (.ifCond .ne 8, 3) := by decide +kernel
theorem dX7_fault_4 : decode cX7_fault 4 = .ok (.aload_n 0, 1) := by decide +kernel
theorem dX7_fault_5 : decode cX7_fault 5 = .ok (.getfield 39, 3) := by decide +kernel
theorem dX7_fault_8 : decode cX7_fault 8 = .ok (.ireturn, 1) := by decide +kernel
theorem dX7_fault_9 : decode cX7_fault 9 = .ok (.iload_n 1, 1) := by decide +kernel
theorem dX7_fault_10 : decode cX7_fault 10 = .ok (.iconst 1, 1) := by decide +kernel
theorem dX7_fault_11 : decode cX7_fault 11 = .ok (.if_icmp .ne 10, 3) := by decide +kernel
theorem dX7_fault_14 : decode cX7_fault 14 = .ok (.aload_n 0, 1) := by decide +kernel
theorem dX7_fault_15 : decode cX7_fault 15 = .ok (.getfield 120, 3) := by decide +kernel
theorem dX7_fault_18 : decode cX7_fault 18 = .ok (.goto 4, 3) := by decide +kernel
theorem dX7_fault_21 : decode cX7_fault 21 = .ok (.iconst (-1), 1) := by decide +kernel
theorem dX7_fault_22 : decode cX7_fault 22 = .ok (.ireturn, 1) := by decide +kernel
theorem dX7_open_0 : decode cX7_open 0 = .ok (.aload_n 0, 1) := by decide +kernel
theorem dX7_open_1 : decode cX7_open 1 = .ok (.iload_n 1, 1) := by decide +kernel
theorem dX7_open_2 : decode cX7_open 2 = .ok (.invokevirtual 109, 3) := by decide +kernel
theorem dX7_open_5 : decode cX7_open 5 = .ok (.astore_n 2, 1) := by decide +kernel
theorem dX7_open_6 : decode cX7_open 6 = .ok (.aload_n 0, 1) := by decide +kernel
theorem dX7_open_7 : decode cX7_open 7 = .ok (.invokevirtual 165, 3) := by decide +kernel
theorem dX7_open_10 : decode cX7_open 10 = .ok (.aload_n 2, 1) := by decide +kernel
theorem dX7_open_11 : decode cX7_open 11 = .ok (.getfield 85, 3) := by decide +kernel
theorem dX7_open_14 : decode cX7_open 14 = .ok (.invokestatic 161, 3) := by decide +kernel
theorem dX7_open_17 : decode cX7_open 17 = .ok (.ireturn, 1) := by decide +kernel
theorem dX7_openSlopes_0 : decode cX7_openSlopes 0 = .ok (.iconst 1, 1) := by decide +kernel
theorem dX7_openSlopes_1 : decode cX7_openSlopes 1 = .ok (.aload_n 0, 1) := by decide +kernel
theorem dX7_openSlopes_2 : decode cX7_openSlopes 2 = .ok (.getfield 16, 3) := by decide +kernel
theorem dX7_openSlopes_5 : decode cX7_openSlopes 5 = .ok (.invokevirtual 57, 3) := by decide +kernel
theorem dX7_openSlopes_8 : decode cX7_openSlopes 8 = .ok (.ishl, 1) := by decide +kernel
theorem dX7_openSlopes_9 : decode cX7_openSlopes 9 = .ok (.iconst 1, 1) := by decide +kernel
theorem dX7_openSlopes_10 : decode cX7_openSlopes 10 = .ok (.isub, 1) := by decide +kernel
theorem dX7_openSlopes_11 : decode cX7_openSlopes 11 = .ok (.istore_n 1, 1) := by decide +kernel
theorem dX7_openSlopes_12 : decode cX7_openSlopes 12 = .ok (.iconst 0, 1) := by decide +kernel
theorem dX7_openSlopes_13 : decode cX7_openSlopes 13 = .ok (.istore_n 2, 1) := by decide +kernel
theorem dX7_openSlopes_14 : decode cX7_openSlopes 14 = .ok (.iconst 0, 1) := by decide +kernel
theorem dX7_openSlopes_15 : decode cX7_openSlopes 15 = .ok (.istore_n 3, 1) := by decide +kernel
theorem dX7_openSlopes_16 : decode cX7_openSlopes 16 = .ok (.iconst 0, 1) := by decide +kernel
theorem dX7_openSlopes_17 : decode cX7_openSlopes 17 = .ok (.istore 4, 2) := by decide +kernel
theorem dX7_openSlopes_19 : decode cX7_openSlopes 19 = .ok (.iload 4, 2) := by decide +kernel
theorem dX7_openSlopes_21 : decode cX7_openSlopes 21 = .ok (.aload_n 0, 1) := by decide +kernel
theorem dX7_openSlopes_22 : decode cX7_openSlopes 22 = .ok (.getfield 16, 3) := by decide +kernel
theorem dX7_openSlopes_25 : decode cX7_openSlopes 25 = .ok (.invokevirtual 57, 3) := by decide +kernel
theorem dX7_openSlopes_28 : decode cX7_openSlopes 28 = .ok (.if_icmp .ge 105, 3) := by decide +kernel
theorem dX7_openSlopes_31 : decode cX7_openSlopes 31 = .ok (.iload_n 2, 1) := by decide +kernel
theorem dX7_openSlopes_32 : decode cX7_openSlopes 32 = .ok (.iload_n 1, 1) := by decide +kernel
theorem dX7_openSlopes_33 : decode cX7_openSlopes 33 = .ok (.if_icmp .eq 100, 3) := by decide +kernel
theorem dX7_openSlopes_36 : decode cX7_openSlopes 36 = .ok (.iconst 0, 1) := by decide +kernel
theorem dX7_openSlopes_37 : decode cX7_openSlopes 37 = .ok (.istore 5, 2) := by decide +kernel
theorem dX7_openSlopes_39 : decode cX7_openSlopes 39 = .ok (.iload 5, 2) := by decide +kernel
theorem dX7_openSlopes_41 : decode cX7_openSlopes 41 = .ok (.aload_n 0, 1) := by decide +kernel
theorem dX7_openSlopes_42 : decode cX7_openSlopes 42 = .ok (.getfield 16, 3) := by decide +kernel
theorem dX7_openSlopes_45 : decode cX7_openSlopes 45 = .ok (.invokevirtual 57, 3) := by decide +kernel
theorem dX7_openSlopes_48 : decode cX7_openSlopes 48 = .ok (.if_icmp .ge 79, 3) := by decide +kernel
theorem dX7_openSlopes_51 : decode cX7_openSlopes 51 = .ok (.aload_n 0, 1) := by decide +kernel
theorem dX7_openSlopes_52 : decode cX7_openSlopes 52 = .ok (.getfield 16, 3) := by decide +kernel
theorem dX7_openSlopes_55 : decode cX7_openSlopes 55 = .ok (.iload 5, 2) := by decide +kernel
theorem dX7_openSlopes_57 : decode cX7_openSlopes 57 = .ok (.invokevirtual 154, 3) := by decide +kernel
theorem dX7_openSlopes_60 : decode cX7_openSlopes 60 = .ok (.checkcast 74, 3) := by decide +kernel
theorem dX7_openSlopes_63 : decode cX7_openSlopes 63 = .ok (.astore 6, 2) := by decide +kernel
theorem dX7_openSlopes_65 : decode cX7_openSlopes 65 = .ok (.iload_n 2, 1) := by decide +kernel
theorem dX7_openSlopes_66 : decode cX7_openSlopes 66 = .ok (.iload 5, 2) := by decide +kernel
theorem dX7_openSlopes_68 : decode cX7_openSlopes 68 = .ok (.invokestatic 161, 3) := by decide +kernel
theorem dX7_openSlopes_71 : decode cX7_openSlopes 71 = .ok (.ifCond .ne 50, 3) := by decide +kernel
theorem dX7_openSlopes_74 : decode cX7_openSlopes 74 = .ok (.aload 6, 2) := by decide +kernel
theorem dX7_openSlopes_76 : decode cX7_openSlopes 76 = .ok (.getfield 139, 3) := by decide +kernel
theorem dX7_openSlopes_79 : decode cX7_openSlopes 79 = .ok (.iload_n 2, 1) := by decide +kernel
theorem dX7_openSlopes_80 : decode cX7_openSlopes 80 = .ok (.iconst (-1), 1) := by decide +kernel
theorem dX7_openSlopes_81 : decode cX7_openSlopes 81 = .ok (.ixor, 1) := by decide +kernel
theorem dX7_openSlopes_82 : decode cX7_openSlopes 82 = .ok (.iand, 1) := by decide +kernel
theorem dX7_openSlopes_83 : decode cX7_openSlopes 83 = .ok (.ifCond .eq 6, 3) := by decide +kernel
theorem dX7_openSlopes_86 : decode cX7_openSlopes 86 = .ok (.goto 35, 3) := by decide +kernel
theorem dX7_openSlopes_89 : decode cX7_openSlopes 89 = .ok (.iload_n 2, 1) := by decide +kernel
theorem dX7_openSlopes_90 : decode cX7_openSlopes 90 = .ok (.iconst 1, 1) := by decide +kernel
theorem dX7_openSlopes_91 : decode cX7_openSlopes 91 = .ok (.iload 5, 2) := by decide +kernel
theorem dX7_openSlopes_93 : decode cX7_openSlopes 93 = .ok (.ishl, 1) := by decide +kernel
theorem dX7_openSlopes_94 : decode cX7_openSlopes 94 = .ok (.ior, 1) := by decide +kernel
theorem dX7_openSlopes_95 : decode cX7_openSlopes 95 = .ok (.istore_n 2, 1) := by decide +kernel
theorem dX7_openSlopes_96 : decode cX7_openSlopes 96 = .ok (.aload 6, 2) := by decide +kernel
theorem dX7_openSlopes_98 : decode cX7_openSlopes 98 = .ok (.getfield 136, 3) := by decide +kernel
theorem dX7_openSlopes_101 : decode cX7_openSlopes 101 = .ok (.ifCond .eq 13, 3) := by decide +kernel
theorem dX7_openSlopes_104 : decode cX7_openSlopes 104 = .ok (.aload_n 0, 1) := by decide +kernel
theorem dX7_openSlopes_105 : decode cX7_openSlopes 105 = .ok (.aload 6, 2) := by decide +kernel
theorem dX7_openSlopes_107 : decode cX7_openSlopes 107 = .ok (.iload_n 3, 1) := by decide +kernel
theorem dX7_openSlopes_108 : decode cX7_openSlopes 108 = .ok (.invokevirtual 168, 3) := by decide +kernel
theorem dX7_openSlopes_111 : decode cX7_openSlopes 111 = .ok (.ifCond .eq 10, 3) := by decide +kernel
theorem dX7_openSlopes_114 : decode cX7_openSlopes 114 = .ok (.iload_n 3, 1) := by decide +kernel
theorem dX7_openSlopes_115 : decode cX7_openSlopes 115 = .ok (.iconst 1, 1) := by decide +kernel
theorem dX7_openSlopes_116 : decode cX7_openSlopes 116 = .ok (.iload 5, 2) := by decide +kernel
theorem dX7_openSlopes_118 : decode cX7_openSlopes 118 = .ok (.ishl, 1) := by decide +kernel
theorem dX7_openSlopes_119 : decode cX7_openSlopes 119 = .ok (.ior, 1) := by decide +kernel
theorem dX7_openSlopes_120 : decode cX7_openSlopes 120 = .ok (.istore_n 3, 1) := by decide +kernel
theorem dX7_openSlopes_121 : decode cX7_openSlopes 121 = .ok (.iinc 5 1, 3) := by decide +kernel
theorem dX7_openSlopes_124 : decode cX7_openSlopes 124 = .ok (.goto (-85), 3) := by decide +kernel
theorem dX7_openSlopes_127 : decode cX7_openSlopes 127 = .ok (.iinc 4 1, 3) := by decide +kernel
theorem dX7_openSlopes_130 : decode cX7_openSlopes 130 = .ok (.goto (-111), 3) := by decide +kernel
theorem dX7_openSlopes_133 : decode cX7_openSlopes 133 = .ok (.iload_n 3, 1) := by decide +kernel
theorem dX7_openSlopes_134 : decode cX7_openSlopes 134 = .ok (.ireturn, 1) := by decide +kernel
theorem dX7_holds_0 : decode cX7_holds 0 = .ok (.lconst 0, 1) := by decide +kernel
theorem dX7_holds_1 : decode cX7_holds 1 = .ok (.lstore_n 3, 1) := by decide +kernel
theorem dX7_holds_2 : decode cX7_holds 2 = .ok (.iconst 0, 1) := by decide +kernel
theorem dX7_holds_3 : decode cX7_holds 3 = .ok (.istore 5, 2) := by decide +kernel
theorem dX7_holds_5 : decode cX7_holds 5 = .ok (.iload 5, 2) := by decide +kernel
theorem dX7_holds_7 : decode cX7_holds 7 = .ok (.aload_n 1, 1) := by decide +kernel
theorem dX7_holds_8 : decode cX7_holds 8 = .ok (.getfield 144, 3) := by decide +kernel
theorem dX7_holds_11 : decode cX7_holds 11 = .ok (.arraylength, 1) := by decide +kernel
theorem dX7_holds_12 : decode cX7_holds 12 = .ok (.if_icmp .ge 118, 3) := by decide +kernel
theorem dX7_holds_15 : decode cX7_holds 15 = .ok (.aload_n 1, 1) := by decide +kernel
theorem dX7_holds_16 : decode cX7_holds 16 = .ok (.getfield 144, 3) := by decide +kernel
theorem dX7_holds_19 : decode cX7_holds 19 = .ok (.iload 5, 2) := by decide +kernel
theorem dX7_holds_21 : decode cX7_holds 21 = .ok (.iaload, 1) := by decide +kernel
theorem dX7_holds_22 : decode cX7_holds 22 = .ok (.bipush 24, 2) := by decide +kernel
theorem dX7_holds_24 : decode cX7_holds 24 = .ok (.ishr, 1) := by decide +kernel
theorem dX7_holds_25 : decode cX7_holds 25 = .ok (.istore 6, 2) := by decide +kernel
theorem dX7_holds_27 : decode cX7_holds 27 = .ok (.lload_n 3, 1) := by decide +kernel
theorem dX7_holds_28 : decode cX7_holds 28 = .ok (.lconst 1, 1) := by decide +kernel
theorem dX7_holds_29 : decode cX7_holds 29 = .ok (.land, 1) := by decide +kernel
theorem dX7_holds_30 : decode cX7_holds 30 = .ok (.lstore 7, 2) := by decide +kernel
theorem dX7_holds_32 : decode cX7_holds 32 = .ok (.lload_n 3, 1) := by decide +kernel
theorem dX7_holds_33 : decode cX7_holds 33 = .ok (.iconst 1, 1) := by decide +kernel
theorem dX7_holds_34 : decode cX7_holds 34 = .ok (.lshr, 1) := by decide +kernel
theorem dX7_holds_35 : decode cX7_holds 35 = .ok (.lconst 1, 1) := by decide +kernel
theorem dX7_holds_36 : decode cX7_holds 36 = .ok (.land, 1) := by decide +kernel
theorem dX7_holds_37 : decode cX7_holds 37 = .ok (.lstore 9, 2) := by decide +kernel
theorem dX7_holds_39 : decode cX7_holds 39 = .ok (.iload 6, 2) := by decide +kernel
theorem dX7_holds_41 : decode cX7_holds 41 = .ok (.bipush 6, 2) := by decide +kernel
theorem dX7_holds_43 : decode cX7_holds 43 = .ok (.if_icmp .ne 10, 3) := by decide +kernel
theorem dX7_holds_46 : decode cX7_holds 46 = .ok (.lload_n 3, 1) := by decide +kernel
theorem dX7_holds_47 : decode cX7_holds 47 = .ok (.lconst 1, 1) := by decide +kernel
theorem dX7_holds_48 : decode cX7_holds 48 = .ok (.lxor, 1) := by decide +kernel
theorem dX7_holds_49 : decode cX7_holds 49 = .ok (.lstore_n 3, 1) := by decide +kernel
theorem dX7_holds_50 : decode cX7_holds 50 = .ok (.goto 74, 3) := by decide +kernel
theorem dX7_holds_53 : decode cX7_holds 53 = .ok (.iload 6, 2) := by decide +kernel
theorem dX7_holds_55 : decode cX7_holds 55 = .ok (.bipush 7, 2) := by decide +kernel
theorem dX7_holds_57 : decode cX7_holds 57 = .ok (.if_icmp .ne 18, 3) := by decide +kernel
theorem dX7_holds_60 : decode cX7_holds 60 = .ok (.lload_n 3, 1) := by decide +kernel
theorem dX7_holds_61 : decode cX7_holds 61 = .ok (.iconst 2, 1) := by decide +kernel
theorem dX7_holds_62 : decode cX7_holds 62 = .ok (.lshr, 1) := by decide +kernel
theorem dX7_holds_63 : decode cX7_holds 63 = .ok (.iconst 1, 1) := by decide +kernel
theorem dX7_holds_64 : decode cX7_holds 64 = .ok (.lshl, 1) := by decide +kernel
theorem dX7_holds_65 : decode cX7_holds 65 = .ok (.lload 9, 2) := by decide +kernel
theorem dX7_holds_67 : decode cX7_holds 67 = .ok (.lload 7, 2) := by decide +kernel
theorem dX7_holds_69 : decode cX7_holds 69 = .ok (.land, 1) := by decide +kernel
theorem dX7_holds_70 : decode cX7_holds 70 = .ok (.lor, 1) := by decide +kernel
theorem dX7_holds_71 : decode cX7_holds 71 = .ok (.lstore_n 3, 1) := by decide +kernel
theorem dX7_holds_72 : decode cX7_holds 72 = .ok (.goto 52, 3) := by decide +kernel
theorem dX7_holds_75 : decode cX7_holds 75 = .ok (.iload 6, 2) := by decide +kernel
theorem dX7_holds_77 : decode cX7_holds 77 = .ok (.bipush 8, 2) := by decide +kernel
theorem dX7_holds_79 : decode cX7_holds 79 = .ok (.if_icmp .ne 18, 3) := by decide +kernel
theorem dX7_holds_82 : decode cX7_holds 82 = .ok (.lload_n 3, 1) := by decide +kernel
theorem dX7_holds_83 : decode cX7_holds 83 = .ok (.iconst 2, 1) := by decide +kernel
theorem dX7_holds_84 : decode cX7_holds 84 = .ok (.lshr, 1) := by decide +kernel
theorem dX7_holds_85 : decode cX7_holds 85 = .ok (.iconst 1, 1) := by decide +kernel
theorem dX7_holds_86 : decode cX7_holds 86 = .ok (.lshl, 1) := by decide +kernel
theorem dX7_holds_87 : decode cX7_holds 87 = .ok (.lload 9, 2) := by decide +kernel
theorem dX7_holds_89 : decode cX7_holds 89 = .ok (.lor, 1) := by decide +kernel
theorem dX7_holds_90 : decode cX7_holds 90 = .ok (.lload 7, 2) := by decide +kernel
theorem dX7_holds_92 : decode cX7_holds 92 = .ok (.lor, 1) := by decide +kernel
theorem dX7_holds_93 : decode cX7_holds 93 = .ok (.lstore_n 3, 1) := by decide +kernel
theorem dX7_holds_94 : decode cX7_holds 94 = .ok (.goto 30, 3) := by decide +kernel
theorem dX7_holds_97 : decode cX7_holds 97 = .ok (.lload_n 3, 1) := by decide +kernel
theorem dX7_holds_98 : decode cX7_holds 98 = .ok (.iconst 1, 1) := by decide +kernel
theorem dX7_holds_99 : decode cX7_holds 99 = .ok (.lshl, 1) := by decide +kernel
theorem dX7_holds_100 : decode cX7_holds 100 = .ok (.aload_n 0, 1) := by decide +kernel
theorem dX7_holds_101 : decode cX7_holds 101 = .ok (.aload_n 1, 1) := by decide +kernel
theorem dX7_holds_102 : decode cX7_holds 102 = .ok (.aload_n 1, 1) := by decide +kernel
theorem dX7_holds_103 : decode cX7_holds 103 = .ok (.getfield 144, 3) := by decide +kernel
theorem dX7_holds_106 : decode cX7_holds 106 = .ok (.iload 5, 2) := by decide +kernel
theorem dX7_holds_108 : decode cX7_holds 108 = .ok (.iaload, 1) := by decide +kernel
theorem dX7_holds_109 : decode cX7_holds 109 = .ok (.iload_n 2, 1) := by decide +kernel
theorem dX7_holds_110 : decode cX7_holds 110 = .ok (.invokevirtual 172, 3) := by decide +kernel
theorem dX7_holds_113 : decode cX7_holds 113 = .ok (.ifCond .eq 7, 3) := by decide +kernel
theorem dX7_holds_116 : decode cX7_holds 116 = .ok (.iconst 1, 1) := by decide +kernel
theorem dX7_holds_117 : decode cX7_holds 117 = .ok (.goto 4, 3) := by decide +kernel
theorem dX7_holds_120 : decode cX7_holds 120 = .ok (.iconst 0, 1) := by decide +kernel
theorem dX7_holds_121 : decode cX7_holds 121 = .ok (.i2l, 1) := by decide +kernel
theorem dX7_holds_122 : decode cX7_holds 122 = .ok (.lor, 1) := by decide +kernel
theorem dX7_holds_123 : decode cX7_holds 123 = .ok (.lstore_n 3, 1) := by decide +kernel
theorem dX7_holds_124 : decode cX7_holds 124 = .ok (.iinc 5 1, 3) := by decide +kernel
theorem dX7_holds_127 : decode cX7_holds 127 = .ok (.goto (-122), 3) := by decide +kernel
theorem dX7_holds_130 : decode cX7_holds 130 = .ok (.lload_n 3, 1) := by decide +kernel
theorem dX7_holds_131 : decode cX7_holds 131 = .ok (.lconst 1, 1) := by decide +kernel
theorem dX7_holds_132 : decode cX7_holds 132 = .ok (.land, 1) := by decide +kernel
theorem dX7_holds_133 : decode cX7_holds 133 = .ok (.lconst 1, 1) := by decide +kernel
theorem dX7_holds_134 : decode cX7_holds 134 = .ok (.lcmp, 1) := by decide +kernel
theorem dX7_holds_135 : decode cX7_holds 135 = .ok (.ifCond .ne 7, 3) := by decide +kernel
theorem dX7_holds_138 : decode cX7_holds 138 = .ok (.iconst 1, 1) := by decide +kernel
theorem dX7_holds_139 : decode cX7_holds 139 = .ok (.goto 4, 3) := by decide +kernel
theorem dX7_holds_142 : decode cX7_holds 142 = .ok (.iconst 0, 1) := by decide +kernel
theorem dX7_holds_143 : decode cX7_holds 143 = .ok (.ireturn, 1) := by decide +kernel
theorem dX7_passes_0 : decode cX7_passes 0 = .ok (.iload_n 2, 1) := by decide +kernel
theorem dX7_passes_1 : decode cX7_passes 1 = .ok (.ldc 176, 2) := by decide +kernel
theorem dX7_passes_3 : decode cX7_passes 3 = .ok (.iand, 1) := by decide +kernel
theorem dX7_passes_4 : decode cX7_passes 4 = .ok (.istore 4, 2) := by decide +kernel
theorem dX7_passes_6 : decode cX7_passes 6 = .ok (.iload_n 2, 1) := by decide +kernel
theorem dX7_passes_7 : decode cX7_passes 7 = .ok (.bipush 24, 2) := by decide +kernel
theorem dX7_passes_9 : decode cX7_passes 9 = .ok (.ishr, 1) := by decide +kernel
theorem dX7_passes_10 : decode cX7_passes 10 = .ok (.tableswitch 121 0 5 #[82, 110, 121, 96, 38, 45], 38) := by decide +kernel
theorem dX7_passes_48 : decode cX7_passes 48 = .ok (.iload_n 3, 1) := by decide +kernel
theorem dX7_passes_49 : decode cX7_passes 49 = .ok (.iload 4, 2) := by decide +kernel
theorem dX7_passes_51 : decode cX7_passes 51 = .ok (.invokestatic 161, 3) := by decide +kernel
theorem dX7_passes_54 : decode cX7_passes 54 = .ok (.ireturn, 1) := by decide +kernel
theorem dX7_passes_55 : decode cX7_passes 55 = .ok (.iload 4, 2) := by decide +kernel
theorem dX7_passes_57 : decode cX7_passes 57 = .ok (.aload_n 0, 1) := by decide +kernel
theorem dX7_passes_58 : decode cX7_passes 58 = .ok (.getfield 12, 3) := by decide +kernel
theorem dX7_passes_61 : decode cX7_passes 61 = .ok (.invokevirtual 57, 3) := by decide +kernel
theorem dX7_passes_64 : decode cX7_passes 64 = .ok (.if_icmp .ge 26, 3) := by decide +kernel
theorem dX7_passes_67 : decode cX7_passes 67 = .ok (.aload_n 0, 1) := by decide +kernel
theorem dX7_passes_68 : decode cX7_passes 68 = .ok (.aload_n 0, 1) := by decide +kernel
theorem dX7_passes_69 : decode cX7_passes 69 = .ok (.getfield 12, 3) := by decide +kernel
theorem dX7_passes_72 : decode cX7_passes 72 = .ok (.iload 4, 2) := by decide +kernel
theorem dX7_passes_74 : decode cX7_passes 74 = .ok (.invokevirtual 154, 3) := by decide +kernel
theorem dX7_passes_77 : decode cX7_passes 77 = .ok (.checkcast 65, 3) := by decide +kernel
theorem dX7_passes_80 : decode cX7_passes 80 = .ok (.invokevirtual 95, 3) := by decide +kernel
theorem dX7_passes_83 : decode cX7_passes 83 = .ok (.ifCond .eq 7, 3) := by decide +kernel
theorem dX7_passes_86 : decode cX7_passes 86 = .ok (.iconst 1, 1) := by decide +kernel
theorem dX7_passes_87 : decode cX7_passes 87 = .ok (.goto 4, 3) := by decide +kernel
theorem dX7_passes_90 : decode cX7_passes 90 = .ok (.iconst 0, 1) := by decide +kernel
theorem dX7_passes_91 : decode cX7_passes 91 = .ok (.ireturn, 1) := by decide +kernel
theorem dX7_passes_92 : decode cX7_passes 92 = .ok (.aload_n 1, 1) := by decide +kernel
theorem dX7_passes_93 : decode cX7_passes 93 = .ok (.invokevirtual 177, 3) := by decide +kernel
theorem dX7_passes_96 : decode cX7_passes 96 = .ok (.bipush 100, 2) := by decide +kernel
theorem dX7_passes_98 : decode cX7_passes 98 = .ok (.idiv, 1) := by decide +kernel
theorem dX7_passes_99 : decode cX7_passes 99 = .ok (.iload_n 2, 1) := by decide +kernel
theorem dX7_passes_100 : decode cX7_passes 100 = .ok (.iload 4, 2) := by decide +kernel
theorem dX7_passes_102 : decode cX7_passes 102 = .ok (.invokestatic 180, 3) := by decide +kernel
theorem dX7_passes_105 : decode cX7_passes 105 = .ok (.ireturn, 1) := by decide +kernel
theorem dX7_passes_106 : decode cX7_passes 106 = .ok (.aload_n 1, 1) := by decide +kernel
theorem dX7_passes_107 : decode cX7_passes 107 = .ok (.invokevirtual 184, 3) := by decide +kernel
theorem dX7_passes_110 : decode cX7_passes 110 = .ok (.bipush 100, 2) := by decide +kernel
theorem dX7_passes_112 : decode cX7_passes 112 = .ok (.idiv, 1) := by decide +kernel
theorem dX7_passes_113 : decode cX7_passes 113 = .ok (.iload_n 2, 1) := by decide +kernel
theorem dX7_passes_114 : decode cX7_passes 114 = .ok (.iload 4, 2) := by decide +kernel
theorem dX7_passes_116 : decode cX7_passes 116 = .ok (.invokestatic 180, 3) := by decide +kernel
theorem dX7_passes_119 : decode cX7_passes 119 = .ok (.ireturn, 1) := by decide +kernel
theorem dX7_passes_120 : decode cX7_passes 120 = .ok (.aload_n 0, 1) := by decide +kernel
theorem dX7_passes_121 : decode cX7_passes 121 = .ok (.getfield 103, 3) := by decide +kernel
theorem dX7_passes_124 : decode cX7_passes 124 = .ok (.iload_n 2, 1) := by decide +kernel
theorem dX7_passes_125 : decode cX7_passes 125 = .ok (.iload 4, 2) := by decide +kernel
theorem dX7_passes_127 : decode cX7_passes 127 = .ok (.invokestatic 180, 3) := by decide +kernel
theorem dX7_passes_130 : decode cX7_passes 130 = .ok (.ireturn, 1) := by decide +kernel
theorem dX7_passes_131 : decode cX7_passes 131 = .ok (.aload_n 0, 1) := by decide +kernel
theorem dX7_passes_132 : decode cX7_passes 132 = .ok (.getfield 187, 3) := by decide +kernel
theorem dX7_passes_135 : decode cX7_passes 135 = .ok (.bipush 60, 2) := by decide +kernel
theorem dX7_passes_137 : decode cX7_passes 137 = .ok (.idiv, 1) := by decide +kernel
theorem dX7_passes_138 : decode cX7_passes 138 = .ok (.iload_n 2, 1) := by decide +kernel
theorem dX7_passes_139 : decode cX7_passes 139 = .ok (.iload 4, 2) := by decide +kernel
theorem dX7_passes_141 : decode cX7_passes 141 = .ok (.invokestatic 180, 3) := by decide +kernel
theorem dX7_passes_144 : decode cX7_passes 144 = .ok (.ireturn, 1) := by decide +kernel
theorem dX7_compares_0 : decode cX7_compares 0 = .ok (.iload_n 1, 1) := by decide +kernel
theorem dX7_compares_1 : decode cX7_compares 1 = .ok (.bipush 20, 2) := by decide +kernel
theorem dX7_compares_3 : decode cX7_compares 3 = .ok (.ishr, 1) := by decide +kernel
theorem dX7_compares_4 : decode cX7_compares 4 = .ok (.bipush 15, 2) := by decide +kernel
theorem dX7_compares_6 : decode cX7_compares 6 = .ok (.iand, 1) := by decide +kernel
theorem dX7_compares_7 : decode cX7_compares 7 = .ok (.istore_n 3, 1) := by decide +kernel
theorem dX7_compares_8 : decode cX7_compares 8 = .ok (.iload_n 3, 1) := by decide +kernel
theorem dX7_compares_9 : decode cX7_compares 9 = .ok (.bipush 9, 2) := by decide +kernel
theorem dX7_compares_11 : decode cX7_compares 11 = .ok (.if_icmp .ne 14, 3) := by decide +kernel
theorem dX7_compares_14 : decode cX7_compares 14 = .ok (.iload_n 0, 1) := by decide +kernel
theorem dX7_compares_15 : decode cX7_compares 15 = .ok (.iload_n 2, 1) := by decide +kernel
theorem dX7_compares_16 : decode cX7_compares 16 = .ok (.if_icmp .ge 7, 3) := by decide +kernel
theorem dX7_compares_19 : decode cX7_compares 19 = .ok (.iconst 1, 1) := by decide +kernel
theorem dX7_compares_20 : decode cX7_compares 20 = .ok (.goto 4, 3) := by decide +kernel
theorem dX7_compares_23 : decode cX7_compares 23 = .ok (.iconst 0, 1) := by decide +kernel
theorem dX7_compares_24 : decode cX7_compares 24 = .ok (.ireturn, 1) := by decide +kernel
theorem dX7_compares_25 : decode cX7_compares 25 = .ok (.iload_n 3, 1) := by decide +kernel
theorem dX7_compares_26 : decode cX7_compares 26 = .ok (.bipush 10, 2) := by decide +kernel
theorem dX7_compares_28 : decode cX7_compares 28 = .ok (.if_icmp .ne 16, 3) := by decide +kernel
theorem dX7_compares_31 : decode cX7_compares 31 = .ok (.iload_n 0, 1) := by decide +kernel
theorem dX7_compares_32 : decode cX7_compares 32 = .ok (.iload_n 2, 1) := by decide +kernel
theorem dX7_compares_33 : decode cX7_compares 33 = .ok (.if_icmp .le 7, 3) := by decide +kernel
theorem dX7_compares_36 : decode cX7_compares 36 = .ok (.iconst 1, 1) := by decide +kernel
theorem dX7_compares_37 : decode cX7_compares 37 = .ok (.goto 17, 3) := by decide +kernel
theorem dX7_compares_40 : decode cX7_compares 40 = .ok (.iconst 0, 1) := by decide +kernel
theorem dX7_compares_41 : decode cX7_compares 41 = .ok (.goto 13, 3) := by decide +kernel
theorem dX7_compares_44 : decode cX7_compares 44 = .ok (.iload_n 0, 1) := by decide +kernel
theorem dX7_compares_45 : decode cX7_compares 45 = .ok (.iload_n 2, 1) := by decide +kernel
theorem dX7_compares_46 : decode cX7_compares 46 = .ok (.if_icmp .ne 7, 3) := by decide +kernel
theorem dX7_compares_49 : decode cX7_compares 49 = .ok (.iconst 1, 1) := by decide +kernel
theorem dX7_compares_50 : decode cX7_compares 50 = .ok (.goto 4, 3) := by decide +kernel
theorem dX7_compares_53 : decode cX7_compares 53 = .ok (.iconst 0, 1) := by decide +kernel
theorem dX7_compares_54 : decode cX7_compares 54 = .ok (.ireturn, 1) := by decide +kernel
theorem dX7_group_0 : decode cX7_group 0 = .ok (.iload_n 3, 1) := by decide +kernel
theorem dX7_group_1 : decode cX7_group 1 = .ok (.invokestatic 50, 3) := by decide +kernel
theorem dX7_group_4 : decode cX7_group 4 = .ok (.iload_n 1, 1) := by decide +kernel
theorem dX7_group_5 : decode cX7_group 5 = .ok (.iconst 1, 1) := by decide +kernel
theorem dX7_group_6 : decode cX7_group 6 = .ok (.iconst 4, 1) := by decide +kernel
theorem dX7_group_7 : decode cX7_group 7 = .ok (.invokestatic 53, 3) := by decide +kernel
theorem dX7_group_10 : decode cX7_group 10 = .ok (.iload_n 2, 1) := by decide +kernel
theorem dX7_group_11 : decode cX7_group 11 = .ok (.iconst 0, 1) := by decide +kernel
theorem dX7_group_12 : decode cX7_group 12 = .ok (.bipush 9, 2) := by decide +kernel
theorem dX7_group_14 : decode cX7_group 14 = .ok (.invokestatic 53, 3) := by decide +kernel
theorem dX7_group_17 : decode cX7_group 17 = .ok (.aload_n 0, 1) := by decide +kernel
theorem dX7_group_18 : decode cX7_group 18 = .ok (.getfield 22, 3) := by decide +kernel
theorem dX7_group_21 : decode cX7_group 21 = .ok (.invokevirtual 57, 3) := by decide +kernel
theorem dX7_group_24 : decode cX7_group 24 = .ok (.bipush 60, 2) := by decide +kernel
theorem dX7_group_26 : decode cX7_group 26 = .ok (.invokestatic 61, 3) := by decide +kernel
theorem dX7_group_29 : decode cX7_group 29 = .ok (.aload_n 0, 1) := by decide +kernel
theorem dX7_group_30 : decode cX7_group 30 = .ok (.getfield 22, 3) := by decide +kernel
theorem dX7_group_33 : decode cX7_group 33 = .ok (.invokevirtual 57, 3) := by decide +kernel
theorem dX7_group_36 : decode cX7_group 36 = .ok (.istore 4, 2) := by decide +kernel
theorem dX7_group_38 : decode cX7_group 38 = .ok (.aload_n 0, 1) := by decide +kernel
theorem dX7_group_39 : decode cX7_group 39 = .ok (.getfield 22, 3) := by decide +kernel
theorem dX7_group_42 : decode cX7_group 42 = .ok (.new 190, 3) := by decide +kernel
theorem dX7_group_45 : decode cX7_group 45 = .ok (.dup, 1) := by decide +kernel
theorem dX7_group_46 : decode cX7_group 46 = .ok (.iload 4, 2) := by decide +kernel
theorem dX7_group_48 : decode cX7_group 48 = .ok (.iload_n 1, 1) := by decide +kernel
theorem dX7_group_49 : decode cX7_group 49 = .ok (.iload_n 2, 1) := by decide +kernel
theorem dX7_group_50 : decode cX7_group 50 = .ok (.iload_n 3, 1) := by decide +kernel
theorem dX7_group_51 : decode cX7_group 51 = .ok (.invokespecial 192, 3) := by decide +kernel
theorem dX7_group_54 : decode cX7_group 54 = .ok (.invokevirtual 70, 3) := by decide +kernel
theorem dX7_group_57 : decode cX7_group 57 = .ok (.pop, 1) := by decide +kernel
theorem dX7_group_58 : decode cX7_group 58 = .ok (.iload 4, 2) := by decide +kernel
theorem dX7_group_60 : decode cX7_group 60 = .ok (.ireturn, 1) := by decide +kernel
theorem dX7_step_0 : decode cX7_step 0 = .ok (.iload_n 1, 1) := by decide +kernel
theorem dX7_step_1 : decode cX7_step 1 = .ok (.iconst 0, 1) := by decide +kernel
theorem dX7_step_2 : decode cX7_step 2 = .ok (.sipush 600, 3) := by decide +kernel
theorem dX7_step_5 : decode cX7_step 5 = .ok (.invokestatic 53, 3) := by decide +kernel
theorem dX7_step_8 : decode cX7_step 8 = .ok (.iconst 0, 1) := by decide +kernel
theorem dX7_step_9 : decode cX7_step 9 = .ok (.istore_n 2, 1) := by decide +kernel
theorem dX7_step_10 : decode cX7_step 10 = .ok (.iload_n 2, 1) := by decide +kernel
theorem dX7_step_11 : decode cX7_step 11 = .ok (.iload_n 1, 1) := by decide +kernel
theorem dX7_step_12 : decode cX7_step 12 = .ok (.if_icmp .ge 13, 3) := by decide +kernel
theorem dX7_step_15 : decode cX7_step 15 = .ok (.aload_n 0, 1) := by decide +kernel
theorem dX7_step_16 : decode cX7_step 16 = .ok (.invokevirtual 195, 3) := by decide +kernel
theorem dX7_step_19 : decode cX7_step 19 = .ok (.iinc 2 1, 3) := by decide +kernel
theorem dX7_step_22 : decode cX7_step 22 = .ok (.goto (-12), 3) := by decide +kernel
theorem dX7_step_25 : decode cX7_step 25 = .ok (.aload_n 0, 1) := by decide +kernel
theorem dX7_step_26 : decode cX7_step 26 = .ok (.getfield 187, 3) := by decide +kernel
theorem dX7_step_29 : decode cX7_step 29 = .ok (.ireturn, 1) := by decide +kernel
theorem dX7_passMinute_0 : decode cX7_passMinute 0 = .ok (.iconst 0, 1) := by decide +kernel
theorem dX7_passMinute_1 : decode cX7_passMinute 1 = .ok (.istore_n 1, 1) := by decide +kernel
theorem dX7_passMinute_2 : decode cX7_passMinute 2 = .ok (.iconst 0, 1) := by decide +kernel
theorem dX7_passMinute_3 : decode cX7_passMinute 3 = .ok (.istore_n 2, 1) := by decide +kernel
theorem dX7_passMinute_4 : decode cX7_passMinute 4 = .ok (.iload_n 2, 1) := by decide +kernel
theorem dX7_passMinute_5 : decode cX7_passMinute 5 = .ok (.aload_n 0, 1) := by decide +kernel
theorem dX7_passMinute_6 : decode cX7_passMinute 6 = .ok (.getfield 22, 3) := by decide +kernel
theorem dX7_passMinute_9 : decode cX7_passMinute 9 = .ok (.invokevirtual 57, 3) := by decide +kernel
theorem dX7_passMinute_12 : decode cX7_passMinute 12 = .ok (.if_icmp .ge 40, 3) := by decide +kernel
theorem dX7_passMinute_15 : decode cX7_passMinute 15 = .ok (.aload_n 0, 1) := by decide +kernel
theorem dX7_passMinute_16 : decode cX7_passMinute 16 = .ok (.getfield 22, 3) := by decide +kernel
theorem dX7_passMinute_19 : decode cX7_passMinute 19 = .ok (.iload_n 2, 1) := by decide +kernel
theorem dX7_passMinute_20 : decode cX7_passMinute 20 = .ok (.invokevirtual 154, 3) := by decide +kernel
theorem dX7_passMinute_23 : decode cX7_passMinute 23 = .ok (.checkcast 190, 3) := by decide +kernel
theorem dX7_passMinute_26 : decode cX7_passMinute 26 = .ok (.astore_n 3, 1) := by decide +kernel
theorem dX7_passMinute_27 : decode cX7_passMinute 27 = .ok (.aload_n 3, 1) := by decide +kernel
theorem dX7_passMinute_28 : decode cX7_passMinute 28 = .ok (.invokevirtual 198, 3) := by decide +kernel
theorem dX7_passMinute_31 : decode cX7_passMinute 31 = .ok (.iload_n 1, 1) := by decide +kernel
theorem dX7_passMinute_32 : decode cX7_passMinute 32 = .ok (.aload_n 3, 1) := by decide +kernel
theorem dX7_passMinute_33 : decode cX7_passMinute 33 = .ok (.getfield 201, 3) := by decide +kernel
theorem dX7_passMinute_36 : decode cX7_passMinute 36 = .ok (.ifCond .ne 7, 3) := by decide +kernel
theorem dX7_passMinute_39 : decode cX7_passMinute 39 = .ok (.iconst 1, 1) := by decide +kernel
theorem dX7_passMinute_40 : decode cX7_passMinute 40 = .ok (.goto 4, 3) := by decide +kernel
theorem dX7_passMinute_43 : decode cX7_passMinute 43 = .ok (.iconst 0, 1) := by decide +kernel
theorem dX7_passMinute_44 : decode cX7_passMinute 44 = .ok (.ior, 1) := by decide +kernel
theorem dX7_passMinute_45 : decode cX7_passMinute 45 = .ok (.istore_n 1, 1) := by decide +kernel
theorem dX7_passMinute_46 : decode cX7_passMinute 46 = .ok (.iinc 2 1, 3) := by decide +kernel
theorem dX7_passMinute_49 : decode cX7_passMinute 49 = .ok (.goto (-45), 3) := by decide +kernel
theorem dX7_passMinute_52 : decode cX7_passMinute 52 = .ok (.iload_n 1, 1) := by decide +kernel
theorem dX7_passMinute_53 : decode cX7_passMinute 53 = .ok (.ifCond .eq 11, 3) := by decide +kernel
theorem dX7_passMinute_56 : decode cX7_passMinute 56 = .ok (.aload_n 0, 1) := by decide +kernel
theorem dX7_passMinute_57 : decode cX7_passMinute 57 = .ok (.aload_n 0, 1) := by decide +kernel
theorem dX7_passMinute_58 : decode cX7_passMinute 58 = .ok (.invokevirtual 165, 3) := by decide +kernel
theorem dX7_passMinute_61 : decode cX7_passMinute 61 = .ok (.invokevirtual 204, 3) := by decide +kernel
theorem dX7_passMinute_64 : decode cX7_passMinute 64 = .ok (.iconst 0, 1) := by decide +kernel
theorem dX7_passMinute_65 : decode cX7_passMinute 65 = .ok (.istore_n 2, 1) := by decide +kernel
theorem dX7_passMinute_66 : decode cX7_passMinute 66 = .ok (.iload_n 2, 1) := by decide +kernel
theorem dX7_passMinute_67 : decode cX7_passMinute 67 = .ok (.aload_n 0, 1) := by decide +kernel
theorem dX7_passMinute_68 : decode cX7_passMinute 68 = .ok (.getfield 12, 3) := by decide +kernel
theorem dX7_passMinute_71 : decode cX7_passMinute 71 = .ok (.invokevirtual 57, 3) := by decide +kernel
theorem dX7_passMinute_74 : decode cX7_passMinute 74 = .ok (.if_icmp .ge 41, 3) := by decide +kernel
theorem dX7_passMinute_77 : decode cX7_passMinute 77 = .ok (.aload_n 0, 1) := by decide +kernel
theorem dX7_passMinute_78 : decode cX7_passMinute 78 = .ok (.aload_n 0, 1) := by decide +kernel
theorem dX7_passMinute_79 : decode cX7_passMinute 79 = .ok (.getfield 12, 3) := by decide +kernel
theorem dX7_passMinute_82 : decode cX7_passMinute 82 = .ok (.iload_n 2, 1) := by decide +kernel
theorem dX7_passMinute_83 : decode cX7_passMinute 83 = .ok (.invokevirtual 154, 3) := by decide +kernel
theorem dX7_passMinute_86 : decode cX7_passMinute 86 = .ok (.checkcast 65, 3) := by decide +kernel
theorem dX7_passMinute_89 : decode cX7_passMinute 89 = .ok (.invokevirtual 95, 3) := by decide +kernel
theorem dX7_passMinute_92 : decode cX7_passMinute 92 = .ok (.ifCond .eq 17, 3) := by decide +kernel
theorem dX7_passMinute_95 : decode cX7_passMinute 95 = .ok (.aload_n 0, 1) := by decide +kernel
theorem dX7_passMinute_96 : decode cX7_passMinute 96 = .ok (.getfield 12, 3) := by decide +kernel
theorem dX7_passMinute_99 : decode cX7_passMinute 99 = .ok (.iload_n 2, 1) := by decide +kernel
theorem dX7_passMinute_100 : decode cX7_passMinute 100 = .ok (.invokevirtual 154, 3) := by decide +kernel
theorem dX7_passMinute_103 : decode cX7_passMinute 103 = .ok (.checkcast 65, 3) := by decide +kernel
theorem dX7_passMinute_106 : decode cX7_passMinute 106 = .ok (.invokevirtual 207, 3) := by decide +kernel
theorem dX7_passMinute_109 : decode cX7_passMinute 109 = .ok (.iinc 2 1, 3) := by decide +kernel
theorem dX7_passMinute_112 : decode cX7_passMinute 112 = .ok (.goto (-46), 3) := by decide +kernel
theorem dX7_passMinute_115 : decode cX7_passMinute 115 = .ok (.aload_n 0, 1) := by decide +kernel
theorem dX7_passMinute_116 : decode cX7_passMinute 116 = .ok (.dup, 1) := by decide +kernel
theorem dX7_passMinute_117 : decode cX7_passMinute 117 = .ok (.getfield 187, 3) := by decide +kernel
theorem dX7_passMinute_120 : decode cX7_passMinute 120 = .ok (.iconst 1, 1) := by decide +kernel
theorem dX7_passMinute_121 : decode cX7_passMinute 121 = .ok (.iadd, 1) := by decide +kernel
theorem dX7_passMinute_122 : decode cX7_passMinute 122 = .ok (.putfield 187, 3) := by decide +kernel
theorem dX7_passMinute_125 : decode cX7_passMinute 125 = .ok (.return_, 1) := by decide +kernel
theorem dX7_sendFree_0 : decode cX7_sendFree 0 = .ok (.iconst 0, 1) := by decide +kernel
theorem dX7_sendFree_1 : decode cX7_sendFree 1 = .ok (.istore_n 2, 1) := by decide +kernel
theorem dX7_sendFree_2 : decode cX7_sendFree 2 = .ok (.iload_n 2, 1) := by decide +kernel
theorem dX7_sendFree_3 : decode cX7_sendFree 3 = .ok (.aload_n 0, 1) := by decide +kernel
theorem dX7_sendFree_4 : decode cX7_sendFree 4 = .ok (.getfield 22, 3) := by decide +kernel
theorem dX7_sendFree_7 : decode cX7_sendFree 7 = .ok (.invokevirtual 57, 3) := by decide +kernel
theorem dX7_sendFree_10 : decode cX7_sendFree 10 = .ok (.if_icmp .ge 42, 3) := by decide +kernel
theorem dX7_sendFree_13 : decode cX7_sendFree 13 = .ok (.aload_n 0, 1) := by decide +kernel
theorem dX7_sendFree_14 : decode cX7_sendFree 14 = .ok (.getfield 22, 3) := by decide +kernel
theorem dX7_sendFree_17 : decode cX7_sendFree 17 = .ok (.iload_n 2, 1) := by decide +kernel
theorem dX7_sendFree_18 : decode cX7_sendFree 18 = .ok (.invokevirtual 154, 3) := by decide +kernel
theorem dX7_sendFree_21 : decode cX7_sendFree 21 = .ok (.checkcast 190, 3) := by decide +kernel
theorem dX7_sendFree_24 : decode cX7_sendFree 24 = .ok (.getfield 201, 3) := by decide +kernel
theorem dX7_sendFree_27 : decode cX7_sendFree 27 = .ok (.ifCond .ne 19, 3) := by decide +kernel
theorem dX7_sendFree_30 : decode cX7_sendFree 30 = .ok (.aload_n 0, 1) := by decide +kernel
theorem dX7_sendFree_31 : decode cX7_sendFree 31 = .ok (.aload_n 0, 1) := by decide +kernel
theorem dX7_sendFree_32 : decode cX7_sendFree 32 = .ok (.getfield 22, 3) := by decide +kernel
theorem dX7_sendFree_35 : decode cX7_sendFree 35 = .ok (.iload_n 2, 1) := by decide +kernel
theorem dX7_sendFree_36 : decode cX7_sendFree 36 = .ok (.invokevirtual 154, 3) := by decide +kernel
theorem dX7_sendFree_39 : decode cX7_sendFree 39 = .ok (.checkcast 190, 3) := by decide +kernel
theorem dX7_sendFree_42 : decode cX7_sendFree 42 = .ok (.iload_n 1, 1) := by decide +kernel
theorem dX7_sendFree_43 : decode cX7_sendFree 43 = .ok (.invokevirtual 210, 3) := by decide +kernel
theorem dX7_sendFree_46 : decode cX7_sendFree 46 = .ok (.iinc 2 1, 3) := by decide +kernel
theorem dX7_sendFree_49 : decode cX7_sendFree 49 = .ok (.goto (-47), 3) := by decide +kernel
theorem dX7_sendFree_52 : decode cX7_sendFree 52 = .ok (.return_, 1) := by decide +kernel
theorem dX7_send_0 : decode cX7_send 0 = .ok (.aload_n 0, 1) := by decide +kernel
theorem dX7_send_1 : decode cX7_send 1 = .ok (.aload_n 1, 1) := by decide +kernel
theorem dX7_send_2 : decode cX7_send 2 = .ok (.iload_n 2, 1) := by decide +kernel
theorem dX7_send_3 : decode cX7_send 3 = .ok (.invokevirtual 214, 3) := by decide +kernel
theorem dX7_send_6 : decode cX7_send 6 = .ok (.astore_n 3, 1) := by decide +kernel
theorem dX7_send_7 : decode cX7_send 7 = .ok (.aload_n 3, 1) := by decide +kernel
theorem dX7_send_8 : decode cX7_send 8 = .ok (.ifnull 27, 3) := by decide +kernel
theorem dX7_send_11 : decode cX7_send 11 = .ok (.aload_n 1, 1) := by decide +kernel
theorem dX7_send_12 : decode cX7_send 12 = .ok (.aload_n 3, 1) := by decide +kernel
theorem dX7_send_13 : decode cX7_send 13 = .ok (.invokevirtual 218, 3) := by decide +kernel
theorem dX7_send_16 : decode cX7_send 16 = .ok (.aload_n 0, 1) := by decide +kernel
theorem dX7_send_17 : decode cX7_send 17 = .ok (.dup, 1) := by decide +kernel
theorem dX7_send_18 : decode cX7_send 18 = .ok (.getfield 221, 3) := by decide +kernel
theorem dX7_send_21 : decode cX7_send 21 = .ok (.aload_n 3, 1) := by decide +kernel
theorem dX7_send_22 : decode cX7_send 22 = .ok (.aload_n 1, 1) := by decide +kernel
theorem dX7_send_23 : decode cX7_send 23 = .ok (.getfield 225, 3) := by decide +kernel
theorem dX7_send_26 : decode cX7_send 26 = .ok (.invokevirtual 227, 3) := by decide +kernel
theorem dX7_send_29 : decode cX7_send 29 = .ok (.i2l, 1) := by decide +kernel
theorem dX7_send_30 : decode cX7_send 30 = .ok (.ladd, 1) := by decide +kernel
theorem dX7_send_31 : decode cX7_send 31 = .ok (.putfield 221, 3) := by decide +kernel
theorem dX7_send_34 : decode cX7_send 34 = .ok (.return_, 1) := by decide +kernel
theorem dX7_send_35 : decode cX7_send 35 = .ok (.aload_n 0, 1) := by decide +kernel
theorem dX7_send_36 : decode cX7_send 36 = .ok (.aload_n 1, 1) := by decide +kernel
theorem dX7_send_37 : decode cX7_send 37 = .ok (.invokevirtual 230, 3) := by decide +kernel
theorem dX7_send_40 : decode cX7_send 40 = .ok (.astore 4, 2) := by decide +kernel
theorem dX7_send_42 : decode cX7_send 42 = .ok (.aload 4, 2) := by decide +kernel
theorem dX7_send_44 : decode cX7_send 44 = .ok (.ifnull 15, 3) := by decide +kernel
theorem dX7_send_47 : decode cX7_send 47 = .ok (.aload_n 1, 1) := by decide +kernel
theorem dX7_send_48 : decode cX7_send 48 = .ok (.aload 4, 2) := by decide +kernel
theorem dX7_send_50 : decode cX7_send 50 = .ok (.invokevirtual 234, 3) := by decide +kernel
theorem dX7_send_53 : decode cX7_send 53 = .ok (.aload 4, 2) := by decide +kernel
theorem dX7_send_55 : decode cX7_send 55 = .ok (.aload_n 1, 1) := by decide +kernel
theorem dX7_send_56 : decode cX7_send 56 = .ok (.invokevirtual 238, 3) := by decide +kernel
theorem dX7_send_59 : decode cX7_send 59 = .ok (.return_, 1) := by decide +kernel
theorem dX7_slopeFor_0 : decode cX7_slopeFor 0 = .ok (.aconst_null, 1) := by decide +kernel
theorem dX7_slopeFor_1 : decode cX7_slopeFor 1 = .ok (.astore_n 3, 1) := by decide +kernel
theorem dX7_slopeFor_2 : decode cX7_slopeFor 2 = .ok (.iconst 0, 1) := by decide +kernel
theorem dX7_slopeFor_3 : decode cX7_slopeFor 3 = .ok (.istore 4, 2) := by decide +kernel
theorem dX7_slopeFor_5 : decode cX7_slopeFor 5 = .ok (.iload 4, 2) := by decide +kernel
theorem dX7_slopeFor_7 : decode cX7_slopeFor 7 = .ok (.aload_n 0, 1) := by decide +kernel
theorem dX7_slopeFor_8 : decode cX7_slopeFor 8 = .ok (.getfield 16, 3) := by decide +kernel
theorem dX7_slopeFor_11 : decode cX7_slopeFor 11 = .ok (.invokevirtual 57, 3) := by decide +kernel
theorem dX7_slopeFor_14 : decode cX7_slopeFor 14 = .ok (.if_icmp .ge 87, 3) := by decide +kernel
theorem dX7_slopeFor_17 : decode cX7_slopeFor 17 = .ok (.aload_n 0, 1) := by decide +kernel
theorem dX7_slopeFor_18 : decode cX7_slopeFor 18 = .ok (.getfield 16, 3) := by decide +kernel
theorem dX7_slopeFor_21 : decode cX7_slopeFor 21 = .ok (.iload 4, 2) := by decide +kernel
theorem dX7_slopeFor_23 : decode cX7_slopeFor 23 = .ok (.invokevirtual 154, 3) := by decide +kernel
theorem dX7_slopeFor_26 : decode cX7_slopeFor 26 = .ok (.checkcast 74, 3) := by decide +kernel
theorem dX7_slopeFor_29 : decode cX7_slopeFor 29 = .ok (.astore 5, 2) := by decide +kernel
theorem dX7_slopeFor_31 : decode cX7_slopeFor 31 = .ok (.aload 5, 2) := by decide +kernel
theorem dX7_slopeFor_33 : decode cX7_slopeFor 33 = .ok (.getfield 242, 3) := by decide +kernel
theorem dX7_slopeFor_36 : decode cX7_slopeFor 36 = .ok (.aload_n 1, 1) := by decide +kernel
theorem dX7_slopeFor_37 : decode cX7_slopeFor 37 = .ok (.getfield 245, 3) := by decide +kernel
theorem dX7_slopeFor_40 : decode cX7_slopeFor 40 = .ok (.if_icmp .ne 28, 3) := by decide +kernel
theorem dX7_slopeFor_43 : decode cX7_slopeFor 43 = .ok (.aload 5, 2) := by decide +kernel
theorem dX7_slopeFor_45 : decode cX7_slopeFor 45 = .ok (.getfield 248, 3) := by decide +kernel
theorem dX7_slopeFor_48 : decode cX7_slopeFor 48 = .ok (.aload_n 1, 1) := by decide +kernel
theorem dX7_slopeFor_49 : decode cX7_slopeFor 49 = .ok (.getfield 251, 3) := by decide +kernel
theorem dX7_slopeFor_52 : decode cX7_slopeFor 52 = .ok (.if_icmp .gt 16, 3) := by decide +kernel
theorem dX7_slopeFor_55 : decode cX7_slopeFor 55 = .ok (.iload_n 2, 1) := by decide +kernel
theorem dX7_slopeFor_56 : decode cX7_slopeFor 56 = .ok (.iload 4, 2) := by decide +kernel
theorem dX7_slopeFor_58 : decode cX7_slopeFor 58 = .ok (.invokestatic 161, 3) := by decide +kernel
theorem dX7_slopeFor_61 : decode cX7_slopeFor 61 = .ok (.ifCond .eq 7, 3) := by decide +kernel
theorem dX7_slopeFor_64 : decode cX7_slopeFor 64 = .ok (.iconst 1, 1) := by decide +kernel
theorem dX7_slopeFor_65 : decode cX7_slopeFor 65 = .ok (.goto 4, 3) := by decide +kernel
theorem dX7_slopeFor_68 : decode cX7_slopeFor 68 = .ok (.iconst 0, 1) := by decide +kernel
theorem dX7_slopeFor_69 : decode cX7_slopeFor 69 = .ok (.istore 6, 2) := by decide +kernel
theorem dX7_slopeFor_71 : decode cX7_slopeFor 71 = .ok (.iload 6, 2) := by decide +kernel
theorem dX7_slopeFor_73 : decode cX7_slopeFor 73 = .ok (.ifCond .eq 22, 3) := by decide +kernel
theorem dX7_slopeFor_76 : decode cX7_slopeFor 76 = .ok (.aload_n 3, 1) := by decide +kernel
theorem dX7_slopeFor_77 : decode cX7_slopeFor 77 = .ok (.ifnull 15, 3) := by decide +kernel
theorem dX7_slopeFor_80 : decode cX7_slopeFor 80 = .ok (.aload 5, 2) := by decide +kernel
theorem dX7_slopeFor_82 : decode cX7_slopeFor 82 = .ok (.getfield 248, 3) := by decide +kernel
theorem dX7_slopeFor_85 : decode cX7_slopeFor 85 = .ok (.aload_n 3, 1) := by decide +kernel
theorem dX7_slopeFor_86 : decode cX7_slopeFor 86 = .ok (.getfield 248, 3) := by decide +kernel
theorem dX7_slopeFor_89 : decode cX7_slopeFor 89 = .ok (.if_icmp .le 6, 3) := by decide +kernel
theorem dX7_slopeFor_92 : decode cX7_slopeFor 92 = .ok (.aload 5, 2) := by decide +kernel
theorem dX7_slopeFor_94 : decode cX7_slopeFor 94 = .ok (.astore_n 3, 1) := by decide +kernel
theorem dX7_slopeFor_95 : decode cX7_slopeFor 95 = .ok (.iinc 4 1, 3) := by decide +kernel
theorem dX7_slopeFor_98 : decode cX7_slopeFor 98 = .ok (.goto (-93), 3) := by decide +kernel
theorem dX7_slopeFor_101 : decode cX7_slopeFor 101 = .ok (.aload_n 3, 1) := by decide +kernel
theorem dX7_slopeFor_102 : decode cX7_slopeFor 102 = .ok (.areturn, 1) := by decide +kernel
theorem dX7_liftFor_0 : decode cX7_liftFor 0 = .ok (.aconst_null, 1) := by decide +kernel
theorem dX7_liftFor_1 : decode cX7_liftFor 1 = .ok (.astore_n 2, 1) := by decide +kernel
theorem dX7_liftFor_2 : decode cX7_liftFor 2 = .ok (.iconst 0, 1) := by decide +kernel
theorem dX7_liftFor_3 : decode cX7_liftFor 3 = .ok (.istore_n 3, 1) := by decide +kernel
theorem dX7_liftFor_4 : decode cX7_liftFor 4 = .ok (.iload_n 3, 1) := by decide +kernel
theorem dX7_liftFor_5 : decode cX7_liftFor 5 = .ok (.aload_n 0, 1) := by decide +kernel
theorem dX7_liftFor_6 : decode cX7_liftFor 6 = .ok (.getfield 12, 3) := by decide +kernel
theorem dX7_liftFor_9 : decode cX7_liftFor 9 = .ok (.invokevirtual 57, 3) := by decide +kernel
theorem dX7_liftFor_12 : decode cX7_liftFor 12 = .ok (.if_icmp .ge 74, 3) := by decide +kernel
theorem dX7_liftFor_15 : decode cX7_liftFor 15 = .ok (.aload_n 0, 1) := by decide +kernel
theorem dX7_liftFor_16 : decode cX7_liftFor 16 = .ok (.getfield 12, 3) := by decide +kernel
theorem dX7_liftFor_19 : decode cX7_liftFor 19 = .ok (.iload_n 3, 1) := by decide +kernel
theorem dX7_liftFor_20 : decode cX7_liftFor 20 = .ok (.invokevirtual 154, 3) := by decide +kernel
theorem dX7_liftFor_23 : decode cX7_liftFor 23 = .ok (.checkcast 65, 3) := by decide +kernel
theorem dX7_liftFor_26 : decode cX7_liftFor 26 = .ok (.astore 4, 2) := by decide +kernel
theorem dX7_liftFor_28 : decode cX7_liftFor 28 = .ok (.aload 4, 2) := by decide +kernel
theorem dX7_liftFor_30 : decode cX7_liftFor 30 = .ok (.getfield 254, 3) := by decide +kernel
theorem dX7_liftFor_33 : decode cX7_liftFor 33 = .ok (.aload_n 1, 1) := by decide +kernel
theorem dX7_liftFor_34 : decode cX7_liftFor 34 = .ok (.getfield 245, 3) := by decide +kernel
theorem dX7_liftFor_37 : decode cX7_liftFor 37 = .ok (.if_icmp .ne 16, 3) := by decide +kernel
theorem dX7_liftFor_40 : decode cX7_liftFor 40 = .ok (.aload_n 0, 1) := by decide +kernel
theorem dX7_liftFor_41 : decode cX7_liftFor 41 = .ok (.aload 4, 2) := by decide +kernel
theorem dX7_liftFor_43 : decode cX7_liftFor 43 = .ok (.invokevirtual 95, 3) := by decide +kernel
theorem dX7_liftFor_46 : decode cX7_liftFor 46 = .ok (.ifCond .eq 7, 3) := by decide +kernel
theorem dX7_liftFor_49 : decode cX7_liftFor 49 = .ok (.iconst 1, 1) := by decide +kernel
theorem dX7_liftFor_50 : decode cX7_liftFor 50 = .ok (.goto 4, 3) := by decide +kernel
theorem dX7_liftFor_53 : decode cX7_liftFor 53 = .ok (.iconst 0, 1) := by decide +kernel
theorem dX7_liftFor_54 : decode cX7_liftFor 54 = .ok (.istore 5, 2) := by decide +kernel
theorem dX7_liftFor_56 : decode cX7_liftFor 56 = .ok (.iload 5, 2) := by decide +kernel
theorem dX7_liftFor_58 : decode cX7_liftFor 58 = .ok (.ifCond .eq 22, 3) := by decide +kernel
theorem dX7_liftFor_61 : decode cX7_liftFor 61 = .ok (.aload_n 2, 1) := by decide +kernel
theorem dX7_liftFor_62 : decode cX7_liftFor 62 = .ok (.ifnull 15, 3) := by decide +kernel
theorem dX7_liftFor_65 : decode cX7_liftFor 65 = .ok (.aload 4, 2) := by decide +kernel
theorem dX7_liftFor_67 : decode cX7_liftFor 67 = .ok (.getfield 255, 3) := by decide +kernel
theorem dX7_liftFor_70 : decode cX7_liftFor 70 = .ok (.aload_n 2, 1) := by decide +kernel
theorem dX7_liftFor_71 : decode cX7_liftFor 71 = .ok (.getfield 255, 3) := by decide +kernel
theorem dX7_liftFor_74 : decode cX7_liftFor 74 = .ok (.if_icmp .ge 6, 3) := by decide +kernel
theorem dX7_liftFor_77 : decode cX7_liftFor 77 = .ok (.aload 4, 2) := by decide +kernel
theorem dX7_liftFor_79 : decode cX7_liftFor 79 = .ok (.astore_n 2, 1) := by decide +kernel
theorem dX7_liftFor_80 : decode cX7_liftFor 80 = .ok (.iinc 3 1, 3) := by decide +kernel
theorem dX7_liftFor_83 : decode cX7_liftFor 83 = .ok (.goto (-79), 3) := by decide +kernel
theorem dX7_liftFor_86 : decode cX7_liftFor 86 = .ok (.aload_n 2, 1) := by decide +kernel
theorem dX7_liftFor_87 : decode cX7_liftFor 87 = .ok (.areturn, 1) := by decide +kernel
theorem dX7_look_0 : decode cX7_look 0 = .ok (.iload_n 1, 1) := by decide +kernel
theorem dX7_look_1 : decode cX7_look 1 = .ok (.ifCond .lt 14, 3) := by decide +kernel
theorem dX7_look_4 : decode cX7_look 4 = .ok (.iload_n 1, 1) := by decide +kernel
theorem dX7_look_5 : decode cX7_look 5 = .ok (.aload_n 0, 1) := by decide +kernel
theorem dX7_look_6 : decode cX7_look 6 = .ok (.getfield 22, 3) := by decide +kernel
theorem dX7_look_9 : decode cX7_look 9 = .ok (.invokevirtual 57, 3) := by decide +kernel
theorem dX7_look_12 : decode cX7_look 12 = .ok (.if_icmp .lt 11, 3) := by decide +kernel
theorem dX7_look_15 : decode cX7_look 15 = .ok (.new 258, 3) := by decide +kernel
theorem dX7_look_18 : decode cX7_look 18 = .ok (.dup, 1) := by decide +kernel
theorem dX7_look_19 : decode cX7_look 19 = .ok (.invokespecial 260, 3) := by decide +kernel
theorem dX7_look_22 : decode cX7_look 22 = .ok (.athrow, 1) := by decide +kernel
theorem dX7_look_23 : decode cX7_look 23 = .ok (.aload_n 0, 1) := by decide +kernel
theorem dX7_look_24 : decode cX7_look 24 = .ok (.getfield 22, 3) := by decide +kernel
theorem dX7_look_27 : decode cX7_look 27 = .ok (.iload_n 1, 1) := by decide +kernel
theorem dX7_look_28 : decode cX7_look 28 = .ok (.invokevirtual 154, 3) := by decide +kernel
theorem dX7_look_31 : decode cX7_look 31 = .ok (.checkcast 190, 3) := by decide +kernel
theorem dX7_look_34 : decode cX7_look 34 = .ok (.astore_n 3, 1) := by decide +kernel
theorem dX7_look_35 : decode cX7_look 35 = .ok (.iload_n 2, 1) := by decide +kernel
theorem dX7_look_36 : decode cX7_look 36 = .ok (.tableswitch 61 0 4 #[36, 41, 46, 51, 56], 36) := by decide +kernel
theorem dX7_look_72 : decode cX7_look 72 = .ok (.aload_n 3, 1) := by decide +kernel
theorem dX7_look_73 : decode cX7_look 73 = .ok (.getfield 201, 3) := by decide +kernel
theorem dX7_look_76 : decode cX7_look 76 = .ok (.ireturn, 1) := by decide +kernel
theorem dX7_look_77 : decode cX7_look 77 = .ok (.aload_n 3, 1) := by decide +kernel
theorem dX7_look_78 : decode cX7_look 78 = .ok (.getfield 245, 3) := by decide +kernel
theorem dX7_look_81 : decode cX7_look 81 = .ok (.ireturn, 1) := by decide +kernel
theorem dX7_look_82 : decode cX7_look 82 = .ok (.aload_n 3, 1) := by decide +kernel
theorem dX7_look_83 : decode cX7_look 83 = .ok (.getfield 261, 3) := by decide +kernel
theorem dX7_look_86 : decode cX7_look 86 = .ok (.ireturn, 1) := by decide +kernel
theorem dX7_look_87 : decode cX7_look 87 = .ok (.aload_n 3, 1) := by decide +kernel
theorem dX7_look_88 : decode cX7_look 88 = .ok (.getfield 264, 3) := by decide +kernel
theorem dX7_look_91 : decode cX7_look 91 = .ok (.ireturn, 1) := by decide +kernel
theorem dX7_look_92 : decode cX7_look 92 = .ok (.aload_n 3, 1) := by decide +kernel
theorem dX7_look_93 : decode cX7_look 93 = .ok (.getfield 267, 3) := by decide +kernel
theorem dX7_look_96 : decode cX7_look 96 = .ok (.ireturn, 1) := by decide +kernel
theorem dX7_look_97 : decode cX7_look 97 = .ok (.new 270, 3) := by decide +kernel
theorem dX7_look_100 : decode cX7_look 100 = .ok (.dup, 1) := by decide +kernel
theorem dX7_look_101 : decode cX7_look 101 = .ok (.invokespecial 272, 3) := by decide +kernel
theorem dX7_look_104 : decode cX7_look 104 = .ok (.athrow, 1) := by decide +kernel
theorem dX7_row_0 : decode cX7_row 0 = .ok (.aload_n 0, 1) := by decide +kernel
theorem dX7_row_1 : decode cX7_row 1 = .ok (.iload_n 1, 1) := by decide +kernel
theorem dX7_row_2 : decode cX7_row 2 = .ok (.invokevirtual 91, 3) := by decide +kernel
theorem dX7_row_5 : decode cX7_row 5 = .ok (.astore_n 3, 1) := by decide +kernel
theorem dX7_row_6 : decode cX7_row 6 = .ok (.iload_n 2, 1) := by decide +kernel
theorem dX7_row_7 : decode cX7_row 7 = .ok (.ifCond .lt 14, 3) := by decide +kernel
theorem dX7_row_10 : decode cX7_row 10 = .ok (.iload_n 2, 1) := by decide +kernel
theorem dX7_row_11 : decode cX7_row 11 = .ok (.aload_n 3, 1) := by decide +kernel
theorem dX7_row_12 : decode cX7_row 12 = .ok (.getfield 273, 3) := by decide +kernel
theorem dX7_row_15 : decode cX7_row 15 = .ok (.invokevirtual 57, 3) := by decide +kernel
theorem dX7_row_18 : decode cX7_row 18 = .ok (.if_icmp .lt 5, 3) := by decide +kernel
theorem dX7_row_21 : decode cX7_row 21 = .ok (.iconst (-1), 1) := by decide +kernel
theorem dX7_row_22 : decode cX7_row 22 = .ok (.ireturn, 1) := by decide +kernel
theorem dX7_row_23 : decode cX7_row 23 = .ok (.aload_n 3, 1) := by decide +kernel
theorem dX7_row_24 : decode cX7_row 24 = .ok (.getfield 273, 3) := by decide +kernel
theorem dX7_row_27 : decode cX7_row 27 = .ok (.iload_n 2, 1) := by decide +kernel
theorem dX7_row_28 : decode cX7_row 28 = .ok (.invokevirtual 154, 3) := by decide +kernel
theorem dX7_row_31 : decode cX7_row 31 = .ok (.checkcast 190, 3) := by decide +kernel
theorem dX7_row_34 : decode cX7_row 34 = .ok (.getfield 276, 3) := by decide +kernel
theorem dX7_row_37 : decode cX7_row 37 = .ok (.ireturn, 1) := by decide +kernel
theorem dX7_people_0 : decode cX7_people 0 = .ok (.iload_n 1, 1) := by decide +kernel
theorem dX7_people_1 : decode cX7_people 1 = .ok (.ifCond .lt 8, 3) := by decide +kernel
theorem dX7_people_4 : decode cX7_people 4 = .ok (.iload_n 1, 1) := by decide +kernel
theorem dX7_people_5 : decode cX7_people 5 = .ok (.iconst 3, 1) := by decide +kernel
theorem dX7_people_6 : decode cX7_people 6 = .ok (.if_icmp .le 5, 3) := by decide +kernel
theorem dX7_people_9 : decode cX7_people 9 = .ok (.iconst (-1), 1) := by decide +kernel
theorem dX7_people_10 : decode cX7_people 10 = .ok (.ireturn, 1) := by decide +kernel
theorem dX7_people_11 : decode cX7_people 11 = .ok (.iconst 0, 1) := by decide +kernel
theorem dX7_people_12 : decode cX7_people 12 = .ok (.istore_n 2, 1) := by decide +kernel
theorem dX7_people_13 : decode cX7_people 13 = .ok (.iconst 0, 1) := by decide +kernel
theorem dX7_people_14 : decode cX7_people 14 = .ok (.istore_n 3, 1) := by decide +kernel
theorem dX7_people_15 : decode cX7_people 15 = .ok (.iload_n 3, 1) := by decide +kernel
theorem dX7_people_16 : decode cX7_people 16 = .ok (.aload_n 0, 1) := by decide +kernel
theorem dX7_people_17 : decode cX7_people 17 = .ok (.getfield 22, 3) := by decide +kernel
theorem dX7_people_20 : decode cX7_people 20 = .ok (.invokevirtual 57, 3) := by decide +kernel
theorem dX7_people_23 : decode cX7_people 23 = .ok (.if_icmp .ge 44, 3) := by decide +kernel
theorem dX7_people_26 : decode cX7_people 26 = .ok (.aload_n 0, 1) := by decide +kernel
theorem dX7_people_27 : decode cX7_people 27 = .ok (.getfield 22, 3) := by decide +kernel
theorem dX7_people_30 : decode cX7_people 30 = .ok (.iload_n 3, 1) := by decide +kernel
theorem dX7_people_31 : decode cX7_people 31 = .ok (.invokevirtual 154, 3) := by decide +kernel
theorem dX7_people_34 : decode cX7_people 34 = .ok (.checkcast 190, 3) := by decide +kernel
theorem dX7_people_37 : decode cX7_people 37 = .ok (.getfield 201, 3) := by decide +kernel
theorem dX7_people_40 : decode cX7_people 40 = .ok (.iload_n 1, 1) := by decide +kernel
theorem dX7_people_41 : decode cX7_people 41 = .ok (.if_icmp .ne 20, 3) := by decide +kernel
theorem dX7_people_44 : decode cX7_people 44 = .ok (.iload_n 2, 1) := by decide +kernel
theorem dX7_people_45 : decode cX7_people 45 = .ok (.aload_n 0, 1) := by decide +kernel
theorem dX7_people_46 : decode cX7_people 46 = .ok (.getfield 22, 3) := by decide +kernel
theorem dX7_people_49 : decode cX7_people 49 = .ok (.iload_n 3, 1) := by decide +kernel
theorem dX7_people_50 : decode cX7_people 50 = .ok (.invokevirtual 154, 3) := by decide +kernel
theorem dX7_people_53 : decode cX7_people 53 = .ok (.checkcast 190, 3) := by decide +kernel
theorem dX7_people_56 : decode cX7_people 56 = .ok (.getfield 225, 3) := by decide +kernel
theorem dX7_people_59 : decode cX7_people 59 = .ok (.iadd, 1) := by decide +kernel
theorem dX7_people_60 : decode cX7_people 60 = .ok (.istore_n 2, 1) := by decide +kernel
theorem dX7_people_61 : decode cX7_people 61 = .ok (.iinc 3 1, 3) := by decide +kernel
theorem dX7_people_64 : decode cX7_people 64 = .ok (.goto (-49), 3) := by decide +kernel
theorem dX7_people_67 : decode cX7_people 67 = .ok (.iload_n 2, 1) := by decide +kernel
theorem dX7_people_68 : decode cX7_people 68 = .ok (.ireturn, 1) := by decide +kernel
theorem dX7_snow_0 : decode cX7_snow 0 = .ok (.aload_n 0, 1) := by decide +kernel
theorem dX7_snow_1 : decode cX7_snow 1 = .ok (.iload_n 1, 1) := by decide +kernel
theorem dX7_snow_2 : decode cX7_snow 2 = .ok (.invokevirtual 277, 3) := by decide +kernel
theorem dX7_snow_5 : decode cX7_snow 5 = .ok (.astore 4, 2) := by decide +kernel
theorem dX7_snow_7 : decode cX7_snow 7 = .ok (.iload_n 3, 1) := by decide +kernel
theorem dX7_snow_8 : decode cX7_snow 8 = .ok (.iconst 0, 1) := by decide +kernel
theorem dX7_snow_9 : decode cX7_snow 9 = .ok (.ldc_w 281, 3) := by decide +kernel
theorem dX7_snow_12 : decode cX7_snow 12 = .ok (.invokestatic 53, 3) := by decide +kernel
theorem dX7_snow_15 : decode cX7_snow 15 = .ok (.iload_n 2, 1) := by decide +kernel
theorem dX7_snow_16 : decode cX7_snow 16 = .ok (.ifCond .eq 28, 3) := by decide +kernel
theorem dX7_snow_19 : decode cX7_snow 19 = .ok (.aload_n 0, 1) := by decide +kernel
theorem dX7_snow_20 : decode cX7_snow 20 = .ok (.dup, 1) := by decide +kernel
theorem dX7_snow_21 : decode cX7_snow 21 = .ok (.getfield 282, 3) := by decide +kernel
theorem dX7_snow_24 : decode cX7_snow 24 = .ok (.iload_n 3, 1) := by decide +kernel
theorem dX7_snow_25 : decode cX7_snow 25 = .ok (.i2l, 1) := by decide +kernel
theorem dX7_snow_26 : decode cX7_snow 26 = .ok (.ladd, 1) := by decide +kernel
theorem dX7_snow_27 : decode cX7_snow 27 = .ok (.putfield 282, 3) := by decide +kernel
theorem dX7_snow_30 : decode cX7_snow 30 = .ok (.aload 4, 2) := by decide +kernel
theorem dX7_snow_32 : decode cX7_snow 32 = .ok (.getfield 285, 3) := by decide +kernel
theorem dX7_snow_35 : decode cX7_snow 35 = .ok (.iconst 1, 1) := by decide +kernel
theorem dX7_snow_36 : decode cX7_snow 36 = .ok (.dup2, 1) := by decide +kernel
theorem dX7_snow_37 : decode cX7_snow 37 = .ok (.iaload, 1) := by decide +kernel
theorem dX7_snow_38 : decode cX7_snow 38 = .ok (.iload_n 3, 1) := by decide +kernel
theorem dX7_snow_39 : decode cX7_snow 39 = .ok (.iadd, 1) := by decide +kernel
theorem dX7_snow_40 : decode cX7_snow 40 = .ok (.iastore, 1) := by decide +kernel
theorem dX7_snow_41 : decode cX7_snow 41 = .ok (.goto 25, 3) := by decide +kernel
theorem dX7_snow_44 : decode cX7_snow 44 = .ok (.aload_n 0, 1) := by decide +kernel
theorem dX7_snow_45 : decode cX7_snow 45 = .ok (.dup, 1) := by decide +kernel
theorem dX7_snow_46 : decode cX7_snow 46 = .ok (.getfield 288, 3) := by decide +kernel
theorem dX7_snow_49 : decode cX7_snow 49 = .ok (.iload_n 3, 1) := by decide +kernel
theorem dX7_snow_50 : decode cX7_snow 50 = .ok (.i2l, 1) := by decide +kernel
theorem dX7_snow_51 : decode cX7_snow 51 = .ok (.ladd, 1) := by decide +kernel
theorem dX7_snow_52 : decode cX7_snow 52 = .ok (.putfield 288, 3) := by decide +kernel
theorem dX7_snow_55 : decode cX7_snow 55 = .ok (.aload 4, 2) := by decide +kernel
theorem dX7_snow_57 : decode cX7_snow 57 = .ok (.getfield 285, 3) := by decide +kernel
theorem dX7_snow_60 : decode cX7_snow 60 = .ok (.iconst 0, 1) := by decide +kernel
theorem dX7_snow_61 : decode cX7_snow 61 = .ok (.dup2, 1) := by decide +kernel
theorem dX7_snow_62 : decode cX7_snow 62 = .ok (.iaload, 1) := by decide +kernel
theorem dX7_snow_63 : decode cX7_snow 63 = .ok (.iload_n 3, 1) := by decide +kernel
theorem dX7_snow_64 : decode cX7_snow 64 = .ok (.iadd, 1) := by decide +kernel
theorem dX7_snow_65 : decode cX7_snow 65 = .ok (.iastore, 1) := by decide +kernel
theorem dX7_snow_66 : decode cX7_snow 66 = .ok (.aload 4, 2) := by decide +kernel
theorem dX7_snow_68 : decode cX7_snow 68 = .ok (.invokevirtual 291, 3) := by decide +kernel
theorem dX7_snow_71 : decode cX7_snow 71 = .ok (.ireturn, 1) := by decide +kernel
theorem dX7_melt_0 : decode cX7_melt 0 = .ok (.aload_n 0, 1) := by decide +kernel
theorem dX7_melt_1 : decode cX7_melt 1 = .ok (.iload_n 1, 1) := by decide +kernel
theorem dX7_melt_2 : decode cX7_melt 2 = .ok (.invokevirtual 277, 3) := by decide +kernel
theorem dX7_melt_5 : decode cX7_melt 5 = .ok (.astore_n 3, 1) := by decide +kernel
theorem dX7_melt_6 : decode cX7_melt 6 = .ok (.iload_n 2, 1) := by decide +kernel
theorem dX7_melt_7 : decode cX7_melt 7 = .ok (.iconst 0, 1) := by decide +kernel
theorem dX7_melt_8 : decode cX7_melt 8 = .ok (.ldc_w 294, 3) := by decide +kernel
theorem dX7_melt_11 : decode cX7_melt 11 = .ok (.invokestatic 53, 3) := by decide +kernel
theorem dX7_melt_14 : decode cX7_melt 14 = .ok (.aload_n 3, 1) := by decide +kernel
theorem dX7_melt_15 : decode cX7_melt 15 = .ok (.iload_n 2, 1) := by decide +kernel
theorem dX7_melt_16 : decode cX7_melt 16 = .ok (.invokevirtual 295, 3) := by decide +kernel
theorem dX7_melt_19 : decode cX7_melt 19 = .ok (.istore 4, 2) := by decide +kernel
theorem dX7_melt_21 : decode cX7_melt 21 = .ok (.aload_n 0, 1) := by decide +kernel
theorem dX7_melt_22 : decode cX7_melt 22 = .ok (.dup, 1) := by decide +kernel
theorem dX7_melt_23 : decode cX7_melt 23 = .ok (.getfield 298, 3) := by decide +kernel
theorem dX7_melt_26 : decode cX7_melt 26 = .ok (.iload 4, 2) := by decide +kernel
theorem dX7_melt_28 : decode cX7_melt 28 = .ok (.i2l, 1) := by decide +kernel
theorem dX7_melt_29 : decode cX7_melt 29 = .ok (.ladd, 1) := by decide +kernel
theorem dX7_melt_30 : decode cX7_melt 30 = .ok (.putfield 298, 3) := by decide +kernel
theorem dX7_melt_33 : decode cX7_melt 33 = .ok (.iload 4, 2) := by decide +kernel
theorem dX7_melt_35 : decode cX7_melt 35 = .ok (.ireturn, 1) := by decide +kernel
theorem dX7_push_0 : decode cX7_push 0 = .ok (.aload_n 0, 1) := by decide +kernel
theorem dX7_push_1 : decode cX7_push 1 = .ok (.iload_n 1, 1) := by decide +kernel
theorem dX7_push_2 : decode cX7_push 2 = .ok (.invokevirtual 277, 3) := by decide +kernel
theorem dX7_push_5 : decode cX7_push 5 = .ok (.invokevirtual 301, 3) := by decide +kernel
theorem dX7_push_8 : decode cX7_push 8 = .ok (.ireturn, 1) := by decide +kernel
theorem dX7_cell_0 : decode cX7_cell 0 = .ok (.aload_n 0, 1) := by decide +kernel
theorem dX7_cell_1 : decode cX7_cell 1 = .ok (.iload_n 1, 1) := by decide +kernel
theorem dX7_cell_2 : decode cX7_cell 2 = .ok (.invokevirtual 277, 3) := by decide +kernel
theorem dX7_cell_5 : decode cX7_cell 5 = .ok (.astore_n 3, 1) := by decide +kernel
theorem dX7_cell_6 : decode cX7_cell 6 = .ok (.iload_n 2, 1) := by decide +kernel
theorem dX7_cell_7 : decode cX7_cell 7 = .ok (.ifCond .lt 15, 3) := by decide +kernel
theorem dX7_cell_10 : decode cX7_cell 10 = .ok (.iload_n 2, 1) := by decide +kernel
theorem dX7_cell_11 : decode cX7_cell 11 = .ok (.iconst 4, 1) := by decide +kernel
theorem dX7_cell_12 : decode cX7_cell 12 = .ok (.if_icmp .ge 10, 3) := by decide +kernel
theorem dX7_cell_15 : decode cX7_cell 15 = .ok (.aload_n 3, 1) := by decide +kernel
theorem dX7_cell_16 : decode cX7_cell 16 = .ok (.getfield 285, 3) := by decide +kernel
theorem dX7_cell_19 : decode cX7_cell 19 = .ok (.iload_n 2, 1) := by decide +kernel
theorem dX7_cell_20 : decode cX7_cell 20 = .ok (.iaload, 1) := by decide +kernel
theorem dX7_cell_21 : decode cX7_cell 21 = .ok (.ireturn, 1) := by decide +kernel
theorem dX7_cell_22 : decode cX7_cell 22 = .ok (.iload_n 2, 1) := by decide +kernel
theorem dX7_cell_23 : decode cX7_cell 23 = .ok (.tableswitch 49 4 7 #[29, 34, 39, 44], 29) := by decide +kernel
theorem dX7_cell_52 : decode cX7_cell 52 = .ok (.aload_n 3, 1) := by decide +kernel
theorem dX7_cell_53 : decode cX7_cell 53 = .ok (.invokevirtual 291, 3) := by decide +kernel
theorem dX7_cell_56 : decode cX7_cell 56 = .ok (.ireturn, 1) := by decide +kernel
theorem dX7_cell_57 : decode cX7_cell 57 = .ok (.aload_n 3, 1) := by decide +kernel
theorem dX7_cell_58 : decode cX7_cell 58 = .ok (.getfield 304, 3) := by decide +kernel
theorem dX7_cell_61 : decode cX7_cell 61 = .ok (.ireturn, 1) := by decide +kernel
theorem dX7_cell_62 : decode cX7_cell 62 = .ok (.aload_n 3, 1) := by decide +kernel
theorem dX7_cell_63 : decode cX7_cell 63 = .ok (.getfield 307, 3) := by decide +kernel
theorem dX7_cell_66 : decode cX7_cell 66 = .ok (.ireturn, 1) := by decide +kernel
theorem dX7_cell_67 : decode cX7_cell 67 = .ok (.aload_n 3, 1) := by decide +kernel
theorem dX7_cell_68 : decode cX7_cell 68 = .ok (.getfield 310, 3) := by decide +kernel
theorem dX7_cell_71 : decode cX7_cell 71 = .ok (.ireturn, 1) := by decide +kernel
theorem dX7_cell_72 : decode cX7_cell 72 = .ok (.new 270, 3) := by decide +kernel
theorem dX7_cell_75 : decode cX7_cell 75 = .ok (.dup, 1) := by decide +kernel
theorem dX7_cell_76 : decode cX7_cell 76 = .ok (.invokespecial 272, 3) := by decide +kernel
theorem dX7_cell_79 : decode cX7_cell 79 = .ok (.athrow, 1) := by decide +kernel
theorem dX7_link_0 : decode cX7_link 0 = .ok (.aload_n 0, 1) := by decide +kernel
theorem dX7_link_1 : decode cX7_link 1 = .ok (.iload_n 1, 1) := by decide +kernel
theorem dX7_link_2 : decode cX7_link 2 = .ok (.invokevirtual 277, 3) := by decide +kernel
theorem dX7_link_5 : decode cX7_link 5 = .ok (.astore 4, 2) := by decide +kernel
theorem dX7_link_7 : decode cX7_link 7 = .ok (.aload_n 0, 1) := by decide +kernel
theorem dX7_link_8 : decode cX7_link 8 = .ok (.iload_n 2, 1) := by decide +kernel
theorem dX7_link_9 : decode cX7_link 9 = .ok (.invokevirtual 277, 3) := by decide +kernel
theorem dX7_link_12 : decode cX7_link 12 = .ok (.astore 5, 2) := by decide +kernel
theorem dX7_link_14 : decode cX7_link 14 = .ok (.iload_n 1, 1) := by decide +kernel
theorem dX7_link_15 : decode cX7_link 15 = .ok (.iload_n 2, 1) := by decide +kernel
theorem dX7_link_16 : decode cX7_link 16 = .ok (.if_icmp .ne 11, 3) := by decide +kernel
theorem dX7_link_19 : decode cX7_link 19 = .ok (.new 123, 3) := by decide +kernel
theorem dX7_link_22 : decode cX7_link 22 = .ok (.dup, 1) := by decide +kernel
theorem dX7_link_23 : decode cX7_link 23 = .ok (.invokespecial 125, 3) := by decide +kernel
theorem dX7_link_26 : decode cX7_link 26 = .ok (.athrow, 1) := by decide +kernel
theorem dX7_link_27 : decode cX7_link 27 = .ok (.iload_n 3, 1) := by decide +kernel
theorem dX7_link_28 : decode cX7_link 28 = .ok (.iconst 1, 1) := by decide +kernel
theorem dX7_link_29 : decode cX7_link 29 = .ok (.bipush 100, 2) := by decide +kernel
theorem dX7_link_31 : decode cX7_link 31 = .ok (.invokestatic 53, 3) := by decide +kernel
theorem dX7_link_34 : decode cX7_link 34 = .ok (.aload_n 0, 1) := by decide +kernel
theorem dX7_link_35 : decode cX7_link 35 = .ok (.getfield 25, 3) := by decide +kernel
theorem dX7_link_38 : decode cX7_link 38 = .ok (.invokevirtual 57, 3) := by decide +kernel
theorem dX7_link_41 : decode cX7_link 41 = .ok (.bipush 80, 2) := by decide +kernel
theorem dX7_link_43 : decode cX7_link 43 = .ok (.invokestatic 61, 3) := by decide +kernel
theorem dX7_link_46 : decode cX7_link 46 = .ok (.aload_n 0, 1) := by decide +kernel
theorem dX7_link_47 : decode cX7_link 47 = .ok (.getfield 25, 3) := by decide +kernel
theorem dX7_link_50 : decode cX7_link 50 = .ok (.new 313, 3) := by decide +kernel
theorem dX7_link_53 : decode cX7_link 53 = .ok (.dup, 1) := by decide +kernel
theorem dX7_link_54 : decode cX7_link 54 = .ok (.aload 4, 2) := by decide +kernel
theorem dX7_link_56 : decode cX7_link 56 = .ok (.aload 5, 2) := by decide +kernel
theorem dX7_link_58 : decode cX7_link 58 = .ok (.iload_n 3, 1) := by decide +kernel
theorem dX7_link_59 : decode cX7_link 59 = .ok (.invokespecial 315, 3) := by decide +kernel
theorem dX7_link_62 : decode cX7_link 62 = .ok (.invokevirtual 70, 3) := by decide +kernel
theorem dX7_link_65 : decode cX7_link 65 = .ok (.pop, 1) := by decide +kernel
theorem dX7_link_66 : decode cX7_link 66 = .ok (.aload_n 0, 1) := by decide +kernel
theorem dX7_link_67 : decode cX7_link 67 = .ok (.getfield 25, 3) := by decide +kernel
theorem dX7_link_70 : decode cX7_link 70 = .ok (.invokevirtual 57, 3) := by decide +kernel
theorem dX7_link_73 : decode cX7_link 73 = .ok (.ireturn, 1) := by decide +kernel
theorem dX7_want_0 : decode cX7_want 0 = .ok (.aload_n 0, 1) := by decide +kernel
theorem dX7_want_1 : decode cX7_want 1 = .ok (.iload_n 1, 1) := by decide +kernel
theorem dX7_want_2 : decode cX7_want 2 = .ok (.invokevirtual 277, 3) := by decide +kernel
theorem dX7_want_5 : decode cX7_want 5 = .ok (.astore_n 3, 1) := by decide +kernel
theorem dX7_want_6 : decode cX7_want 6 = .ok (.iload_n 2, 1) := by decide +kernel
theorem dX7_want_7 : decode cX7_want 7 = .ok (.iconst 0, 1) := by decide +kernel
theorem dX7_want_8 : decode cX7_want 8 = .ok (.ldc_w 294, 3) := by decide +kernel
theorem dX7_want_11 : decode cX7_want 11 = .ok (.invokestatic 53, 3) := by decide +kernel
theorem dX7_want_14 : decode cX7_want 14 = .ok (.aload_n 3, 1) := by decide +kernel
theorem dX7_want_15 : decode cX7_want 15 = .ok (.iload_n 2, 1) := by decide +kernel
theorem dX7_want_16 : decode cX7_want 16 = .ok (.putfield 307, 3) := by decide +kernel
theorem dX7_want_19 : decode cX7_want 19 = .ok (.return_, 1) := by decide +kernel
theorem dX7_least_0 : decode cX7_least 0 = .ok (.aload_n 0, 1) := by decide +kernel
theorem dX7_least_1 : decode cX7_least 1 = .ok (.getfield 19, 3) := by decide +kernel
theorem dX7_least_4 : decode cX7_least 4 = .ok (.aload_n 0, 1) := by decide +kernel
theorem dX7_least_5 : decode cX7_least 5 = .ok (.getfield 25, 3) := by decide +kernel
theorem dX7_least_8 : decode cX7_least 8 = .ok (.invokestatic 318, 3) := by decide +kernel
theorem dX7_least_11 : decode cX7_least 11 = .ok (.lreturn, 1) := by decide +kernel
theorem dX7_price_0 : decode cX7_price 0 = .ok (.aload_n 0, 1) := by decide +kernel
theorem dX7_price_1 : decode cX7_price 1 = .ok (.iload_n 1, 1) := by decide +kernel
theorem dX7_price_2 : decode cX7_price 2 = .ok (.invokevirtual 277, 3) := by decide +kernel
theorem dX7_price_5 : decode cX7_price 5 = .ok (.astore_n 3, 1) := by decide +kernel
theorem dX7_price_6 : decode cX7_price 6 = .ok (.iload_n 2, 1) := by decide +kernel
theorem dX7_price_7 : decode cX7_price 7 = .ok (.sipush (-10000), 3) := by decide +kernel
theorem dX7_price_10 : decode cX7_price 10 = .ok (.sipush 10000, 3) := by decide +kernel
theorem dX7_price_13 : decode cX7_price 13 = .ok (.invokestatic 53, 3) := by decide +kernel
theorem dX7_price_16 : decode cX7_price 16 = .ok (.aload_n 3, 1) := by decide +kernel
theorem dX7_price_17 : decode cX7_price 17 = .ok (.iload_n 2, 1) := by decide +kernel
theorem dX7_price_18 : decode cX7_price 18 = .ok (.putfield 310, 3) := by decide +kernel
theorem dX7_price_21 : decode cX7_price 21 = .ok (.return_, 1) := by decide +kernel
theorem dX7_judge_0 : decode cX7_judge 0 = .ok (.iconst 0, 1) := by decide +kernel
theorem dX7_judge_1 : decode cX7_judge 1 = .ok (.istore_n 1, 1) := by decide +kernel
theorem dX7_judge_2 : decode cX7_judge 2 = .ok (.iload_n 1, 1) := by decide +kernel
theorem dX7_judge_3 : decode cX7_judge 3 = .ok (.aload_n 0, 1) := by decide +kernel
theorem dX7_judge_4 : decode cX7_judge 4 = .ok (.getfield 25, 3) := by decide +kernel
theorem dX7_judge_7 : decode cX7_judge 7 = .ok (.invokevirtual 57, 3) := by decide +kernel
theorem dX7_judge_10 : decode cX7_judge 10 = .ok (.if_icmp .ge 34, 3) := by decide +kernel
theorem dX7_judge_13 : decode cX7_judge 13 = .ok (.aload_n 0, 1) := by decide +kernel
theorem dX7_judge_14 : decode cX7_judge 14 = .ok (.getfield 25, 3) := by decide +kernel
theorem dX7_judge_17 : decode cX7_judge 17 = .ok (.iload_n 1, 1) := by decide +kernel
theorem dX7_judge_18 : decode cX7_judge 18 = .ok (.invokevirtual 154, 3) := by decide +kernel
theorem dX7_judge_21 : decode cX7_judge 21 = .ok (.checkcast 313, 3) := by decide +kernel
theorem dX7_judge_24 : decode cX7_judge 24 = .ok (.invokevirtual 324, 3) := by decide +kernel
theorem dX7_judge_27 : decode cX7_judge 27 = .ok (.ifCond .ne 11, 3) := by decide +kernel
theorem dX7_judge_30 : decode cX7_judge 30 = .ok (.new 133, 3) := by decide +kernel
theorem dX7_judge_33 : decode cX7_judge 33 = .ok (.dup, 1) := by decide +kernel
theorem dX7_judge_34 : decode cX7_judge 34 = .ok (.invokespecial 135, 3) := by decide +kernel
theorem dX7_judge_37 : decode cX7_judge 37 = .ok (.athrow, 1) := by decide +kernel
theorem dX7_judge_38 : decode cX7_judge 38 = .ok (.iinc 1 1, 3) := by decide +kernel
theorem dX7_judge_41 : decode cX7_judge 41 = .ok (.goto (-39), 3) := by decide +kernel
theorem dX7_judge_44 : decode cX7_judge 44 = .ok (.lconst 0, 1) := by decide +kernel
theorem dX7_judge_45 : decode cX7_judge 45 = .ok (.lstore_n 1, 1) := by decide +kernel
theorem dX7_judge_46 : decode cX7_judge 46 = .ok (.iconst 0, 1) := by decide +kernel
theorem dX7_judge_47 : decode cX7_judge 47 = .ok (.istore_n 3, 1) := by decide +kernel
theorem dX7_judge_48 : decode cX7_judge 48 = .ok (.iload_n 3, 1) := by decide +kernel
theorem dX7_judge_49 : decode cX7_judge 49 = .ok (.aload_n 0, 1) := by decide +kernel
theorem dX7_judge_50 : decode cX7_judge 50 = .ok (.getfield 19, 3) := by decide +kernel
theorem dX7_judge_53 : decode cX7_judge 53 = .ok (.invokevirtual 57, 3) := by decide +kernel
theorem dX7_judge_56 : decode cX7_judge 56 = .ok (.if_icmp .ge 26, 3) := by decide +kernel
theorem dX7_judge_59 : decode cX7_judge 59 = .ok (.lload_n 1, 1) := by decide +kernel
theorem dX7_judge_60 : decode cX7_judge 60 = .ok (.aload_n 0, 1) := by decide +kernel
theorem dX7_judge_61 : decode cX7_judge 61 = .ok (.getfield 19, 3) := by decide +kernel
theorem dX7_judge_64 : decode cX7_judge 64 = .ok (.iload_n 3, 1) := by decide +kernel
theorem dX7_judge_65 : decode cX7_judge 65 = .ok (.invokevirtual 154, 3) := by decide +kernel
theorem dX7_judge_68 : decode cX7_judge 68 = .ok (.checkcast 83, 3) := by decide +kernel
theorem dX7_judge_71 : decode cX7_judge 71 = .ok (.invokevirtual 328, 3) := by decide +kernel
theorem dX7_judge_74 : decode cX7_judge 74 = .ok (.ladd, 1) := by decide +kernel
theorem dX7_judge_75 : decode cX7_judge 75 = .ok (.lstore_n 1, 1) := by decide +kernel
theorem dX7_judge_76 : decode cX7_judge 76 = .ok (.iinc 3 1, 3) := by decide +kernel
theorem dX7_judge_79 : decode cX7_judge 79 = .ok (.goto (-31), 3) := by decide +kernel
theorem dX7_judge_82 : decode cX7_judge 82 = .ok (.lload_n 1, 1) := by decide +kernel
theorem dX7_judge_83 : decode cX7_judge 83 = .ok (.lreturn, 1) := by decide +kernel
theorem dX7_count_0 : decode cX7_count 0 = .ok (.iload_n 1, 1) := by decide +kernel
theorem dX7_count_1 : decode cX7_count 1 = .ok (.tableswitch 145 0 11 #[63, 72, 81, 90, 99, 105, 114, 120, 125, 130, 135, 140], 63) := by decide +kernel
theorem dX7_count_64 : decode cX7_count 64 = .ok (.aload_n 0, 1) := by decide +kernel
theorem dX7_count_65 : decode cX7_count 65 = .ok (.getfield 12, 3) := by decide +kernel
theorem dX7_count_68 : decode cX7_count 68 = .ok (.invokevirtual 57, 3) := by decide +kernel
theorem dX7_count_71 : decode cX7_count 71 = .ok (.i2l, 1) := by decide +kernel
theorem dX7_count_72 : decode cX7_count 72 = .ok (.lreturn, 1) := by decide +kernel
theorem dX7_count_73 : decode cX7_count 73 = .ok (.aload_n 0, 1) := by decide +kernel
theorem dX7_count_74 : decode cX7_count 74 = .ok (.getfield 16, 3) := by decide +kernel
theorem dX7_count_77 : decode cX7_count 77 = .ok (.invokevirtual 57, 3) := by decide +kernel
theorem dX7_count_80 : decode cX7_count 80 = .ok (.i2l, 1) := by decide +kernel
theorem dX7_count_81 : decode cX7_count 81 = .ok (.lreturn, 1) := by decide +kernel
theorem dX7_count_82 : decode cX7_count 82 = .ok (.aload_n 0, 1) := by decide +kernel
theorem dX7_count_83 : decode cX7_count 83 = .ok (.getfield 19, 3) := by decide +kernel
theorem dX7_count_86 : decode cX7_count 86 = .ok (.invokevirtual 57, 3) := by decide +kernel
theorem dX7_count_89 : decode cX7_count 89 = .ok (.i2l, 1) := by decide +kernel
theorem dX7_count_90 : decode cX7_count 90 = .ok (.lreturn, 1) := by decide +kernel
theorem dX7_count_91 : decode cX7_count 91 = .ok (.aload_n 0, 1) := by decide +kernel
theorem dX7_count_92 : decode cX7_count 92 = .ok (.getfield 22, 3) := by decide +kernel
theorem dX7_count_95 : decode cX7_count 95 = .ok (.invokevirtual 57, 3) := by decide +kernel
theorem dX7_count_98 : decode cX7_count 98 = .ok (.i2l, 1) := by decide +kernel
theorem dX7_count_99 : decode cX7_count 99 = .ok (.lreturn, 1) := by decide +kernel
theorem dX7_count_100 : decode cX7_count 100 = .ok (.aload_n 0, 1) := by decide +kernel
theorem dX7_count_101 : decode cX7_count 101 = .ok (.getfield 187, 3) := by decide +kernel
theorem dX7_count_104 : decode cX7_count 104 = .ok (.i2l, 1) := by decide +kernel
theorem dX7_count_105 : decode cX7_count 105 = .ok (.lreturn, 1) := by decide +kernel
theorem dX7_count_106 : decode cX7_count 106 = .ok (.aload_n 0, 1) := by decide +kernel
theorem dX7_count_107 : decode cX7_count 107 = .ok (.getfield 25, 3) := by decide +kernel
theorem dX7_count_110 : decode cX7_count 110 = .ok (.invokevirtual 57, 3) := by decide +kernel
theorem dX7_count_113 : decode cX7_count 113 = .ok (.i2l, 1) := by decide +kernel
theorem dX7_count_114 : decode cX7_count 114 = .ok (.lreturn, 1) := by decide +kernel
theorem dX7_count_115 : decode cX7_count 115 = .ok (.aload_n 0, 1) := by decide +kernel
theorem dX7_count_116 : decode cX7_count 116 = .ok (.getfield 103, 3) := by decide +kernel
theorem dX7_count_119 : decode cX7_count 119 = .ok (.i2l, 1) := by decide +kernel
theorem dX7_count_120 : decode cX7_count 120 = .ok (.lreturn, 1) := by decide +kernel
theorem dX7_count_121 : decode cX7_count 121 = .ok (.aload_n 0, 1) := by decide +kernel
theorem dX7_count_122 : decode cX7_count 122 = .ok (.getfield 288, 3) := by decide +kernel
theorem dX7_count_125 : decode cX7_count 125 = .ok (.lreturn, 1) := by decide +kernel
theorem dX7_count_126 : decode cX7_count 126 = .ok (.aload_n 0, 1) := by decide +kernel
theorem dX7_count_127 : decode cX7_count 127 = .ok (.getfield 282, 3) := by decide +kernel
theorem dX7_count_130 : decode cX7_count 130 = .ok (.lreturn, 1) := by decide +kernel
theorem dX7_count_131 : decode cX7_count 131 = .ok (.aload_n 0, 1) := by decide +kernel
theorem dX7_count_132 : decode cX7_count 132 = .ok (.getfield 298, 3) := by decide +kernel
theorem dX7_count_135 : decode cX7_count 135 = .ok (.lreturn, 1) := by decide +kernel
theorem dX7_count_136 : decode cX7_count 136 = .ok (.aload_n 0, 1) := by decide +kernel
theorem dX7_count_137 : decode cX7_count 137 = .ok (.invokevirtual 332, 3) := by decide +kernel
theorem dX7_count_140 : decode cX7_count 140 = .ok (.lreturn, 1) := by decide +kernel
theorem dX7_count_141 : decode cX7_count 141 = .ok (.aload_n 0, 1) := by decide +kernel
theorem dX7_count_142 : decode cX7_count 142 = .ok (.getfield 221, 3) := by decide +kernel
theorem dX7_count_145 : decode cX7_count 145 = .ok (.lreturn, 1) := by decide +kernel
theorem dX7_count_146 : decode cX7_count 146 = .ok (.ldc2_w 335, 3) := by decide +kernel
theorem dX7_count_149 : decode cX7_count 149 = .ok (.lreturn, 1) := by decide +kernel
theorem dX7_snowThere_0 : decode cX7_snowThere 0 = .ok (.lconst 0, 1) := by decide +kernel
theorem dX7_snowThere_1 : decode cX7_snowThere 1 = .ok (.lstore_n 1, 1) := by decide +kernel
theorem dX7_snowThere_2 : decode cX7_snowThere 2 = .ok (.iconst 0, 1) := by decide +kernel
theorem dX7_snowThere_3 : decode cX7_snowThere 3 = .ok (.istore_n 3, 1) := by decide +kernel
theorem dX7_snowThere_4 : decode cX7_snowThere 4 = .ok (.iload_n 3, 1) := by decide +kernel
theorem dX7_snowThere_5 : decode cX7_snowThere 5 = .ok (.aload_n 0, 1) := by decide +kernel
theorem dX7_snowThere_6 : decode cX7_snowThere 6 = .ok (.getfield 19, 3) := by decide +kernel
theorem dX7_snowThere_9 : decode cX7_snowThere 9 = .ok (.invokevirtual 57, 3) := by decide +kernel
theorem dX7_snowThere_12 : decode cX7_snowThere 12 = .ok (.if_icmp .ge 27, 3) := by decide +kernel
theorem dX7_snowThere_15 : decode cX7_snowThere 15 = .ok (.lload_n 1, 1) := by decide +kernel
theorem dX7_snowThere_16 : decode cX7_snowThere 16 = .ok (.aload_n 0, 1) := by decide +kernel
theorem dX7_snowThere_17 : decode cX7_snowThere 17 = .ok (.getfield 19, 3) := by decide +kernel
theorem dX7_snowThere_20 : decode cX7_snowThere 20 = .ok (.iload_n 3, 1) := by decide +kernel
theorem dX7_snowThere_21 : decode cX7_snowThere 21 = .ok (.invokevirtual 154, 3) := by decide +kernel
theorem dX7_snowThere_24 : decode cX7_snowThere 24 = .ok (.checkcast 83, 3) := by decide +kernel
theorem dX7_snowThere_27 : decode cX7_snowThere 27 = .ok (.invokevirtual 291, 3) := by decide +kernel
theorem dX7_snowThere_30 : decode cX7_snowThere 30 = .ok (.i2l, 1) := by decide +kernel
theorem dX7_snowThere_31 : decode cX7_snowThere 31 = .ok (.ladd, 1) := by decide +kernel
theorem dX7_snowThere_32 : decode cX7_snowThere 32 = .ok (.lstore_n 1, 1) := by decide +kernel
theorem dX7_snowThere_33 : decode cX7_snowThere 33 = .ok (.iinc 3 1, 3) := by decide +kernel
theorem dX7_snowThere_36 : decode cX7_snowThere 36 = .ok (.goto (-32), 3) := by decide +kernel
theorem dX7_snowThere_39 : decode cX7_snowThere 39 = .ok (.lload_n 1, 1) := by decide +kernel
theorem dX7_snowThere_40 : decode cX7_snowThere 40 = .ok (.lreturn, 1) := by decide +kernel
theorem dX7_checkPlace_0 : decode cX7_checkPlace 0 = .ok (.iload_n 0, 1) := by decide +kernel
theorem dX7_checkPlace_1 : decode cX7_checkPlace 1 = .ok (.ifCond .lt 9, 3) := by decide +kernel
theorem dX7_checkPlace_4 : decode cX7_checkPlace 4 = .ok (.iload_n 0, 1) := by decide +kernel
theorem dX7_checkPlace_5 : decode cX7_checkPlace 5 = .ok (.bipush 10, 2) := by decide +kernel
theorem dX7_checkPlace_7 : decode cX7_checkPlace 7 = .ok (.if_icmp .lt 11, 3) := by decide +kernel
theorem dX7_checkPlace_10 : decode cX7_checkPlace 10 = .ok (.new 258, 3) := by decide +kernel
theorem dX7_checkPlace_13 : decode cX7_checkPlace 13 = .ok (.dup, 1) := by decide +kernel
theorem dX7_checkPlace_14 : decode cX7_checkPlace 14 = .ok (.invokespecial 260, 3) := by decide +kernel
theorem dX7_checkPlace_17 : decode cX7_checkPlace 17 = .ok (.athrow, 1) := by decide +kernel
theorem dX7_checkPlace_18 : decode cX7_checkPlace 18 = .ok (.return_, 1) := by decide +kernel
theorem dX7_checkNumber_0 : decode cX7_checkNumber 0 = .ok (.iload_n 0, 1) := by decide +kernel
theorem dX7_checkNumber_1 : decode cX7_checkNumber 1 = .ok (.iload_n 1, 1) := by decide +kernel
theorem dX7_checkNumber_2 : decode cX7_checkNumber 2 = .ok (.if_icmp .lt 8, 3) := by decide +kernel
theorem dX7_checkNumber_5 : decode cX7_checkNumber 5 = .ok (.iload_n 0, 1) := by decide +kernel
theorem dX7_checkNumber_6 : decode cX7_checkNumber 6 = .ok (.iload_n 2, 1) := by decide +kernel
theorem dX7_checkNumber_7 : decode cX7_checkNumber 7 = .ok (.if_icmp .le 11, 3) := by decide +kernel
theorem dX7_checkNumber_10 : decode cX7_checkNumber 10 = .ok (.new 123, 3) := by decide +kernel
theorem dX7_checkNumber_13 : decode cX7_checkNumber 13 = .ok (.dup, 1) := by decide +kernel
theorem dX7_checkNumber_14 : decode cX7_checkNumber 14 = .ok (.invokespecial 125, 3) := by decide +kernel
theorem dX7_checkNumber_17 : decode cX7_checkNumber 17 = .ok (.athrow, 1) := by decide +kernel
theorem dX7_checkNumber_18 : decode cX7_checkNumber 18 = .ok (.return_, 1) := by decide +kernel
theorem dX7_checkRoom_0 : decode cX7_checkRoom 0 = .ok (.iload_n 0, 1) := by decide +kernel
theorem dX7_checkRoom_1 : decode cX7_checkRoom 1 = .ok (.iload_n 1, 1) := by decide +kernel
theorem dX7_checkRoom_2 : decode cX7_checkRoom 2 = .ok (.if_icmp .lt 11, 3) := by decide +kernel
theorem dX7_checkRoom_5 : decode cX7_checkRoom 5 = .ok (.new 337, 3) := by decide +kernel
theorem dX7_checkRoom_8 : decode cX7_checkRoom 8 = .ok (.dup, 1) := by decide +kernel
theorem dX7_checkRoom_9 : decode cX7_checkRoom 9 = .ok (.invokespecial 339, 3) := by decide +kernel
theorem dX7_checkRoom_12 : decode cX7_checkRoom 12 = .ok (.athrow, 1) := by decide +kernel
theorem dX7_checkRoom_13 : decode cX7_checkRoom 13 = .ok (.return_, 1) := by decide +kernel
theorem dX7_liftAt_0 : decode cX7_liftAt 0 = .ok (.iload_n 1, 1) := by decide +kernel
theorem dX7_liftAt_1 : decode cX7_liftAt 1 = .ok (.ifCond .lt 14, 3) := by decide +kernel
theorem dX7_liftAt_4 : decode cX7_liftAt 4 = .ok (.iload_n 1, 1) := by decide +kernel
theorem dX7_liftAt_5 : decode cX7_liftAt 5 = .ok (.aload_n 0, 1) := by decide +kernel
theorem dX7_liftAt_6 : decode cX7_liftAt 6 = .ok (.getfield 12, 3) := by decide +kernel
theorem dX7_liftAt_9 : decode cX7_liftAt 9 = .ok (.invokevirtual 57, 3) := by decide +kernel
theorem dX7_liftAt_12 : decode cX7_liftAt 12 = .ok (.if_icmp .lt 11, 3) := by decide +kernel
theorem dX7_liftAt_15 : decode cX7_liftAt 15 = .ok (.new 258, 3) := by decide +kernel
theorem dX7_liftAt_18 : decode cX7_liftAt 18 = .ok (.dup, 1) := by decide +kernel
theorem dX7_liftAt_19 : decode cX7_liftAt 19 = .ok (.invokespecial 260, 3) := by decide +kernel
theorem dX7_liftAt_22 : decode cX7_liftAt 22 = .ok (.athrow, 1) := by decide +kernel
theorem dX7_liftAt_23 : decode cX7_liftAt 23 = .ok (.aload_n 0, 1) := by decide +kernel
theorem dX7_liftAt_24 : decode cX7_liftAt 24 = .ok (.getfield 12, 3) := by decide +kernel
theorem dX7_liftAt_27 : decode cX7_liftAt 27 = .ok (.iload_n 1, 1) := by decide +kernel
theorem dX7_liftAt_28 : decode cX7_liftAt 28 = .ok (.invokevirtual 154, 3) := by decide +kernel
theorem dX7_liftAt_31 : decode cX7_liftAt 31 = .ok (.checkcast 65, 3) := by decide +kernel
theorem dX7_liftAt_34 : decode cX7_liftAt 34 = .ok (.areturn, 1) := by decide +kernel
theorem dX7_slopeAt_0 : decode cX7_slopeAt 0 = .ok (.iload_n 1, 1) := by decide +kernel
theorem dX7_slopeAt_1 : decode cX7_slopeAt 1 = .ok (.ifCond .lt 14, 3) := by decide +kernel
theorem dX7_slopeAt_4 : decode cX7_slopeAt 4 = .ok (.iload_n 1, 1) := by decide +kernel
theorem dX7_slopeAt_5 : decode cX7_slopeAt 5 = .ok (.aload_n 0, 1) := by decide +kernel
theorem dX7_slopeAt_6 : decode cX7_slopeAt 6 = .ok (.getfield 16, 3) := by decide +kernel
theorem dX7_slopeAt_9 : decode cX7_slopeAt 9 = .ok (.invokevirtual 57, 3) := by decide +kernel
theorem dX7_slopeAt_12 : decode cX7_slopeAt 12 = .ok (.if_icmp .lt 11, 3) := by decide +kernel
theorem dX7_slopeAt_15 : decode cX7_slopeAt 15 = .ok (.new 258, 3) := by decide +kernel
theorem dX7_slopeAt_18 : decode cX7_slopeAt 18 = .ok (.dup, 1) := by decide +kernel
theorem dX7_slopeAt_19 : decode cX7_slopeAt 19 = .ok (.invokespecial 260, 3) := by decide +kernel
theorem dX7_slopeAt_22 : decode cX7_slopeAt 22 = .ok (.athrow, 1) := by decide +kernel
theorem dX7_slopeAt_23 : decode cX7_slopeAt 23 = .ok (.aload_n 0, 1) := by decide +kernel
theorem dX7_slopeAt_24 : decode cX7_slopeAt 24 = .ok (.getfield 16, 3) := by decide +kernel
theorem dX7_slopeAt_27 : decode cX7_slopeAt 27 = .ok (.iload_n 1, 1) := by decide +kernel
theorem dX7_slopeAt_28 : decode cX7_slopeAt 28 = .ok (.invokevirtual 154, 3) := by decide +kernel
theorem dX7_slopeAt_31 : decode cX7_slopeAt 31 = .ok (.checkcast 74, 3) := by decide +kernel
theorem dX7_slopeAt_34 : decode cX7_slopeAt 34 = .ok (.areturn, 1) := by decide +kernel
theorem dX7_cellAt_0 : decode cX7_cellAt 0 = .ok (.iload_n 1, 1) := by decide +kernel
theorem dX7_cellAt_1 : decode cX7_cellAt 1 = .ok (.ifCond .lt 14, 3) := by decide +kernel
theorem dX7_cellAt_4 : decode cX7_cellAt 4 = .ok (.iload_n 1, 1) := by decide +kernel
theorem dX7_cellAt_5 : decode cX7_cellAt 5 = .ok (.aload_n 0, 1) := by decide +kernel
theorem dX7_cellAt_6 : decode cX7_cellAt 6 = .ok (.getfield 19, 3) := by decide +kernel
theorem dX7_cellAt_9 : decode cX7_cellAt 9 = .ok (.invokevirtual 57, 3) := by decide +kernel
theorem dX7_cellAt_12 : decode cX7_cellAt 12 = .ok (.if_icmp .lt 11, 3) := by decide +kernel
theorem dX7_cellAt_15 : decode cX7_cellAt 15 = .ok (.new 258, 3) := by decide +kernel
theorem dX7_cellAt_18 : decode cX7_cellAt 18 = .ok (.dup, 1) := by decide +kernel
theorem dX7_cellAt_19 : decode cX7_cellAt 19 = .ok (.invokespecial 260, 3) := by decide +kernel
theorem dX7_cellAt_22 : decode cX7_cellAt 22 = .ok (.athrow, 1) := by decide +kernel
theorem dX7_cellAt_23 : decode cX7_cellAt 23 = .ok (.aload_n 0, 1) := by decide +kernel
theorem dX7_cellAt_24 : decode cX7_cellAt 24 = .ok (.getfield 19, 3) := by decide +kernel
theorem dX7_cellAt_27 : decode cX7_cellAt 27 = .ok (.iload_n 1, 1) := by decide +kernel
theorem dX7_cellAt_28 : decode cX7_cellAt 28 = .ok (.invokevirtual 154, 3) := by decide +kernel
theorem dX7_cellAt_31 : decode cX7_cellAt 31 = .ok (.checkcast 83, 3) := by decide +kernel
theorem dX7_cellAt_34 : decode cX7_cellAt 34 = .ok (.areturn, 1) := by decide +kernel
theorem dX7_hasBit_0 : decode cX7_hasBit 0 = .ok (.iload_n 0, 1) := by decide +kernel
theorem dX7_hasBit_1 : decode cX7_hasBit 1 = .ok (.iload_n 1, 1) := by decide +kernel
theorem dX7_hasBit_2 : decode cX7_hasBit 2 = .ok (.ishr, 1) := by decide +kernel
theorem dX7_hasBit_3 : decode cX7_hasBit 3 = .ok (.iconst 1, 1) := by decide +kernel
theorem dX7_hasBit_4 : decode cX7_hasBit 4 = .ok (.iand, 1) := by decide +kernel
theorem dX7_hasBit_5 : decode cX7_hasBit 5 = .ok (.iconst 1, 1) := by decide +kernel
theorem dX7_hasBit_6 : decode cX7_hasBit 6 = .ok (.if_icmp .ne 7, 3) := by decide +kernel
theorem dX7_hasBit_9 : decode cX7_hasBit 9 = .ok (.iconst 1, 1) := by decide +kernel
theorem dX7_hasBit_10 : decode cX7_hasBit 10 = .ok (.goto 4, 3) := by decide +kernel
theorem dX7_hasBit_13 : decode cX7_hasBit 13 = .ok (.iconst 0, 1) := by decide +kernel
theorem dX7_hasBit_14 : decode cX7_hasBit 14 = .ok (.ireturn, 1) := by decide +kernel
