theorem dX0_leastSum_0 : decode cX0_leastSum 0 = .ok (.aload_n 0, 1) := by decide +kernel
theorem dX0_leastSum_1 : decode cX0_leastSum 1 = .ok (.aload_n 1, 1) := by decide +kernel
theorem dX0_leastSum_2 : decode cX0_leastSum 2 = .ok (.invokestatic 9, 3) := by decide +kernel
theorem dX0_leastSum_5 : decode cX0_leastSum 5 = .ok (.iconst 0, 1) := by decide +kernel
theorem dX0_leastSum_6 : decode cX0_leastSum 6 = .ok (.istore_n 2, 1) := by decide +kernel
theorem dX0_leastSum_7 : decode cX0_leastSum 7 = .ok (.iload_n 2, 1) := by decide +kernel
theorem dX0_leastSum_8 : decode cX0_leastSum 8 = .ok (.ldc 15, 2) := by decide +kernel
theorem dX0_leastSum_10 : decode cX0_leastSum 10 = .ok (.if_icmp .ge 42, 3) := by decide +kernel
theorem dX0_leastSum_13 : decode cX0_leastSum 13 = .ok (.aload_n 0, 1) := by decide +kernel
theorem dX0_leastSum_14 : decode cX0_leastSum 14 = .ok (.invokestatic 16, 3) := by decide +kernel
theorem dX0_leastSum_17 : decode cX0_leastSum 17 = .ok (.ifCond .eq 35, 3) := by decide +kernel
theorem dX0_leastSum_20 : decode cX0_leastSum 20 = .ok (.aload_n 0, 1) := by decide +kernel
theorem dX0_leastSum_21 : decode cX0_leastSum 21 = .ok (.aload_n 1, 1) := by decide +kernel
theorem dX0_leastSum_22 : decode cX0_leastSum 22 = .ok (.invokestatic 20, 3) := by decide +kernel
theorem dX0_leastSum_25 : decode cX0_leastSum 25 = .ok (.aload_n 0, 1) := by decide +kernel
theorem dX0_leastSum_26 : decode cX0_leastSum 26 = .ok (.invokestatic 23, 3) := by decide +kernel
theorem dX0_leastSum_29 : decode cX0_leastSum 29 = .ok (.astore_n 3, 1) := by decide +kernel
theorem dX0_leastSum_30 : decode cX0_leastSum 30 = .ok (.aload_n 3, 1) := by decide +kernel
theorem dX0_leastSum_31 : decode cX0_leastSum 31 = .ok (.ifnonnull 7, 3) := by decide +kernel
theorem dX0_leastSum_34 : decode cX0_leastSum 34 = .ok (.ldc2_w 27, 3) := by decide +kernel
theorem dX0_leastSum_37 : decode cX0_leastSum 37 = .ok (.lreturn, 1) := by decide +kernel
theorem dX0_leastSum_38 : decode cX0_leastSum 38 = .ok (.aload_n 3, 1) := by decide +kernel
theorem dX0_leastSum_39 : decode cX0_leastSum 39 = .ok (.aload_n 0, 1) := by decide +kernel
theorem dX0_leastSum_40 : decode cX0_leastSum 40 = .ok (.invokevirtual 29, 3) := by decide +kernel
theorem dX0_leastSum_43 : decode cX0_leastSum 43 = .ok (.invokestatic 35, 3) := by decide +kernel
theorem dX0_leastSum_46 : decode cX0_leastSum 46 = .ok (.iinc 2 1, 3) := by decide +kernel
theorem dX0_leastSum_49 : decode cX0_leastSum 49 = .ok (.goto (-42), 3) := by decide +kernel
theorem dX0_leastSum_52 : decode cX0_leastSum 52 = .ok (.aload_n 1, 1) := by decide +kernel
theorem dX0_leastSum_53 : decode cX0_leastSum 53 = .ok (.invokestatic 39, 3) := by decide +kernel
theorem dX0_leastSum_56 : decode cX0_leastSum 56 = .ok (.lreturn, 1) := by decide +kernel
theorem dX0_prepare_0 : decode cX0_prepare 0 = .ok (.iconst 0, 1) := by decide +kernel
theorem dX0_prepare_1 : decode cX0_prepare 1 = .ok (.istore_n 2, 1) := by decide +kernel
theorem dX0_prepare_2 : decode cX0_prepare 2 = .ok (.iload_n 2, 1) := by decide +kernel
theorem dX0_prepare_3 : decode cX0_prepare 3 = .ok (.aload_n 0, 1) := by decide +kernel
theorem dX0_prepare_4 : decode cX0_prepare 4 = .ok (.invokevirtual 29, 3) := by decide +kernel
theorem dX0_prepare_7 : decode cX0_prepare 7 = .ok (.if_icmp .ge 50, 3) := by decide +kernel
theorem dX0_prepare_10 : decode cX0_prepare 10 = .ok (.aload_n 0, 1) := by decide +kernel
theorem dX0_prepare_11 : decode cX0_prepare 11 = .ok (.iload_n 2, 1) := by decide +kernel
theorem dX0_prepare_12 : decode cX0_prepare 12 = .ok (.invokevirtual 43, 3) := by decide +kernel
theorem dX0_prepare_15 : decode cX0_prepare 15 = .ok (.checkcast 47, 3) := by decide +kernel
theorem dX0_prepare_18 : decode cX0_prepare 18 = .ok (.astore_n 3, 1) := by decide +kernel
theorem dX0_prepare_19 : decode cX0_prepare 19 = .ok (.aload_n 3, 1) := by decide +kernel
theorem dX0_prepare_20 : decode cX0_prepare 20 = .ok (.invokevirtual 49, 3) := by decide +kernel
theorem dX0_prepare_23 : decode cX0_prepare 23 = .ok (.aload_n 3, 1) := by decide +kernel
theorem dX0_prepare_24 : decode cX0_prepare 24 = .ok (.getfield 52, 3) := by decide +kernel
theorem dX0_prepare_27 : decode cX0_prepare 27 = .ok (.isub, 1) := by decide +kernel
theorem dX0_prepare_28 : decode cX0_prepare 28 = .ok (.istore 4, 2) := by decide +kernel
theorem dX0_prepare_30 : decode cX0_prepare 30 = .ok (.aload_n 3, 1) := by decide +kernel
theorem dX0_prepare_31 : decode cX0_prepare 31 = .ok (.iload 4, 2) := by decide +kernel
theorem dX0_prepare_33 : decode cX0_prepare 33 = .ok (.iconst 0, 1) := by decide +kernel
theorem dX0_prepare_34 : decode cX0_prepare 34 = .ok (.invokestatic 56, 3) := by decide +kernel
theorem dX0_prepare_37 : decode cX0_prepare 37 = .ok (.putfield 62, 3) := by decide +kernel
theorem dX0_prepare_40 : decode cX0_prepare 40 = .ok (.aload_n 3, 1) := by decide +kernel
theorem dX0_prepare_41 : decode cX0_prepare 41 = .ok (.iload 4, 2) := by decide +kernel
theorem dX0_prepare_43 : decode cX0_prepare 43 = .ok (.ineg, 1) := by decide +kernel
theorem dX0_prepare_44 : decode cX0_prepare 44 = .ok (.iconst 0, 1) := by decide +kernel
theorem dX0_prepare_45 : decode cX0_prepare 45 = .ok (.invokestatic 56, 3) := by decide +kernel
theorem dX0_prepare_48 : decode cX0_prepare 48 = .ok (.putfield 65, 3) := by decide +kernel
theorem dX0_prepare_51 : decode cX0_prepare 51 = .ok (.iinc 2 1, 3) := by decide +kernel
theorem dX0_prepare_54 : decode cX0_prepare 54 = .ok (.goto (-52), 3) := by decide +kernel
theorem dX0_prepare_57 : decode cX0_prepare 57 = .ok (.iconst 0, 1) := by decide +kernel
theorem dX0_prepare_58 : decode cX0_prepare 58 = .ok (.istore_n 2, 1) := by decide +kernel
theorem dX0_prepare_59 : decode cX0_prepare 59 = .ok (.iload_n 2, 1) := by decide +kernel
theorem dX0_prepare_60 : decode cX0_prepare 60 = .ok (.aload_n 1, 1) := by decide +kernel
theorem dX0_prepare_61 : decode cX0_prepare 61 = .ok (.invokevirtual 29, 3) := by decide +kernel
theorem dX0_prepare_64 : decode cX0_prepare 64 = .ok (.if_icmp .ge 21, 3) := by decide +kernel
theorem dX0_prepare_67 : decode cX0_prepare 67 = .ok (.aload_n 1, 1) := by decide +kernel
theorem dX0_prepare_68 : decode cX0_prepare 68 = .ok (.iload_n 2, 1) := by decide +kernel
theorem dX0_prepare_69 : decode cX0_prepare 69 = .ok (.invokevirtual 43, 3) := by decide +kernel
theorem dX0_prepare_72 : decode cX0_prepare 72 = .ok (.checkcast 68, 3) := by decide +kernel
theorem dX0_prepare_75 : decode cX0_prepare 75 = .ok (.iconst 0, 1) := by decide +kernel
theorem dX0_prepare_76 : decode cX0_prepare 76 = .ok (.putfield 70, 3) := by decide +kernel
theorem dX0_prepare_79 : decode cX0_prepare 79 = .ok (.iinc 2 1, 3) := by decide +kernel
theorem dX0_prepare_82 : decode cX0_prepare 82 = .ok (.goto (-23), 3) := by decide +kernel
theorem dX0_prepare_85 : decode cX0_prepare 85 = .ok (.return_, 1) := by decide +kernel
theorem dX0_anyMissing_0 : decode cX0_anyMissing 0 = .ok (.iconst 0, 1) := by decide +kernel
theorem dX0_anyMissing_1 : decode cX0_anyMissing 1 = .ok (.istore_n 1, 1) := by decide +kernel
theorem dX0_anyMissing_2 : decode cX0_anyMissing 2 = .ok (.iload_n 1, 1) := by decide +kernel
theorem dX0_anyMissing_3 : decode cX0_anyMissing 3 = .ok (.aload_n 0, 1) := by decide +kernel
theorem dX0_anyMissing_4 : decode cX0_anyMissing 4 = .ok (.invokevirtual 29, 3) := by decide +kernel
theorem dX0_anyMissing_7 : decode cX0_anyMissing 7 = .ok (.if_icmp .ge 25, 3) := by decide +kernel
theorem dX0_anyMissing_10 : decode cX0_anyMissing 10 = .ok (.aload_n 0, 1) := by decide +kernel
theorem dX0_anyMissing_11 : decode cX0_anyMissing 11 = .ok (.iload_n 1, 1) := by decide +kernel
theorem dX0_anyMissing_12 : decode cX0_anyMissing 12 = .ok (.invokevirtual 43, 3) := by decide +kernel
theorem dX0_anyMissing_15 : decode cX0_anyMissing 15 = .ok (.checkcast 47, 3) := by decide +kernel
theorem dX0_anyMissing_18 : decode cX0_anyMissing 18 = .ok (.getfield 65, 3) := by decide +kernel
theorem dX0_anyMissing_21 : decode cX0_anyMissing 21 = .ok (.ifCond .le 5, 3) := by decide +kernel
theorem dX0_anyMissing_24 : decode cX0_anyMissing 24 = .ok (.iconst 1, 1) := by decide +kernel
theorem dX0_anyMissing_25 : decode cX0_anyMissing 25 = .ok (.ireturn, 1) := by decide +kernel
theorem dX0_anyMissing_26 : decode cX0_anyMissing 26 = .ok (.iinc 1 1, 3) := by decide +kernel
theorem dX0_anyMissing_29 : decode cX0_anyMissing 29 = .ok (.goto (-27), 3) := by decide +kernel
theorem dX0_anyMissing_32 : decode cX0_anyMissing 32 = .ok (.iconst 0, 1) := by decide +kernel
theorem dX0_anyMissing_33 : decode cX0_anyMissing 33 = .ok (.ireturn, 1) := by decide +kernel
theorem dX0_measure_0 : decode cX0_measure 0 = .ok (.iconst 0, 1) := by decide +kernel
theorem dX0_measure_1 : decode cX0_measure 1 = .ok (.istore_n 2, 1) := by decide +kernel
theorem dX0_measure_2 : decode cX0_measure 2 = .ok (.iload_n 2, 1) := by decide +kernel
theorem dX0_measure_3 : decode cX0_measure 3 = .ok (.aload_n 0, 1) := by decide +kernel
theorem dX0_measure_4 : decode cX0_measure 4 = .ok (.invokevirtual 29, 3) := by decide +kernel
theorem dX0_measure_7 : decode cX0_measure 7 = .ok (.if_icmp .ge 40, 3) := by decide +kernel
theorem dX0_measure_10 : decode cX0_measure 10 = .ok (.aload_n 0, 1) := by decide +kernel
theorem dX0_measure_11 : decode cX0_measure 11 = .ok (.iload_n 2, 1) := by decide +kernel
theorem dX0_measure_12 : decode cX0_measure 12 = .ok (.invokevirtual 43, 3) := by decide +kernel
theorem dX0_measure_15 : decode cX0_measure 15 = .ok (.checkcast 47, 3) := by decide +kernel
theorem dX0_measure_18 : decode cX0_measure 18 = .ok (.astore_n 3, 1) := by decide +kernel
theorem dX0_measure_19 : decode cX0_measure 19 = .ok (.aload_n 3, 1) := by decide +kernel
theorem dX0_measure_20 : decode cX0_measure 20 = .ok (.aload_n 3, 1) := by decide +kernel
theorem dX0_measure_21 : decode cX0_measure 21 = .ok (.getfield 62, 3) := by decide +kernel
theorem dX0_measure_24 : decode cX0_measure 24 = .ok (.ifCond .le 7, 3) := by decide +kernel
theorem dX0_measure_27 : decode cX0_measure 27 = .ok (.iconst 0, 1) := by decide +kernel
theorem dX0_measure_28 : decode cX0_measure 28 = .ok (.goto 5, 3) := by decide +kernel
theorem dX0_measure_31 : decode cX0_measure 31 = .ok (.ldc 73, 2) := by decide +kernel
theorem dX0_measure_33 : decode cX0_measure 33 = .ok (.putfield 74, 3) := by decide +kernel
theorem dX0_measure_36 : decode cX0_measure 36 = .ok (.aload_n 3, 1) := by decide +kernel
theorem dX0_measure_37 : decode cX0_measure 37 = .ok (.aconst_null, 1) := by decide +kernel
theorem dX0_measure_38 : decode cX0_measure 38 = .ok (.putfield 77, 3) := by decide +kernel
theorem dX0_measure_41 : decode cX0_measure 41 = .ok (.iinc 2 1, 3) := by decide +kernel
theorem dX0_measure_44 : decode cX0_measure 44 = .ok (.goto (-42), 3) := by decide +kernel
theorem dX0_measure_47 : decode cX0_measure 47 = .ok (.iconst 1, 1) := by decide +kernel
theorem dX0_measure_48 : decode cX0_measure 48 = .ok (.istore_n 2, 1) := by decide +kernel
theorem dX0_measure_49 : decode cX0_measure 49 = .ok (.iconst 0, 1) := by decide +kernel
theorem dX0_measure_50 : decode cX0_measure 50 = .ok (.istore_n 3, 1) := by decide +kernel
theorem dX0_measure_51 : decode cX0_measure 51 = .ok (.iload_n 3, 1) := by decide +kernel
theorem dX0_measure_52 : decode cX0_measure 52 = .ok (.aload_n 0, 1) := by decide +kernel
theorem dX0_measure_53 : decode cX0_measure 53 = .ok (.invokevirtual 29, 3) := by decide +kernel
theorem dX0_measure_56 : decode cX0_measure 56 = .ok (.if_icmp .ge 70, 3) := by decide +kernel
theorem dX0_measure_59 : decode cX0_measure 59 = .ok (.iload_n 2, 1) := by decide +kernel
theorem dX0_measure_60 : decode cX0_measure 60 = .ok (.ifCond .eq 66, 3) := by decide +kernel
theorem dX0_measure_63 : decode cX0_measure 63 = .ok (.iconst 0, 1) := by decide +kernel
theorem dX0_measure_64 : decode cX0_measure 64 = .ok (.istore_n 2, 1) := by decide +kernel
theorem dX0_measure_65 : decode cX0_measure 65 = .ok (.iconst 0, 1) := by decide +kernel
theorem dX0_measure_66 : decode cX0_measure 66 = .ok (.istore 4, 2) := by decide +kernel
theorem dX0_measure_68 : decode cX0_measure 68 = .ok (.iload 4, 2) := by decide +kernel
theorem dX0_measure_70 : decode cX0_measure 70 = .ok (.aload_n 1, 1) := by decide +kernel
theorem dX0_measure_71 : decode cX0_measure 71 = .ok (.invokevirtual 29, 3) := by decide +kernel
theorem dX0_measure_74 : decode cX0_measure 74 = .ok (.if_icmp .ge 46, 3) := by decide +kernel
theorem dX0_measure_77 : decode cX0_measure 77 = .ok (.aload_n 1, 1) := by decide +kernel
theorem dX0_measure_78 : decode cX0_measure 78 = .ok (.iload 4, 2) := by decide +kernel
theorem dX0_measure_80 : decode cX0_measure 80 = .ok (.invokevirtual 43, 3) := by decide +kernel
theorem dX0_measure_83 : decode cX0_measure 83 = .ok (.checkcast 68, 3) := by decide +kernel
theorem dX0_measure_86 : decode cX0_measure 86 = .ok (.astore 5, 2) := by decide +kernel
theorem dX0_measure_88 : decode cX0_measure 88 = .ok (.iload_n 2, 1) := by decide +kernel
theorem dX0_measure_89 : decode cX0_measure 89 = .ok (.aload 5, 2) := by decide +kernel
theorem dX0_measure_91 : decode cX0_measure 91 = .ok (.aload 5, 2) := by decide +kernel
theorem dX0_measure_93 : decode cX0_measure 93 = .ok (.getfield 81, 3) := by decide +kernel
theorem dX0_measure_96 : decode cX0_measure 96 = .ok (.invokestatic 85, 3) := by decide +kernel
theorem dX0_measure_99 : decode cX0_measure 99 = .ok (.ior, 1) := by decide +kernel
theorem dX0_measure_100 : decode cX0_measure 100 = .ok (.istore_n 2, 1) := by decide +kernel
theorem dX0_measure_101 : decode cX0_measure 101 = .ok (.iload_n 2, 1) := by decide +kernel
theorem dX0_measure_102 : decode cX0_measure 102 = .ok (.aload 5, 2) := by decide +kernel
theorem dX0_measure_104 : decode cX0_measure 104 = .ok (.aload 5, 2) := by decide +kernel
theorem dX0_measure_106 : decode cX0_measure 106 = .ok (.getfield 89, 3) := by decide +kernel
theorem dX0_measure_109 : decode cX0_measure 109 = .ok (.invokestatic 85, 3) := by decide +kernel
theorem dX0_measure_112 : decode cX0_measure 112 = .ok (.ior, 1) := by decide +kernel
theorem dX0_measure_113 : decode cX0_measure 113 = .ok (.istore_n 2, 1) := by decide +kernel
theorem dX0_measure_114 : decode cX0_measure 114 = .ok (.iinc 4 1, 3) := by decide +kernel
theorem dX0_measure_117 : decode cX0_measure 117 = .ok (.goto (-49), 3) := by decide +kernel
theorem dX0_measure_120 : decode cX0_measure 120 = .ok (.iinc 3 1, 3) := by decide +kernel
theorem dX0_measure_123 : decode cX0_measure 123 = .ok (.goto (-72), 3) := by decide +kernel
theorem dX0_measure_126 : decode cX0_measure 126 = .ok (.return_, 1) := by decide +kernel
theorem dX0_brings_0 : decode cX0_brings 0 = .ok (.aload_n 1, 1) := by decide +kernel
theorem dX0_brings_1 : decode cX0_brings 1 = .ok (.getfield 74, 3) := by decide +kernel
theorem dX0_brings_4 : decode cX0_brings 4 = .ok (.ldc 73, 2) := by decide +kernel
theorem dX0_brings_6 : decode cX0_brings 6 = .ok (.if_icmp .ne 5, 3) := by decide +kernel
theorem dX0_brings_9 : decode cX0_brings 9 = .ok (.iconst 0, 1) := by decide +kernel
theorem dX0_brings_10 : decode cX0_brings 10 = .ok (.ireturn, 1) := by decide +kernel
theorem dX0_brings_11 : decode cX0_brings 11 = .ok (.aload_n 0, 1) := by decide +kernel
theorem dX0_brings_12 : decode cX0_brings 12 = .ok (.aload_n 1, 1) := by decide +kernel
theorem dX0_brings_13 : decode cX0_brings 13 = .ok (.invokevirtual 92, 3) := by decide +kernel
theorem dX0_brings_16 : decode cX0_brings 16 = .ok (.astore_n 2, 1) := by decide +kernel
theorem dX0_brings_17 : decode cX0_brings 17 = .ok (.aload_n 0, 1) := by decide +kernel
theorem dX0_brings_18 : decode cX0_brings 18 = .ok (.aload_n 1, 1) := by decide +kernel
theorem dX0_brings_19 : decode cX0_brings 19 = .ok (.invokevirtual 96, 3) := by decide +kernel
theorem dX0_brings_22 : decode cX0_brings 22 = .ok (.ifCond .ge 11, 3) := by decide +kernel
theorem dX0_brings_25 : decode cX0_brings 25 = .ok (.aload_n 0, 1) := by decide +kernel
theorem dX0_brings_26 : decode cX0_brings 26 = .ok (.getfield 100, 3) := by decide +kernel
theorem dX0_brings_29 : decode cX0_brings 29 = .ok (.ineg, 1) := by decide +kernel
theorem dX0_brings_30 : decode cX0_brings 30 = .ok (.goto 7, 3) := by decide +kernel
theorem dX0_brings_33 : decode cX0_brings 33 = .ok (.aload_n 0, 1) := by decide +kernel
theorem dX0_brings_34 : decode cX0_brings 34 = .ok (.getfield 100, 3) := by decide +kernel
theorem dX0_brings_37 : decode cX0_brings 37 = .ok (.istore_n 3, 1) := by decide +kernel
theorem dX0_brings_38 : decode cX0_brings 38 = .ok (.aload_n 1, 1) := by decide +kernel
theorem dX0_brings_39 : decode cX0_brings 39 = .ok (.getfield 74, 3) := by decide +kernel
theorem dX0_brings_42 : decode cX0_brings 42 = .ok (.iload_n 3, 1) := by decide +kernel
theorem dX0_brings_43 : decode cX0_brings 43 = .ok (.bipush 64, 2) := by decide +kernel
theorem dX0_brings_45 : decode cX0_brings 45 = .ok (.imul, 1) := by decide +kernel
theorem dX0_brings_46 : decode cX0_brings 46 = .ok (.iadd, 1) := by decide +kernel
theorem dX0_brings_47 : decode cX0_brings 47 = .ok (.iconst 1, 1) := by decide +kernel
theorem dX0_brings_48 : decode cX0_brings 48 = .ok (.iadd, 1) := by decide +kernel
theorem dX0_brings_49 : decode cX0_brings 49 = .ok (.istore 4, 2) := by decide +kernel
theorem dX0_brings_51 : decode cX0_brings 51 = .ok (.iload 4, 2) := by decide +kernel
theorem dX0_brings_53 : decode cX0_brings 53 = .ok (.aload_n 2, 1) := by decide +kernel
theorem dX0_brings_54 : decode cX0_brings 54 = .ok (.getfield 74, 3) := by decide +kernel
theorem dX0_brings_57 : decode cX0_brings 57 = .ok (.if_icmp .lt 5, 3) := by decide +kernel
theorem dX0_brings_60 : decode cX0_brings 60 = .ok (.iconst 0, 1) := by decide +kernel
theorem dX0_brings_61 : decode cX0_brings 61 = .ok (.ireturn, 1) := by decide +kernel
theorem dX0_brings_62 : decode cX0_brings 62 = .ok (.aload_n 2, 1) := by decide +kernel
theorem dX0_brings_63 : decode cX0_brings 63 = .ok (.iload 4, 2) := by decide +kernel
theorem dX0_brings_65 : decode cX0_brings 65 = .ok (.putfield 74, 3) := by decide +kernel
theorem dX0_brings_68 : decode cX0_brings 68 = .ok (.aload_n 2, 1) := by decide +kernel
theorem dX0_brings_69 : decode cX0_brings 69 = .ok (.aload_n 0, 1) := by decide +kernel
theorem dX0_brings_70 : decode cX0_brings 70 = .ok (.putfield 77, 3) := by decide +kernel
theorem dX0_brings_73 : decode cX0_brings 73 = .ok (.iconst 1, 1) := by decide +kernel
theorem dX0_brings_74 : decode cX0_brings 74 = .ok (.ireturn, 1) := by decide +kernel
theorem dX0_nearestMissing_0 : decode cX0_nearestMissing 0 = .ok (.aconst_null, 1) := by decide +kernel
theorem dX0_nearestMissing_1 : decode cX0_nearestMissing 1 = .ok (.astore_n 1, 1) := by decide +kernel
theorem dX0_nearestMissing_2 : decode cX0_nearestMissing 2 = .ok (.iconst 0, 1) := by decide +kernel
theorem dX0_nearestMissing_3 : decode cX0_nearestMissing 3 = .ok (.istore_n 2, 1) := by decide +kernel
theorem dX0_nearestMissing_4 : decode cX0_nearestMissing 4 = .ok (.iload_n 2, 1) := by decide +kernel
theorem dX0_nearestMissing_5 : decode cX0_nearestMissing 5 = .ok (.aload_n 0, 1) := by decide +kernel
theorem dX0_nearestMissing_6 : decode cX0_nearestMissing 6 = .ok (.invokevirtual 29, 3) := by decide +kernel
theorem dX0_nearestMissing_9 : decode cX0_nearestMissing 9 = .ok (.if_icmp .ge 63, 3) := by decide +kernel
theorem dX0_nearestMissing_12 : decode cX0_nearestMissing 12 = .ok (.aload_n 0, 1) := by decide +kernel
theorem dX0_nearestMissing_13 : decode cX0_nearestMissing 13 = .ok (.iload_n 2, 1) := by decide +kernel
theorem dX0_nearestMissing_14 : decode cX0_nearestMissing 14 = .ok (.invokevirtual 43, 3) := by decide +kernel
theorem dX0_nearestMissing_17 : decode cX0_nearestMissing 17 = .ok (.checkcast 47, 3) := by decide +kernel
theorem dX0_nearestMissing_20 : decode cX0_nearestMissing 20 = .ok (.astore_n 3, 1) := by decide +kernel
theorem dX0_nearestMissing_21 : decode cX0_nearestMissing 21 = .ok (.aload_n 3, 1) := by decide +kernel
theorem dX0_nearestMissing_22 : decode cX0_nearestMissing 22 = .ok (.getfield 65, 3) := by decide +kernel
theorem dX0_nearestMissing_25 : decode cX0_nearestMissing 25 = .ok (.ifCond .le 16, 3) := by decide +kernel
theorem dX0_nearestMissing_28 : decode cX0_nearestMissing 28 = .ok (.aload_n 3, 1) := by decide +kernel
theorem dX0_nearestMissing_29 : decode cX0_nearestMissing 29 = .ok (.getfield 74, 3) := by decide +kernel
theorem dX0_nearestMissing_32 : decode cX0_nearestMissing 32 = .ok (.ldc 73, 2) := by decide +kernel
theorem dX0_nearestMissing_34 : decode cX0_nearestMissing 34 = .ok (.if_icmp .eq 7, 3) := by decide +kernel
theorem dX0_nearestMissing_37 : decode cX0_nearestMissing 37 = .ok (.iconst 1, 1) := by decide +kernel
theorem dX0_nearestMissing_38 : decode cX0_nearestMissing 38 = .ok (.goto 4, 3) := by decide +kernel
theorem dX0_nearestMissing_41 : decode cX0_nearestMissing 41 = .ok (.iconst 0, 1) := by decide +kernel
theorem dX0_nearestMissing_42 : decode cX0_nearestMissing 42 = .ok (.istore 4, 2) := by decide +kernel
theorem dX0_nearestMissing_44 : decode cX0_nearestMissing 44 = .ok (.iload 4, 2) := by decide +kernel
theorem dX0_nearestMissing_46 : decode cX0_nearestMissing 46 = .ok (.ifCond .eq 20, 3) := by decide +kernel
theorem dX0_nearestMissing_49 : decode cX0_nearestMissing 49 = .ok (.aload_n 1, 1) := by decide +kernel
theorem dX0_nearestMissing_50 : decode cX0_nearestMissing 50 = .ok (.ifnull 14, 3) := by decide +kernel
theorem dX0_nearestMissing_53 : decode cX0_nearestMissing 53 = .ok (.aload_n 3, 1) := by decide +kernel
theorem dX0_nearestMissing_54 : decode cX0_nearestMissing 54 = .ok (.getfield 74, 3) := by decide +kernel
theorem dX0_nearestMissing_57 : decode cX0_nearestMissing 57 = .ok (.aload_n 1, 1) := by decide +kernel
theorem dX0_nearestMissing_58 : decode cX0_nearestMissing 58 = .ok (.getfield 74, 3) := by decide +kernel
theorem dX0_nearestMissing_61 : decode cX0_nearestMissing 61 = .ok (.if_icmp .ge 5, 3) := by decide +kernel
theorem dX0_nearestMissing_64 : decode cX0_nearestMissing 64 = .ok (.aload_n 3, 1) := by decide +kernel
theorem dX0_nearestMissing_65 : decode cX0_nearestMissing 65 = .ok (.astore_n 1, 1) := by decide +kernel
theorem dX0_nearestMissing_66 : decode cX0_nearestMissing 66 = .ok (.iinc 2 1, 3) := by decide +kernel
theorem dX0_nearestMissing_69 : decode cX0_nearestMissing 69 = .ok (.goto (-65), 3) := by decide +kernel
theorem dX0_nearestMissing_72 : decode cX0_nearestMissing 72 = .ok (.aload_n 1, 1) := by decide +kernel
theorem dX0_nearestMissing_73 : decode cX0_nearestMissing 73 = .ok (.areturn, 1) := by decide +kernel
theorem dX0_carryTo_0 : decode cX0_carryTo 0 = .ok (.aload_n 0, 1) := by decide +kernel
theorem dX0_carryTo_1 : decode cX0_carryTo 1 = .ok (.getfield 65, 3) := by decide +kernel
theorem dX0_carryTo_4 : decode cX0_carryTo 4 = .ok (.istore_n 2, 1) := by decide +kernel
theorem dX0_carryTo_5 : decode cX0_carryTo 5 = .ok (.aload_n 0, 1) := by decide +kernel
theorem dX0_carryTo_6 : decode cX0_carryTo 6 = .ok (.astore_n 3, 1) := by decide +kernel
theorem dX0_carryTo_7 : decode cX0_carryTo 7 = .ok (.iconst 0, 1) := by decide +kernel
theorem dX0_carryTo_8 : decode cX0_carryTo 8 = .ok (.istore 4, 2) := by decide +kernel
theorem dX0_carryTo_10 : decode cX0_carryTo 10 = .ok (.iload 4, 2) := by decide +kernel
theorem dX0_carryTo_12 : decode cX0_carryTo 12 = .ok (.iload_n 1, 1) := by decide +kernel
theorem dX0_carryTo_13 : decode cX0_carryTo 13 = .ok (.if_icmp .ge 50, 3) := by decide +kernel
theorem dX0_carryTo_16 : decode cX0_carryTo 16 = .ok (.aload_n 3, 1) := by decide +kernel
theorem dX0_carryTo_17 : decode cX0_carryTo 17 = .ok (.getfield 77, 3) := by decide +kernel
theorem dX0_carryTo_20 : decode cX0_carryTo 20 = .ok (.ifnull 43, 3) := by decide +kernel
theorem dX0_carryTo_23 : decode cX0_carryTo 23 = .ok (.aload_n 3, 1) := by decide +kernel
theorem dX0_carryTo_24 : decode cX0_carryTo 24 = .ok (.getfield 77, 3) := by decide +kernel
theorem dX0_carryTo_27 : decode cX0_carryTo 27 = .ok (.astore 5, 2) := by decide +kernel
theorem dX0_carryTo_29 : decode cX0_carryTo 29 = .ok (.aload 5, 2) := by decide +kernel
theorem dX0_carryTo_31 : decode cX0_carryTo 31 = .ok (.aload_n 3, 1) := by decide +kernel
theorem dX0_carryTo_32 : decode cX0_carryTo 32 = .ok (.invokevirtual 92, 3) := by decide +kernel
theorem dX0_carryTo_35 : decode cX0_carryTo 35 = .ok (.astore_n 3, 1) := by decide +kernel
theorem dX0_carryTo_36 : decode cX0_carryTo 36 = .ok (.aload 5, 2) := by decide +kernel
theorem dX0_carryTo_38 : decode cX0_carryTo 38 = .ok (.aload_n 3, 1) := by decide +kernel
theorem dX0_carryTo_39 : decode cX0_carryTo 39 = .ok (.invokevirtual 96, 3) := by decide +kernel
theorem dX0_carryTo_42 : decode cX0_carryTo 42 = .ok (.ineg, 1) := by decide +kernel
theorem dX0_carryTo_43 : decode cX0_carryTo 43 = .ok (.istore 6, 2) := by decide +kernel
theorem dX0_carryTo_45 : decode cX0_carryTo 45 = .ok (.iload 6, 2) := by decide +kernel
theorem dX0_carryTo_47 : decode cX0_carryTo 47 = .ok (.ifCond .le 10, 3) := by decide +kernel
theorem dX0_carryTo_50 : decode cX0_carryTo 50 = .ok (.iload_n 2, 1) := by decide +kernel
theorem dX0_carryTo_51 : decode cX0_carryTo 51 = .ok (.iload 6, 2) := by decide +kernel
theorem dX0_carryTo_53 : decode cX0_carryTo 53 = .ok (.invokestatic 103, 3) := by decide +kernel
theorem dX0_carryTo_56 : decode cX0_carryTo 56 = .ok (.istore_n 2, 1) := by decide +kernel
theorem dX0_carryTo_57 : decode cX0_carryTo 57 = .ok (.iinc 4 1, 3) := by decide +kernel
theorem dX0_carryTo_60 : decode cX0_carryTo 60 = .ok (.goto (-50), 3) := by decide +kernel
theorem dX0_carryTo_63 : decode cX0_carryTo 63 = .ok (.iload_n 2, 1) := by decide +kernel
theorem dX0_carryTo_64 : decode cX0_carryTo 64 = .ok (.aload_n 3, 1) := by decide +kernel
theorem dX0_carryTo_65 : decode cX0_carryTo 65 = .ok (.getfield 62, 3) := by decide +kernel
theorem dX0_carryTo_68 : decode cX0_carryTo 68 = .ok (.invokestatic 103, 3) := by decide +kernel
theorem dX0_carryTo_71 : decode cX0_carryTo 71 = .ok (.istore_n 2, 1) := by decide +kernel
theorem dX0_carryTo_72 : decode cX0_carryTo 72 = .ok (.aload_n 3, 1) := by decide +kernel
theorem dX0_carryTo_73 : decode cX0_carryTo 73 = .ok (.dup, 1) := by decide +kernel
theorem dX0_carryTo_74 : decode cX0_carryTo 74 = .ok (.getfield 62, 3) := by decide +kernel
theorem dX0_carryTo_77 : decode cX0_carryTo 77 = .ok (.iload_n 2, 1) := by decide +kernel
theorem dX0_carryTo_78 : decode cX0_carryTo 78 = .ok (.isub, 1) := by decide +kernel
theorem dX0_carryTo_79 : decode cX0_carryTo 79 = .ok (.putfield 62, 3) := by decide +kernel
theorem dX0_carryTo_82 : decode cX0_carryTo 82 = .ok (.aload_n 0, 1) := by decide +kernel
theorem dX0_carryTo_83 : decode cX0_carryTo 83 = .ok (.dup, 1) := by decide +kernel
theorem dX0_carryTo_84 : decode cX0_carryTo 84 = .ok (.getfield 65, 3) := by decide +kernel
theorem dX0_carryTo_87 : decode cX0_carryTo 87 = .ok (.iload_n 2, 1) := by decide +kernel
theorem dX0_carryTo_88 : decode cX0_carryTo 88 = .ok (.isub, 1) := by decide +kernel
theorem dX0_carryTo_89 : decode cX0_carryTo 89 = .ok (.putfield 65, 3) := by decide +kernel
theorem dX0_carryTo_92 : decode cX0_carryTo 92 = .ok (.aload_n 0, 1) := by decide +kernel
theorem dX0_carryTo_93 : decode cX0_carryTo 93 = .ok (.astore_n 3, 1) := by decide +kernel
theorem dX0_carryTo_94 : decode cX0_carryTo 94 = .ok (.iconst 0, 1) := by decide +kernel
theorem dX0_carryTo_95 : decode cX0_carryTo 95 = .ok (.istore 4, 2) := by decide +kernel
theorem dX0_carryTo_97 : decode cX0_carryTo 97 = .ok (.iload 4, 2) := by decide +kernel
theorem dX0_carryTo_99 : decode cX0_carryTo 99 = .ok (.iload_n 1, 1) := by decide +kernel
theorem dX0_carryTo_100 : decode cX0_carryTo 100 = .ok (.if_icmp .ge 36, 3) := by decide +kernel
theorem dX0_carryTo_103 : decode cX0_carryTo 103 = .ok (.aload_n 3, 1) := by decide +kernel
theorem dX0_carryTo_104 : decode cX0_carryTo 104 = .ok (.getfield 77, 3) := by decide +kernel
theorem dX0_carryTo_107 : decode cX0_carryTo 107 = .ok (.ifnull 29, 3) := by decide +kernel
theorem dX0_carryTo_110 : decode cX0_carryTo 110 = .ok (.aload_n 3, 1) := by decide +kernel
theorem dX0_carryTo_111 : decode cX0_carryTo 111 = .ok (.getfield 77, 3) := by decide +kernel
theorem dX0_carryTo_114 : decode cX0_carryTo 114 = .ok (.astore 5, 2) := by decide +kernel
theorem dX0_carryTo_116 : decode cX0_carryTo 116 = .ok (.aload 5, 2) := by decide +kernel
theorem dX0_carryTo_118 : decode cX0_carryTo 118 = .ok (.aload_n 3, 1) := by decide +kernel
theorem dX0_carryTo_119 : decode cX0_carryTo 119 = .ok (.invokevirtual 92, 3) := by decide +kernel
theorem dX0_carryTo_122 : decode cX0_carryTo 122 = .ok (.astore_n 3, 1) := by decide +kernel
theorem dX0_carryTo_123 : decode cX0_carryTo 123 = .ok (.aload 5, 2) := by decide +kernel
theorem dX0_carryTo_125 : decode cX0_carryTo 125 = .ok (.aload_n 3, 1) := by decide +kernel
theorem dX0_carryTo_126 : decode cX0_carryTo 126 = .ok (.iload_n 2, 1) := by decide +kernel
theorem dX0_carryTo_127 : decode cX0_carryTo 127 = .ok (.invokevirtual 106, 3) := by decide +kernel
theorem dX0_carryTo_130 : decode cX0_carryTo 130 = .ok (.iinc 4 1, 3) := by decide +kernel
theorem dX0_carryTo_133 : decode cX0_carryTo 133 = .ok (.goto (-36), 3) := by decide +kernel
theorem dX0_carryTo_136 : decode cX0_carryTo 136 = .ok (.return_, 1) := by decide +kernel
theorem dX0_sumCarried_0 : decode cX0_sumCarried 0 = .ok (.lconst 0, 1) := by decide +kernel
theorem dX0_sumCarried_1 : decode cX0_sumCarried 1 = .ok (.lstore_n 1, 1) := by decide +kernel
theorem dX0_sumCarried_2 : decode cX0_sumCarried 2 = .ok (.iconst 0, 1) := by decide +kernel
theorem dX0_sumCarried_3 : decode cX0_sumCarried 3 = .ok (.istore_n 3, 1) := by decide +kernel
theorem dX0_sumCarried_4 : decode cX0_sumCarried 4 = .ok (.iload_n 3, 1) := by decide +kernel
theorem dX0_sumCarried_5 : decode cX0_sumCarried 5 = .ok (.aload_n 0, 1) := by decide +kernel
theorem dX0_sumCarried_6 : decode cX0_sumCarried 6 = .ok (.invokevirtual 29, 3) := by decide +kernel
theorem dX0_sumCarried_9 : decode cX0_sumCarried 9 = .ok (.if_icmp .ge 38, 3) := by decide +kernel
theorem dX0_sumCarried_12 : decode cX0_sumCarried 12 = .ok (.aload_n 0, 1) := by decide +kernel
theorem dX0_sumCarried_13 : decode cX0_sumCarried 13 = .ok (.iload_n 3, 1) := by decide +kernel
theorem dX0_sumCarried_14 : decode cX0_sumCarried 14 = .ok (.invokevirtual 43, 3) := by decide +kernel
theorem dX0_sumCarried_17 : decode cX0_sumCarried 17 = .ok (.checkcast 68, 3) := by decide +kernel
theorem dX0_sumCarried_20 : decode cX0_sumCarried 20 = .ok (.astore 4, 2) := by decide +kernel
theorem dX0_sumCarried_22 : decode cX0_sumCarried 22 = .ok (.lload_n 1, 1) := by decide +kernel
theorem dX0_sumCarried_23 : decode cX0_sumCarried 23 = .ok (.aload 4, 2) := by decide +kernel
theorem dX0_sumCarried_25 : decode cX0_sumCarried 25 = .ok (.getfield 70, 3) := by decide +kernel
theorem dX0_sumCarried_28 : decode cX0_sumCarried 28 = .ok (.invokestatic 109, 3) := by decide +kernel
theorem dX0_sumCarried_31 : decode cX0_sumCarried 31 = .ok (.i2l, 1) := by decide +kernel
theorem dX0_sumCarried_32 : decode cX0_sumCarried 32 = .ok (.aload 4, 2) := by decide +kernel
theorem dX0_sumCarried_34 : decode cX0_sumCarried 34 = .ok (.getfield 100, 3) := by decide +kernel
theorem dX0_sumCarried_37 : decode cX0_sumCarried 37 = .ok (.i2l, 1) := by decide +kernel
theorem dX0_sumCarried_38 : decode cX0_sumCarried 38 = .ok (.lmul, 1) := by decide +kernel
theorem dX0_sumCarried_39 : decode cX0_sumCarried 39 = .ok (.ladd, 1) := by decide +kernel
theorem dX0_sumCarried_40 : decode cX0_sumCarried 40 = .ok (.lstore_n 1, 1) := by decide +kernel
theorem dX0_sumCarried_41 : decode cX0_sumCarried 41 = .ok (.iinc 3 1, 3) := by decide +kernel
theorem dX0_sumCarried_44 : decode cX0_sumCarried 44 = .ok (.goto (-40), 3) := by decide +kernel
theorem dX0_sumCarried_47 : decode cX0_sumCarried 47 = .ok (.lload_n 1, 1) := by decide +kernel
theorem dX0_sumCarried_48 : decode cX0_sumCarried 48 = .ok (.lreturn, 1) := by decide +kernel
theorem dX1_init_0 : decode cX1_init 0 = .ok (.aload_n 0, 1) := by decide +kernel
theorem dX1_init_1 : decode cX1_init 1 = .ok (.invokespecial 3, 3) := by decide +kernel
theorem dX1_init_4 : decode cX1_init 4 = .ok (.aload_n 0, 1) := by decide +kernel
theorem dX1_init_5 : decode cX1_init 5 = .ok (.iconst 4, 1) := by decide +kernel
theorem dX1_init_6 : decode cX1_init 6 = .ok (.newarray .int, 2) := by decide +kernel
theorem dX1_init_8 : decode cX1_init 8 = .ok (.putfield 9, 3) := by decide +kernel
theorem dX1_init_11 : decode cX1_init 11 = .ok (.aload_n 0, 1) := by decide +kernel
theorem dX1_init_12 : decode cX1_init 12 = .ok (.iload_n 1, 1) := by decide +kernel
theorem dX1_init_13 : decode cX1_init 13 = .ok (.putfield 15, 3) := by decide +kernel
theorem dX1_init_16 : decode cX1_init 16 = .ok (.return_, 1) := by decide +kernel
theorem dX1_depth_0 : decode cX1_depth 0 = .ok (.aload_n 0, 1) := by decide +kernel
theorem dX1_depth_1 : decode cX1_depth 1 = .ok (.getfield 9, 3) := by decide +kernel
theorem dX1_depth_4 : decode cX1_depth 4 = .ok (.iconst 0, 1) := by decide +kernel
theorem dX1_depth_5 : decode cX1_depth 5 = .ok (.iaload, 1) := by decide +kernel
theorem dX1_depth_6 : decode cX1_depth 6 = .ok (.aload_n 0, 1) := by decide +kernel
theorem dX1_depth_7 : decode cX1_depth 7 = .ok (.getfield 9, 3) := by decide +kernel
theorem dX1_depth_10 : decode cX1_depth 10 = .ok (.iconst 1, 1) := by decide +kernel
theorem dX1_depth_11 : decode cX1_depth 11 = .ok (.iaload, 1) := by decide +kernel
theorem dX1_depth_12 : decode cX1_depth 12 = .ok (.iadd, 1) := by decide +kernel
theorem dX1_depth_13 : decode cX1_depth 13 = .ok (.aload_n 0, 1) := by decide +kernel
theorem dX1_depth_14 : decode cX1_depth 14 = .ok (.getfield 9, 3) := by decide +kernel
theorem dX1_depth_17 : decode cX1_depth 17 = .ok (.iconst 2, 1) := by decide +kernel
theorem dX1_depth_18 : decode cX1_depth 18 = .ok (.iaload, 1) := by decide +kernel
theorem dX1_depth_19 : decode cX1_depth 19 = .ok (.iadd, 1) := by decide +kernel
theorem dX1_depth_20 : decode cX1_depth 20 = .ok (.aload_n 0, 1) := by decide +kernel
theorem dX1_depth_21 : decode cX1_depth 21 = .ok (.getfield 9, 3) := by decide +kernel
theorem dX1_depth_24 : decode cX1_depth 24 = .ok (.iconst 3, 1) := by decide +kernel
theorem dX1_depth_25 : decode cX1_depth 25 = .ok (.iaload, 1) := by decide +kernel
theorem dX1_depth_26 : decode cX1_depth 26 = .ok (.iadd, 1) := by decide +kernel
theorem dX1_depth_27 : decode cX1_depth 27 = .ok (.ireturn, 1) := by decide +kernel
theorem dX1_lose_0 : decode cX1_lose 0 = .ok (.iconst 0, 1) := by decide +kernel
theorem dX1_lose_1 : decode cX1_lose 1 = .ok (.istore_n 2, 1) := by decide +kernel
theorem dX1_lose_2 : decode cX1_lose 2 = .ok (.iconst 0, 1) := by decide +kernel
theorem dX1_lose_3 : decode cX1_lose 3 = .ok (.istore_n 3, 1) := by decide +kernel
theorem dX1_lose_4 : decode cX1_lose 4 = .ok (.iload_n 3, 1) := by decide +kernel
theorem dX1_lose_5 : decode cX1_lose 5 = .ok (.iconst 4, 1) := by decide +kernel
theorem dX1_lose_6 : decode cX1_lose 6 = .ok (.if_icmp .ge 20, 3) := by decide +kernel
theorem dX1_lose_9 : decode cX1_lose 9 = .ok (.iload_n 2, 1) := by decide +kernel
theorem dX1_lose_10 : decode cX1_lose 10 = .ok (.aload_n 0, 1) := by decide +kernel
theorem dX1_lose_11 : decode cX1_lose 11 = .ok (.iload_n 3, 1) := by decide +kernel
theorem dX1_lose_12 : decode cX1_lose 12 = .ok (.iload_n 1, 1) := by decide +kernel
theorem dX1_lose_13 : decode cX1_lose 13 = .ok (.iload_n 2, 1) := by decide +kernel
theorem dX1_lose_14 : decode cX1_lose 14 = .ok (.isub, 1) := by decide +kernel
theorem dX1_lose_15 : decode cX1_lose 15 = .ok (.invokevirtual 19, 3) := by decide +kernel
theorem dX1_lose_18 : decode cX1_lose 18 = .ok (.iadd, 1) := by decide +kernel
theorem dX1_lose_19 : decode cX1_lose 19 = .ok (.istore_n 2, 1) := by decide +kernel
theorem dX1_lose_20 : decode cX1_lose 20 = .ok (.iinc 3 1, 3) := by decide +kernel
theorem dX1_lose_23 : decode cX1_lose 23 = .ok (.goto (-19), 3) := by decide +kernel
theorem dX1_lose_26 : decode cX1_lose 26 = .ok (.iload_n 2, 1) := by decide +kernel
theorem dX1_lose_27 : decode cX1_lose 27 = .ok (.ireturn, 1) := by decide +kernel
theorem dX1_becomeWorn_0 : decode cX1_becomeWorn 0 = .ok (.iconst 0, 1) := by decide +kernel
theorem dX1_becomeWorn_1 : decode cX1_becomeWorn 1 = .ok (.istore_n 2, 1) := by decide +kernel
theorem dX1_becomeWorn_2 : decode cX1_becomeWorn 2 = .ok (.iconst 2, 1) := by decide +kernel
theorem dX1_becomeWorn_3 : decode cX1_becomeWorn 3 = .ok (.istore_n 3, 1) := by decide +kernel
theorem dX1_becomeWorn_4 : decode cX1_becomeWorn 4 = .ok (.iload_n 3, 1) := by decide +kernel
theorem dX1_becomeWorn_5 : decode cX1_becomeWorn 5 = .ok (.ifCond .lt 20, 3) := by decide +kernel
theorem dX1_becomeWorn_8 : decode cX1_becomeWorn 8 = .ok (.iload_n 2, 1) := by decide +kernel
theorem dX1_becomeWorn_9 : decode cX1_becomeWorn 9 = .ok (.aload_n 0, 1) := by decide +kernel
theorem dX1_becomeWorn_10 : decode cX1_becomeWorn 10 = .ok (.iload_n 3, 1) := by decide +kernel
theorem dX1_becomeWorn_11 : decode cX1_becomeWorn 11 = .ok (.iload_n 1, 1) := by decide +kernel
theorem dX1_becomeWorn_12 : decode cX1_becomeWorn 12 = .ok (.iload_n 2, 1) := by decide +kernel
theorem dX1_becomeWorn_13 : decode cX1_becomeWorn 13 = .ok (.isub, 1) := by decide +kernel
theorem dX1_becomeWorn_14 : decode cX1_becomeWorn 14 = .ok (.invokevirtual 19, 3) := by decide +kernel
theorem dX1_becomeWorn_17 : decode cX1_becomeWorn 17 = .ok (.iadd, 1) := by decide +kernel
theorem dX1_becomeWorn_18 : decode cX1_becomeWorn 18 = .ok (.istore_n 2, 1) := by decide +kernel
theorem dX1_becomeWorn_19 : decode cX1_becomeWorn 19 = .ok (.iinc 3 (-1), 3) := by decide +kernel
theorem dX1_becomeWorn_22 : decode cX1_becomeWorn 22 = .ok (.goto (-18), 3) := by decide +kernel
theorem dX1_becomeWorn_25 : decode cX1_becomeWorn 25 = .ok (.aload_n 0, 1) := by decide +kernel
theorem dX1_becomeWorn_26 : decode cX1_becomeWorn 26 = .ok (.getfield 9, 3) := by decide +kernel
theorem dX1_becomeWorn_29 : decode cX1_becomeWorn 29 = .ok (.iconst 3, 1) := by decide +kernel
theorem dX1_becomeWorn_30 : decode cX1_becomeWorn 30 = .ok (.dup2, 1) := by decide +kernel
theorem dX1_becomeWorn_31 : decode cX1_becomeWorn 31 = .ok (.iaload, 1) := by decide +kernel
theorem dX1_becomeWorn_32 : decode cX1_becomeWorn 32 = .ok (.iload_n 2, 1) := by decide +kernel
theorem dX1_becomeWorn_33 : decode cX1_becomeWorn 33 = .ok (.iadd, 1) := by decide +kernel
theorem dX1_becomeWorn_34 : decode cX1_becomeWorn 34 = .ok (.iastore, 1) := by decide +kernel
theorem dX1_becomeWorn_35 : decode cX1_becomeWorn 35 = .ok (.iload_n 2, 1) := by decide +kernel
theorem dX1_becomeWorn_36 : decode cX1_becomeWorn 36 = .ok (.ireturn, 1) := by decide +kernel
theorem dX1_becomePushed_0 : decode cX1_becomePushed 0 = .ok (.aload_n 0, 1) := by decide +kernel
theorem dX1_becomePushed_1 : decode cX1_becomePushed 1 = .ok (.invokevirtual 23, 3) := by decide +kernel
theorem dX1_becomePushed_4 : decode cX1_becomePushed 4 = .ok (.istore_n 1, 1) := by decide +kernel
theorem dX1_becomePushed_5 : decode cX1_becomePushed 5 = .ok (.iload_n 1, 1) := by decide +kernel
theorem dX1_becomePushed_6 : decode cX1_becomePushed 6 = .ok (.aload_n 0, 1) := by decide +kernel
theorem dX1_becomePushed_7 : decode cX1_becomePushed 7 = .ok (.getfield 9, 3) := by decide +kernel
theorem dX1_becomePushed_10 : decode cX1_becomePushed 10 = .ok (.iconst 2, 1) := by decide +kernel
theorem dX1_becomePushed_11 : decode cX1_becomePushed 11 = .ok (.iaload, 1) := by decide +kernel
theorem dX1_becomePushed_12 : decode cX1_becomePushed 12 = .ok (.isub, 1) := by decide +kernel
theorem dX1_becomePushed_13 : decode cX1_becomePushed 13 = .ok (.istore_n 2, 1) := by decide +kernel
theorem dX1_becomePushed_14 : decode cX1_becomePushed 14 = .ok (.aload_n 0, 1) := by decide +kernel
theorem dX1_becomePushed_15 : decode cX1_becomePushed 15 = .ok (.getfield 9, 3) := by decide +kernel
theorem dX1_becomePushed_18 : decode cX1_becomePushed 18 = .ok (.iconst 0, 1) := by decide +kernel
theorem dX1_becomePushed_19 : decode cX1_becomePushed 19 = .ok (.iconst 0, 1) := by decide +kernel
theorem dX1_becomePushed_20 : decode cX1_becomePushed 20 = .ok (.iastore, 1) := by decide +kernel
theorem dX1_becomePushed_21 : decode cX1_becomePushed 21 = .ok (.aload_n 0, 1) := by decide +kernel
theorem dX1_becomePushed_22 : decode cX1_becomePushed 22 = .ok (.getfield 9, 3) := by decide +kernel
theorem dX1_becomePushed_25 : decode cX1_becomePushed 25 = .ok (.iconst 1, 1) := by decide +kernel
theorem dX1_becomePushed_26 : decode cX1_becomePushed 26 = .ok (.iconst 0, 1) := by decide +kernel
theorem dX1_becomePushed_27 : decode cX1_becomePushed 27 = .ok (.iastore, 1) := by decide +kernel
theorem dX1_becomePushed_28 : decode cX1_becomePushed 28 = .ok (.aload_n 0, 1) := by decide +kernel
theorem dX1_becomePushed_29 : decode cX1_becomePushed 29 = .ok (.getfield 9, 3) := by decide +kernel
theorem dX1_becomePushed_32 : decode cX1_becomePushed 32 = .ok (.iconst 2, 1) := by decide +kernel
theorem dX1_becomePushed_33 : decode cX1_becomePushed 33 = .ok (.iload_n 1, 1) := by decide +kernel
theorem dX1_becomePushed_34 : decode cX1_becomePushed 34 = .ok (.iastore, 1) := by decide +kernel
theorem dX1_becomePushed_35 : decode cX1_becomePushed 35 = .ok (.aload_n 0, 1) := by decide +kernel
theorem dX1_becomePushed_36 : decode cX1_becomePushed 36 = .ok (.getfield 9, 3) := by decide +kernel
theorem dX1_becomePushed_39 : decode cX1_becomePushed 39 = .ok (.iconst 3, 1) := by decide +kernel
theorem dX1_becomePushed_40 : decode cX1_becomePushed 40 = .ok (.iconst 0, 1) := by decide +kernel
theorem dX1_becomePushed_41 : decode cX1_becomePushed 41 = .ok (.iastore, 1) := by decide +kernel
theorem dX1_becomePushed_42 : decode cX1_becomePushed 42 = .ok (.iload_n 2, 1) := by decide +kernel
theorem dX1_becomePushed_43 : decode cX1_becomePushed 43 = .ok (.ireturn, 1) := by decide +kernel
theorem dX1_take_0 : decode cX1_take 0 = .ok (.iload_n 1, 1) := by decide +kernel
theorem dX1_take_1 : decode cX1_take 1 = .ok (.ifCond .lt 12, 3) := by decide +kernel
theorem dX1_take_4 : decode cX1_take 4 = .ok (.iload_n 1, 1) := by decide +kernel
theorem dX1_take_5 : decode cX1_take 5 = .ok (.aload_n 0, 1) := by decide +kernel
theorem dX1_take_6 : decode cX1_take 6 = .ok (.getfield 9, 3) := by decide +kernel
theorem dX1_take_9 : decode cX1_take 9 = .ok (.arraylength, 1) := by decide +kernel
theorem dX1_take_10 : decode cX1_take 10 = .ok (.if_icmp .lt 5, 3) := by decide +kernel
theorem dX1_take_13 : decode cX1_take 13 = .ok (.iconst 0, 1) := by decide +kernel
theorem dX1_take_14 : decode cX1_take 14 = .ok (.ireturn, 1) := by decide +kernel
theorem dX1_take_15 : decode cX1_take 15 = .ok (.iload_n 2, 1) := by decide +kernel
theorem dX1_take_16 : decode cX1_take 16 = .ok (.aload_n 0, 1) := by decide +kernel
theorem dX1_take_17 : decode cX1_take 17 = .ok (.getfield 9, 3) := by decide +kernel
theorem dX1_take_20 : decode cX1_take 20 = .ok (.iload_n 1, 1) := by decide +kernel
theorem dX1_take_21 : decode cX1_take 21 = .ok (.iaload, 1) := by decide +kernel
theorem dX1_take_22 : decode cX1_take 22 = .ok (.invokestatic 27, 3) := by decide +kernel
theorem dX1_take_25 : decode cX1_take 25 = .ok (.istore_n 3, 1) := by decide +kernel
theorem dX1_take_26 : decode cX1_take 26 = .ok (.aload_n 0, 1) := by decide +kernel
theorem dX1_take_27 : decode cX1_take 27 = .ok (.getfield 9, 3) := by decide +kernel
theorem dX1_take_30 : decode cX1_take 30 = .ok (.iload_n 1, 1) := by decide +kernel
theorem dX1_take_31 : decode cX1_take 31 = .ok (.dup2, 1) := by decide +kernel
theorem dX1_take_32 : decode cX1_take 32 = .ok (.iaload, 1) := by decide +kernel
theorem dX1_take_33 : decode cX1_take 33 = .ok (.iload_n 3, 1) := by decide +kernel
theorem dX1_take_34 : decode cX1_take 34 = .ok (.isub, 1) := by decide +kernel
theorem dX1_take_35 : decode cX1_take 35 = .ok (.iastore, 1) := by decide +kernel
theorem dX1_take_36 : decode cX1_take 36 = .ok (.iload_n 3, 1) := by decide +kernel
theorem dX1_take_37 : decode cX1_take 37 = .ok (.ireturn, 1) := by decide +kernel
theorem dX1_priceTells_0 : decode cX1_priceTells 0 = .ok (.aload_n 0, 1) := by decide +kernel
theorem dX1_priceTells_1 : decode cX1_priceTells 1 = .ok (.getfield 32, 3) := by decide +kernel
theorem dX1_priceTells_4 : decode cX1_priceTells 4 = .ok (.i2l, 1) := by decide +kernel
theorem dX1_priceTells_5 : decode cX1_priceTells 5 = .ok (.aload_n 0, 1) := by decide +kernel
theorem dX1_priceTells_6 : decode cX1_priceTells 6 = .ok (.invokevirtual 23, 3) := by decide +kernel
theorem dX1_priceTells_9 : decode cX1_priceTells 9 = .ok (.i2l, 1) := by decide +kernel
theorem dX1_priceTells_10 : decode cX1_priceTells 10 = .ok (.lsub, 1) := by decide +kernel
theorem dX1_priceTells_11 : decode cX1_priceTells 11 = .ok (.lstore_n 1, 1) := by decide +kernel
theorem dX1_priceTells_12 : decode cX1_priceTells 12 = .ok (.lload_n 1, 1) := by decide +kernel
theorem dX1_priceTells_13 : decode cX1_priceTells 13 = .ok (.lconst 0, 1) := by decide +kernel
theorem dX1_priceTells_14 : decode cX1_priceTells 14 = .ok (.lcmp, 1) := by decide +kernel
theorem dX1_priceTells_15 : decode cX1_priceTells 15 = .ok (.ifCond .ge 12, 3) := by decide +kernel
theorem dX1_priceTells_18 : decode cX1_priceTells 18 = .ok (.aload_n 0, 1) := by decide +kernel
theorem dX1_priceTells_19 : decode cX1_priceTells 19 = .ok (.getfield 35, 3) := by decide +kernel
theorem dX1_priceTells_22 : decode cX1_priceTells 22 = .ok (.ifCond .gt 5, 3) := by decide +kernel
theorem dX1_priceTells_25 : decode cX1_priceTells 25 = .ok (.lconst 0, 1) := by decide +kernel
theorem dX1_priceTells_26 : decode cX1_priceTells 26 = .ok (.lreturn, 1) := by decide +kernel
theorem dX1_priceTells_27 : decode cX1_priceTells 27 = .ok (.lload_n 1, 1) := by decide +kernel
theorem dX1_priceTells_28 : decode cX1_priceTells 28 = .ok (.aload_n 0, 1) := by decide +kernel
theorem dX1_priceTells_29 : decode cX1_priceTells 29 = .ok (.getfield 35, 3) := by decide +kernel
theorem dX1_priceTells_32 : decode cX1_priceTells 32 = .ok (.i2l, 1) := by decide +kernel
theorem dX1_priceTells_33 : decode cX1_priceTells 33 = .ok (.lmul, 1) := by decide +kernel
theorem dX1_priceTells_34 : decode cX1_priceTells 34 = .ok (.lreturn, 1) := by decide +kernel
theorem dX2_init_0 : decode cX2_init 0 = .ok (.aload_n 0, 1) := by decide +kernel
theorem dX2_init_1 : decode cX2_init 1 = .ok (.invokespecial 3, 3) := by decide +kernel
theorem dX2_init_4 : decode cX2_init 4 = .ok (.aload_n 0, 1) := by decide +kernel
theorem dX2_init_5 : decode cX2_init 5 = .ok (.iconst 0, 1) := by decide +kernel
theorem dX2_init_6 : decode cX2_init 6 = .ok (.putfield 9, 3) := by decide +kernel
theorem dX2_init_9 : decode cX2_init 9 = .ok (.aload_n 0, 1) := by decide +kernel
theorem dX2_init_10 : decode cX2_init 10 = .ok (.iload_n 1, 1) := by decide +kernel
theorem dX2_init_11 : decode cX2_init 11 = .ok (.putfield 15, 3) := by decide +kernel
theorem dX2_init_14 : decode cX2_init 14 = .ok (.aload_n 0, 1) := by decide +kernel
theorem dX2_init_15 : decode cX2_init 15 = .ok (.iload_n 2, 1) := by decide +kernel
theorem dX2_init_16 : decode cX2_init 16 = .ok (.putfield 18, 3) := by decide +kernel
theorem dX2_init_19 : decode cX2_init 19 = .ok (.aload_n 0, 1) := by decide +kernel
theorem dX2_init_20 : decode cX2_init 20 = .ok (.iload_n 3, 1) := by decide +kernel
theorem dX2_init_21 : decode cX2_init 21 = .ok (.putfield 21, 3) := by decide +kernel
theorem dX2_init_24 : decode cX2_init 24 = .ok (.aload_n 0, 1) := by decide +kernel
theorem dX2_init_25 : decode cX2_init 25 = .ok (.iload 4, 2) := by decide +kernel
theorem dX2_init_27 : decode cX2_init 27 = .ok (.putfield 24, 3) := by decide +kernel
theorem dX2_init_30 : decode cX2_init 30 = .ok (.return_, 1) := by decide +kernel
theorem dX2_goOn_0 : decode cX2_goOn 0 = .ok (.aload_n 0, 1) := by decide +kernel
theorem dX2_goOn_1 : decode cX2_goOn 1 = .ok (.getfield 9, 3) := by decide +kernel
theorem dX2_goOn_4 : decode cX2_goOn 4 = .ok (.iconst 2, 1) := by decide +kernel
theorem dX2_goOn_5 : decode cX2_goOn 5 = .ok (.if_icmp .eq 12, 3) := by decide +kernel
theorem dX2_goOn_8 : decode cX2_goOn 8 = .ok (.aload_n 0, 1) := by decide +kernel
theorem dX2_goOn_9 : decode cX2_goOn 9 = .ok (.getfield 9, 3) := by decide +kernel
theorem dX2_goOn_12 : decode cX2_goOn 12 = .ok (.iconst 3, 1) := by decide +kernel
theorem dX2_goOn_13 : decode cX2_goOn 13 = .ok (.if_icmp .eq 4, 3) := by decide +kernel
theorem dX2_goOn_16 : decode cX2_goOn 16 = .ok (.return_, 1) := by decide +kernel
theorem dX2_goOn_17 : decode cX2_goOn 17 = .ok (.aload_n 0, 1) := by decide +kernel
theorem dX2_goOn_18 : decode cX2_goOn 18 = .ok (.dup, 1) := by decide +kernel
theorem dX2_goOn_19 : decode cX2_goOn 19 = .ok (.getfield 27, 3) := by decide +kernel
theorem dX2_goOn_22 : decode cX2_goOn 22 = .ok (.iconst 1, 1) := by decide +kernel
theorem dX2_goOn_23 : decode cX2_goOn 23 = .ok (.isub, 1) := by decide +kernel
theorem dX2_goOn_24 : decode cX2_goOn 24 = .ok (.putfield 27, 3) := by decide +kernel
theorem dX2_goOn_27 : decode cX2_goOn 27 = .ok (.aload_n 0, 1) := by decide +kernel
theorem dX2_goOn_28 : decode cX2_goOn 28 = .ok (.getfield 27, 3) := by decide +kernel
theorem dX2_goOn_31 : decode cX2_goOn 31 = .ok (.ifCond .ne 16, 3) := by decide +kernel
theorem dX2_goOn_34 : decode cX2_goOn 34 = .ok (.aload_n 0, 1) := by decide +kernel
theorem dX2_goOn_35 : decode cX2_goOn 35 = .ok (.iconst 0, 1) := by decide +kernel
theorem dX2_goOn_36 : decode cX2_goOn 36 = .ok (.putfield 9, 3) := by decide +kernel
theorem dX2_goOn_39 : decode cX2_goOn 39 = .ok (.aload_n 0, 1) := by decide +kernel
theorem dX2_goOn_40 : decode cX2_goOn 40 = .ok (.aload_n 0, 1) := by decide +kernel
theorem dX2_goOn_41 : decode cX2_goOn 41 = .ok (.getfield 30, 3) := by decide +kernel
theorem dX2_goOn_44 : decode cX2_goOn 44 = .ok (.putfield 24, 3) := by decide +kernel
theorem dX2_goOn_47 : decode cX2_goOn 47 = .ok (.return_, 1) := by decide +kernel
theorem dX2_goDown_0 : decode cX2_goDown 0 = .ok (.aload_n 0, 1) := by decide +kernel
theorem dX2_goDown_1 : decode cX2_goDown 1 = .ok (.iconst 3, 1) := by decide +kernel
theorem dX2_goDown_2 : decode cX2_goDown 2 = .ok (.putfield 9, 3) := by decide +kernel
theorem dX2_goDown_5 : decode cX2_goDown 5 = .ok (.aload_n 0, 1) := by decide +kernel
theorem dX2_goDown_6 : decode cX2_goDown 6 = .ok (.aload_n 1, 1) := by decide +kernel
theorem dX2_goDown_7 : decode cX2_goDown 7 = .ok (.getfield 33, 3) := by decide +kernel
theorem dX2_goDown_10 : decode cX2_goDown 10 = .ok (.putfield 24, 3) := by decide +kernel
theorem dX2_goDown_13 : decode cX2_goDown 13 = .ok (.aload_n 0, 1) := by decide +kernel
theorem dX2_goDown_14 : decode cX2_goDown 14 = .ok (.aload_n 1, 1) := by decide +kernel
theorem dX2_goDown_15 : decode cX2_goDown 15 = .ok (.getfield 36, 3) := by decide +kernel
theorem dX2_goDown_18 : decode cX2_goDown 18 = .ok (.putfield 30, 3) := by decide +kernel
theorem dX2_goDown_21 : decode cX2_goDown 21 = .ok (.aload_n 0, 1) := by decide +kernel
theorem dX2_goDown_22 : decode cX2_goDown 22 = .ok (.aload_n 1, 1) := by decide +kernel
theorem dX2_goDown_23 : decode cX2_goDown 23 = .ok (.getfield 39, 3) := by decide +kernel
theorem dX2_goDown_26 : decode cX2_goDown 26 = .ok (.putfield 27, 3) := by decide +kernel
theorem dX2_goDown_29 : decode cX2_goDown 29 = .ok (.aload_n 0, 1) := by decide +kernel
theorem dX2_goDown_30 : decode cX2_goDown 30 = .ok (.dup, 1) := by decide +kernel
theorem dX2_goDown_31 : decode cX2_goDown 31 = .ok (.getfield 42, 3) := by decide +kernel
theorem dX2_goDown_34 : decode cX2_goDown 34 = .ok (.iconst 1, 1) := by decide +kernel
theorem dX2_goDown_35 : decode cX2_goDown 35 = .ok (.iadd, 1) := by decide +kernel
theorem dX2_goDown_36 : decode cX2_goDown 36 = .ok (.putfield 42, 3) := by decide +kernel
theorem dX2_goDown_39 : decode cX2_goDown 39 = .ok (.return_, 1) := by decide +kernel
theorem dX2_waitAt_0 : decode cX2_waitAt 0 = .ok (.aload_n 0, 1) := by decide +kernel
theorem dX2_waitAt_1 : decode cX2_waitAt 1 = .ok (.iconst 1, 1) := by decide +kernel
theorem dX2_waitAt_2 : decode cX2_waitAt 2 = .ok (.putfield 9, 3) := by decide +kernel
theorem dX2_waitAt_5 : decode cX2_waitAt 5 = .ok (.aload_n 0, 1) := by decide +kernel
theorem dX2_waitAt_6 : decode cX2_waitAt 6 = .ok (.aload_n 1, 1) := by decide +kernel
theorem dX2_waitAt_7 : decode cX2_waitAt 7 = .ok (.getfield 45, 3) := by decide +kernel
theorem dX2_waitAt_10 : decode cX2_waitAt 10 = .ok (.putfield 24, 3) := by decide +kernel
theorem dX2_waitAt_13 : decode cX2_waitAt 13 = .ok (.return_, 1) := by decide +kernel
theorem dX2_rideOn_0 : decode cX2_rideOn 0 = .ok (.aload_n 0, 1) := by decide +kernel
theorem dX2_rideOn_1 : decode cX2_rideOn 1 = .ok (.iconst 2, 1) := by decide +kernel
theorem dX2_rideOn_2 : decode cX2_rideOn 2 = .ok (.putfield 9, 3) := by decide +kernel
theorem dX2_rideOn_5 : decode cX2_rideOn 5 = .ok (.aload_n 0, 1) := by decide +kernel
theorem dX2_rideOn_6 : decode cX2_rideOn 6 = .ok (.aload_n 1, 1) := by decide +kernel
theorem dX2_rideOn_7 : decode cX2_rideOn 7 = .ok (.getfield 48, 3) := by decide +kernel
theorem dX2_rideOn_10 : decode cX2_rideOn 10 = .ok (.putfield 30, 3) := by decide +kernel
theorem dX2_rideOn_13 : decode cX2_rideOn 13 = .ok (.aload_n 0, 1) := by decide +kernel
theorem dX2_rideOn_14 : decode cX2_rideOn 14 = .ok (.aload_n 1, 1) := by decide +kernel
theorem dX2_rideOn_15 : decode cX2_rideOn 15 = .ok (.getfield 49, 3) := by decide +kernel
theorem dX2_rideOn_18 : decode cX2_rideOn 18 = .ok (.putfield 27, 3) := by decide +kernel
theorem dX2_rideOn_21 : decode cX2_rideOn 21 = .ok (.aload_n 0, 1) := by decide +kernel
theorem dX2_rideOn_22 : decode cX2_rideOn 22 = .ok (.dup, 1) := by decide +kernel
theorem dX2_rideOn_23 : decode cX2_rideOn 23 = .ok (.getfield 50, 3) := by decide +kernel
theorem dX2_rideOn_26 : decode cX2_rideOn 26 = .ok (.iconst 1, 1) := by decide +kernel
theorem dX2_rideOn_27 : decode cX2_rideOn 27 = .ok (.iadd, 1) := by decide +kernel
theorem dX2_rideOn_28 : decode cX2_rideOn 28 = .ok (.putfield 50, 3) := by decide +kernel
theorem dX2_rideOn_31 : decode cX2_rideOn 31 = .ok (.return_, 1) := by decide +kernel
theorem dX3_init_0 : decode cX3_init 0 = .ok (.aload_n 0, 1) := by decide +kernel
theorem dX3_init_1 : decode cX3_init 1 = .ok (.invokespecial 3, 3) := by decide +kernel
theorem dX3_init_4 : decode cX3_init 4 = .ok (.aload_n 0, 1) := by decide +kernel
theorem dX3_init_5 : decode cX3_init 5 = .ok (.new 9, 3) := by decide +kernel
theorem dX3_init_8 : decode cX3_init 8 = .ok (.dup, 1) := by decide +kernel
theorem dX3_init_9 : decode cX3_init 9 = .ok (.invokespecial 11, 3) := by decide +kernel
theorem dX3_init_12 : decode cX3_init 12 = .ok (.putfield 12, 3) := by decide +kernel
theorem dX3_init_15 : decode cX3_init 15 = .ok (.aload_n 0, 1) := by decide +kernel
theorem dX3_init_16 : decode cX3_init 16 = .ok (.iload_n 1, 1) := by decide +kernel
theorem dX3_init_17 : decode cX3_init 17 = .ok (.putfield 18, 3) := by decide +kernel
theorem dX3_init_20 : decode cX3_init 20 = .ok (.aload_n 0, 1) := by decide +kernel
theorem dX3_init_21 : decode cX3_init 21 = .ok (.iload_n 2, 1) := by decide +kernel
theorem dX3_init_22 : decode cX3_init 22 = .ok (.putfield 22, 3) := by decide +kernel
theorem dX3_init_25 : decode cX3_init 25 = .ok (.aload_n 0, 1) := by decide +kernel
theorem dX3_init_26 : decode cX3_init 26 = .ok (.iload_n 3, 1) := by decide +kernel
theorem dX3_init_27 : decode cX3_init 27 = .ok (.putfield 25, 3) := by decide +kernel
theorem dX3_init_30 : decode cX3_init 30 = .ok (.aload_n 0, 1) := by decide +kernel
theorem dX3_init_31 : decode cX3_init 31 = .ok (.iload 4, 2) := by decide +kernel
theorem dX3_init_33 : decode cX3_init 33 = .ok (.putfield 28, 3) := by decide +kernel
theorem dX3_init_36 : decode cX3_init 36 = .ok (.aload_n 0, 1) := by decide +kernel
theorem dX3_init_37 : decode cX3_init 37 = .ok (.iload 5, 2) := by decide +kernel
theorem dX3_init_39 : decode cX3_init 39 = .ok (.putfield 31, 3) := by decide +kernel
theorem dX3_init_42 : decode cX3_init 42 = .ok (.aload_n 0, 1) := by decide +kernel
theorem dX3_init_43 : decode cX3_init 43 = .ok (.iload 6, 2) := by decide +kernel
theorem dX3_init_45 : decode cX3_init 45 = .ok (.putfield 34, 3) := by decide +kernel
theorem dX3_init_48 : decode cX3_init 48 = .ok (.return_, 1) := by decide +kernel
theorem dX3_takeLast_0 : decode cX3_takeLast 0 = .ok (.aload_n 0, 1) := by decide +kernel
theorem dX3_takeLast_1 : decode cX3_takeLast 1 = .ok (.getfield 12, 3) := by decide +kernel
theorem dX3_takeLast_4 : decode cX3_takeLast 4 = .ok (.aload_n 1, 1) := by decide +kernel
theorem dX3_takeLast_5 : decode cX3_takeLast 5 = .ok (.invokevirtual 37, 3) := by decide +kernel
theorem dX3_takeLast_8 : decode cX3_takeLast 8 = .ok (.pop, 1) := by decide +kernel
theorem dX3_takeLast_9 : decode cX3_takeLast 9 = .ok (.aload_n 0, 1) := by decide +kernel
theorem dX3_takeLast_10 : decode cX3_takeLast 10 = .ok (.dup, 1) := by decide +kernel
theorem dX3_takeLast_11 : decode cX3_takeLast 11 = .ok (.getfield 41, 3) := by decide +kernel
theorem dX3_takeLast_14 : decode cX3_takeLast 14 = .ok (.aload_n 1, 1) := by decide +kernel
theorem dX3_takeLast_15 : decode cX3_takeLast 15 = .ok (.getfield 44, 3) := by decide +kernel
theorem dX3_takeLast_18 : decode cX3_takeLast 18 = .ok (.iadd, 1) := by decide +kernel
theorem dX3_takeLast_19 : decode cX3_takeLast 19 = .ok (.putfield 41, 3) := by decide +kernel
theorem dX3_takeLast_22 : decode cX3_takeLast 22 = .ok (.return_, 1) := by decide +kernel
theorem dX3_fill_0 : decode cX3_fill 0 = .ok (.aload_n 0, 1) := by decide +kernel
theorem dX3_fill_1 : decode cX3_fill 1 = .ok (.getfield 28, 3) := by decide +kernel
theorem dX3_fill_4 : decode cX3_fill 4 = .ok (.istore_n 1, 1) := by decide +kernel
theorem dX3_fill_5 : decode cX3_fill 5 = .ok (.iconst 0, 1) := by decide +kernel
theorem dX3_fill_6 : decode cX3_fill 6 = .ok (.istore_n 2, 1) := by decide +kernel
theorem dX3_fill_7 : decode cX3_fill 7 = .ok (.iload_n 2, 1) := by decide +kernel
theorem dX3_fill_8 : decode cX3_fill 8 = .ok (.bipush 60, 2) := by decide +kernel
theorem dX3_fill_10 : decode cX3_fill 10 = .ok (.if_icmp .ge 74, 3) := by decide +kernel
theorem dX3_fill_13 : decode cX3_fill 13 = .ok (.aload_n 0, 1) := by decide +kernel
theorem dX3_fill_14 : decode cX3_fill 14 = .ok (.getfield 12, 3) := by decide +kernel
theorem dX3_fill_17 : decode cX3_fill 17 = .ok (.invokevirtual 49, 3) := by decide +kernel
theorem dX3_fill_20 : decode cX3_fill 20 = .ok (.ifCond .ne 64, 3) := by decide +kernel
theorem dX3_fill_23 : decode cX3_fill 23 = .ok (.aload_n 0, 1) := by decide +kernel
theorem dX3_fill_24 : decode cX3_fill 24 = .ok (.getfield 12, 3) := by decide +kernel
theorem dX3_fill_27 : decode cX3_fill 27 = .ok (.iconst 0, 1) := by decide +kernel
theorem dX3_fill_28 : decode cX3_fill 28 = .ok (.invokevirtual 53, 3) := by decide +kernel
theorem dX3_fill_31 : decode cX3_fill 31 = .ok (.checkcast 45, 3) := by decide +kernel
theorem dX3_fill_34 : decode cX3_fill 34 = .ok (.getfield 44, 3) := by decide +kernel
theorem dX3_fill_37 : decode cX3_fill 37 = .ok (.iload_n 1, 1) := by decide +kernel
theorem dX3_fill_38 : decode cX3_fill 38 = .ok (.if_icmp .gt 46, 3) := by decide +kernel
theorem dX3_fill_41 : decode cX3_fill 41 = .ok (.aload_n 0, 1) := by decide +kernel
theorem dX3_fill_42 : decode cX3_fill 42 = .ok (.getfield 12, 3) := by decide +kernel
theorem dX3_fill_45 : decode cX3_fill 45 = .ok (.iconst 0, 1) := by decide +kernel
theorem dX3_fill_46 : decode cX3_fill 46 = .ok (.invokevirtual 57, 3) := by decide +kernel
theorem dX3_fill_49 : decode cX3_fill 49 = .ok (.checkcast 45, 3) := by decide +kernel
theorem dX3_fill_52 : decode cX3_fill 52 = .ok (.astore_n 3, 1) := by decide +kernel
theorem dX3_fill_53 : decode cX3_fill 53 = .ok (.iload_n 1, 1) := by decide +kernel
theorem dX3_fill_54 : decode cX3_fill 54 = .ok (.aload_n 3, 1) := by decide +kernel
theorem dX3_fill_55 : decode cX3_fill 55 = .ok (.getfield 44, 3) := by decide +kernel
theorem dX3_fill_58 : decode cX3_fill 58 = .ok (.isub, 1) := by decide +kernel
theorem dX3_fill_59 : decode cX3_fill 59 = .ok (.istore_n 1, 1) := by decide +kernel
theorem dX3_fill_60 : decode cX3_fill 60 = .ok (.aload_n 0, 1) := by decide +kernel
theorem dX3_fill_61 : decode cX3_fill 61 = .ok (.dup, 1) := by decide +kernel
theorem dX3_fill_62 : decode cX3_fill 62 = .ok (.getfield 41, 3) := by decide +kernel
theorem dX3_fill_65 : decode cX3_fill 65 = .ok (.aload_n 3, 1) := by decide +kernel
theorem dX3_fill_66 : decode cX3_fill 66 = .ok (.getfield 44, 3) := by decide +kernel
theorem dX3_fill_69 : decode cX3_fill 69 = .ok (.isub, 1) := by decide +kernel
theorem dX3_fill_70 : decode cX3_fill 70 = .ok (.putfield 41, 3) := by decide +kernel
theorem dX3_fill_73 : decode cX3_fill 73 = .ok (.aload_n 3, 1) := by decide +kernel
theorem dX3_fill_74 : decode cX3_fill 74 = .ok (.aload_n 0, 1) := by decide +kernel
theorem dX3_fill_75 : decode cX3_fill 75 = .ok (.invokevirtual 60, 3) := by decide +kernel
theorem dX3_fill_78 : decode cX3_fill 78 = .ok (.iinc 2 1, 3) := by decide +kernel
theorem dX3_fill_81 : decode cX3_fill 81 = .ok (.goto (-74), 3) := by decide +kernel
theorem dX3_fill_84 : decode cX3_fill 84 = .ok (.return_, 1) := by decide +kernel
theorem dX4_init_0 : decode cX4_init 0 = .ok (.aload_n 0, 1) := by decide +kernel
theorem dX4_init_1 : decode cX4_init 1 = .ok (.invokespecial 1, 3) := by decide +kernel
theorem dX4_init_4 : decode cX4_init 4 = .ok (.aload_n 0, 1) := by decide +kernel
theorem dX4_init_5 : decode cX4_init 5 = .ok (.aload_n 1, 1) := by decide +kernel
theorem dX4_init_6 : decode cX4_init 6 = .ok (.putfield 7, 3) := by decide +kernel
theorem dX4_init_9 : decode cX4_init 9 = .ok (.aload_n 0, 1) := by decide +kernel
theorem dX4_init_10 : decode cX4_init 10 = .ok (.aload_n 2, 1) := by decide +kernel
theorem dX4_init_11 : decode cX4_init 11 = .ok (.putfield 13, 3) := by decide +kernel
theorem dX4_init_14 : decode cX4_init 14 = .ok (.aload_n 0, 1) := by decide +kernel
theorem dX4_init_15 : decode cX4_init 15 = .ok (.iload_n 3, 1) := by decide +kernel
theorem dX4_init_16 : decode cX4_init 16 = .ok (.putfield 16, 3) := by decide +kernel
theorem dX4_init_19 : decode cX4_init 19 = .ok (.return_, 1) := by decide +kernel
theorem dX4_takesPrices_0 : decode cX4_takesPrices 0 = .ok (.aload_n 0, 1) := by decide +kernel
theorem dX4_takesPrices_1 : decode cX4_takesPrices 1 = .ok (.getfield 7, 3) := by decide +kernel
theorem dX4_takesPrices_4 : decode cX4_takesPrices 4 = .ok (.getfield 20, 3) := by decide +kernel
theorem dX4_takesPrices_7 : decode cX4_takesPrices 7 = .ok (.aload_n 0, 1) := by decide +kernel
theorem dX4_takesPrices_8 : decode cX4_takesPrices 8 = .ok (.getfield 13, 3) := by decide +kernel
theorem dX4_takesPrices_11 : decode cX4_takesPrices 11 = .ok (.getfield 20, 3) := by decide +kernel
theorem dX4_takesPrices_14 : decode cX4_takesPrices 14 = .ok (.isub, 1) := by decide +kernel
theorem dX4_takesPrices_15 : decode cX4_takesPrices 15 = .ok (.invokestatic 25, 3) := by decide +kernel
theorem dX4_takesPrices_18 : decode cX4_takesPrices 18 = .ok (.aload_n 0, 1) := by decide +kernel
theorem dX4_takesPrices_19 : decode cX4_takesPrices 19 = .ok (.getfield 16, 3) := by decide +kernel
theorem dX4_takesPrices_22 : decode cX4_takesPrices 22 = .ok (.if_icmp .gt 7, 3) := by decide +kernel
theorem dX4_takesPrices_25 : decode cX4_takesPrices 25 = .ok (.iconst 1, 1) := by decide +kernel
theorem dX4_takesPrices_26 : decode cX4_takesPrices 26 = .ok (.goto 4, 3) := by decide +kernel
theorem dX4_takesPrices_29 : decode cX4_takesPrices 29 = .ok (.iconst 0, 1) := by decide +kernel
theorem dX4_takesPrices_30 : decode cX4_takesPrices 30 = .ok (.ireturn, 1) := by decide +kernel
theorem dX4_other_0 : decode cX4_other 0 = .ok (.aload_n 1, 1) := by decide +kernel
theorem dX4_other_1 : decode cX4_other 1 = .ok (.aload_n 0, 1) := by decide +kernel
theorem dX4_other_2 : decode cX4_other 2 = .ok (.getfield 7, 3) := by decide +kernel
theorem dX4_other_5 : decode cX4_other 5 = .ok (.if_acmp .ne 10, 3) := by decide +kernel
theorem dX4_other_8 : decode cX4_other 8 = .ok (.aload_n 0, 1) := by decide +kernel
theorem dX4_other_9 : decode cX4_other 9 = .ok (.getfield 13, 3) := by decide +kernel
theorem dX4_other_12 : decode cX4_other 12 = .ok (.goto 7, 3) := by decide +kernel
theorem dX4_other_15 : decode cX4_other 15 = .ok (.aload_n 0, 1) := by decide +kernel
theorem dX4_other_16 : decode cX4_other 16 = .ok (.getfield 7, 3) := by decide +kernel
theorem dX4_other_19 : decode cX4_other 19 = .ok (.areturn, 1) := by decide +kernel
theorem dX4_carriedFrom_0 : decode cX4_carriedFrom 0 = .ok (.aload_n 1, 1) := by decide +kernel
theorem dX4_carriedFrom_1 : decode cX4_carriedFrom 1 = .ok (.aload_n 0, 1) := by decide +kernel
theorem dX4_carriedFrom_2 : decode cX4_carriedFrom 2 = .ok (.getfield 7, 3) := by decide +kernel
theorem dX4_carriedFrom_5 : decode cX4_carriedFrom 5 = .ok (.if_acmp .ne 10, 3) := by decide +kernel
theorem dX4_carriedFrom_8 : decode cX4_carriedFrom 8 = .ok (.aload_n 0, 1) := by decide +kernel
theorem dX4_carriedFrom_9 : decode cX4_carriedFrom 9 = .ok (.getfield 31, 3) := by decide +kernel
theorem dX4_carriedFrom_12 : decode cX4_carriedFrom 12 = .ok (.goto 8, 3) := by decide +kernel
theorem dX4_carriedFrom_15 : decode cX4_carriedFrom 15 = .ok (.aload_n 0, 1) := by decide +kernel
theorem dX4_carriedFrom_16 : decode cX4_carriedFrom 16 = .ok (.getfield 31, 3) := by decide +kernel
theorem dX4_carriedFrom_19 : decode cX4_carriedFrom 19 = .ok (.ineg, 1) := by decide +kernel
theorem dX4_carriedFrom_20 : decode cX4_carriedFrom 20 = .ok (.ireturn, 1) := by decide +kernel
theorem dX4_carryFrom_0 : decode cX4_carryFrom 0 = .ok (.aload_n 0, 1) := by decide +kernel
theorem dX4_carryFrom_1 : decode cX4_carryFrom 1 = .ok (.dup, 1) := by decide +kernel
theorem dX4_carryFrom_2 : decode cX4_carryFrom 2 = .ok (.getfield 31, 3) := by decide +kernel
theorem dX4_carryFrom_5 : decode cX4_carryFrom 5 = .ok (.aload_n 1, 1) := by decide +kernel
theorem dX4_carryFrom_6 : decode cX4_carryFrom 6 = .ok (.aload_n 0, 1) := by decide +kernel
theorem dX4_carryFrom_7 : decode cX4_carryFrom 7 = .ok (.getfield 7, 3) := by decide +kernel
theorem dX4_carryFrom_10 : decode cX4_carryFrom 10 = .ok (.if_acmp .ne 7, 3) := by decide +kernel
theorem dX4_carryFrom_13 : decode cX4_carryFrom 13 = .ok (.iload_n 2, 1) := by decide +kernel
theorem dX4_carryFrom_14 : decode cX4_carryFrom 14 = .ok (.goto 5, 3) := by decide +kernel
theorem dX4_carryFrom_17 : decode cX4_carryFrom 17 = .ok (.iload_n 2, 1) := by decide +kernel
theorem dX4_carryFrom_18 : decode cX4_carryFrom 18 = .ok (.ineg, 1) := by decide +kernel
theorem dX4_carryFrom_19 : decode cX4_carryFrom 19 = .ok (.iadd, 1) := by decide +kernel
theorem dX4_carryFrom_20 : decode cX4_carryFrom 20 = .ok (.putfield 31, 3) := by decide +kernel
theorem dX4_carryFrom_23 : decode cX4_carryFrom 23 = .ok (.return_, 1) := by decide +kernel
theorem dX5_init_0 : decode cX5_init 0 = .ok (.aload_n 0, 1) := by decide +kernel
theorem dX5_init_1 : decode cX5_init 1 = .ok (.invokespecial 3, 3) := by decide +kernel
theorem dX5_init_4 : decode cX5_init 4 = .ok (.aload_n 0, 1) := by decide +kernel
theorem dX5_init_5 : decode cX5_init 5 = .ok (.sipush 400, 3) := by decide +kernel
theorem dX5_init_8 : decode cX5_init 8 = .ok (.newarray .int, 2) := by decide +kernel
theorem dX5_init_10 : decode cX5_init 10 = .ok (.putfield 9, 3) := by decide +kernel
theorem dX5_init_13 : decode cX5_init 13 = .ok (.aload_n 0, 1) := by decide +kernel
theorem dX5_init_14 : decode cX5_init 14 = .ok (.iconst 0, 1) := by decide +kernel
theorem dX5_init_15 : decode cX5_init 15 = .ok (.newarray .byte, 2) := by decide +kernel
theorem dX5_init_17 : decode cX5_init 17 = .ok (.putfield 15, 3) := by decide +kernel
theorem dX5_init_20 : decode cX5_init 20 = .ok (.return_, 1) := by decide +kernel
theorem dX5_takes_0 : decode cX5_takes 0 = .ok (.aload_n 0, 1) := by decide +kernel
theorem dX5_takes_1 : decode cX5_takes 1 = .ok (.aload_n 1, 1) := by decide +kernel
theorem dX5_takes_2 : decode cX5_takes 2 = .ok (.putfield 15, 3) := by decide +kernel
theorem dX5_takes_5 : decode cX5_takes 5 = .ok (.aload_n 0, 1) := by decide +kernel
theorem dX5_takes_6 : decode cX5_takes 6 = .ok (.iload_n 2, 1) := by decide +kernel
theorem dX5_takes_7 : decode cX5_takes 7 = .ok (.aload_n 1, 1) := by decide +kernel
theorem dX5_takes_8 : decode cX5_takes 8 = .ok (.arraylength, 1) := by decide +kernel
theorem dX5_takes_9 : decode cX5_takes 9 = .ok (.invokestatic 19, 3) := by decide +kernel
theorem dX5_takes_12 : decode cX5_takes 12 = .ok (.putfield 25, 3) := by decide +kernel
theorem dX5_takes_15 : decode cX5_takes 15 = .ok (.aload_n 0, 1) := by decide +kernel
theorem dX5_takes_16 : decode cX5_takes 16 = .ok (.iload_n 3, 1) := by decide +kernel
theorem dX5_takes_17 : decode cX5_takes 17 = .ok (.putfield 29, 3) := by decide +kernel
theorem dX5_takes_20 : decode cX5_takes 20 = .ok (.aload_n 0, 1) := by decide +kernel
theorem dX5_takes_21 : decode cX5_takes 21 = .ok (.iload 4, 2) := by decide +kernel
theorem dX5_takes_23 : decode cX5_takes 23 = .ok (.putfield 32, 3) := by decide +kernel
theorem dX5_takes_26 : decode cX5_takes 26 = .ok (.aload_n 0, 1) := by decide +kernel
theorem dX5_takes_27 : decode cX5_takes 27 = .ok (.iconst 0, 1) := by decide +kernel
theorem dX5_takes_28 : decode cX5_takes 28 = .ok (.putfield 35, 3) := by decide +kernel
theorem dX5_takes_31 : decode cX5_takes 31 = .ok (.aload_n 0, 1) := by decide +kernel
theorem dX5_takes_32 : decode cX5_takes 32 = .ok (.iconst 0, 1) := by decide +kernel
theorem dX5_takes_33 : decode cX5_takes 33 = .ok (.putfield 38, 3) := by decide +kernel
theorem dX5_takes_36 : decode cX5_takes 36 = .ok (.aload_n 0, 1) := by decide +kernel
theorem dX5_takes_37 : decode cX5_takes 37 = .ok (.iconst 0, 1) := by decide +kernel
theorem dX5_takes_38 : decode cX5_takes 38 = .ok (.putfield 41, 3) := by decide +kernel
theorem dX5_takes_41 : decode cX5_takes 41 = .ok (.aload_n 0, 1) := by decide +kernel
theorem dX5_takes_42 : decode cX5_takes 42 = .ok (.iconst (-1), 1) := by decide +kernel
theorem dX5_takes_43 : decode cX5_takes 43 = .ok (.putfield 44, 3) := by decide +kernel
theorem dX5_takes_46 : decode cX5_takes 46 = .ok (.aload_n 0, 1) := by decide +kernel
theorem dX5_takes_47 : decode cX5_takes 47 = .ok (.invokevirtual 47, 3) := by decide +kernel
theorem dX5_takes_50 : decode cX5_takes 50 = .ok (.aload_n 0, 1) := by decide +kernel
theorem dX5_takes_51 : decode cX5_takes 51 = .ok (.iconst 0, 1) := by decide +kernel
theorem dX5_takes_52 : decode cX5_takes 52 = .ok (.invokevirtual 50, 3) := by decide +kernel
theorem dX5_takes_55 : decode cX5_takes 55 = .ok (.ifCond .eq 23, 3) := by decide +kernel
theorem dX5_takes_58 : decode cX5_takes 58 = .ok (.aload_n 0, 1) := by decide +kernel
theorem dX5_takes_59 : decode cX5_takes 59 = .ok (.getfield 54, 3) := by decide +kernel
theorem dX5_takes_62 : decode cX5_takes 62 = .ok (.bipush 15, 2) := by decide +kernel
theorem dX5_takes_64 : decode cX5_takes 64 = .ok (.if_icmp .eq 10, 3) := by decide +kernel
theorem dX5_takes_67 : decode cX5_takes 67 = .ok (.aload_n 0, 1) := by decide +kernel
theorem dX5_takes_68 : decode cX5_takes 68 = .ok (.invokevirtual 57, 3) := by decide +kernel
theorem dX5_takes_71 : decode cX5_takes 71 = .ok (.ifCond .eq 7, 3) := by decide +kernel
theorem dX5_takes_74 : decode cX5_takes 74 = .ok (.iconst 1, 1) := by decide +kernel
theorem dX5_takes_75 : decode cX5_takes 75 = .ok (.goto 4, 3) := by decide +kernel
theorem dX5_takes_78 : decode cX5_takes 78 = .ok (.iconst 0, 1) := by decide +kernel
theorem dX5_takes_79 : decode cX5_takes 79 = .ok (.ireturn, 1) := by decide +kernel
theorem dX5_codeCopy_0 : decode cX5_codeCopy 0 = .ok (.aload_n 0, 1) := by decide +kernel
theorem dX5_codeCopy_1 : decode cX5_codeCopy 1 = .ok (.getfield 9, 3) := by decide +kernel
theorem dX5_codeCopy_4 : decode cX5_codeCopy 4 = .ok (.aload_n 0, 1) := by decide +kernel
theorem dX5_codeCopy_5 : decode cX5_codeCopy 5 = .ok (.getfield 41, 3) := by decide +kernel
theorem dX5_codeCopy_8 : decode cX5_codeCopy 8 = .ok (.invokestatic 61, 3) := by decide +kernel
theorem dX5_codeCopy_11 : decode cX5_codeCopy 11 = .ok (.areturn, 1) := by decide +kernel
theorem dX5_fails_0 : decode cX5_fails 0 = .ok (.aload_n 0, 1) := by decide +kernel
theorem dX5_fails_1 : decode cX5_fails 1 = .ok (.aload_n 0, 1) := by decide +kernel
theorem dX5_fails_2 : decode cX5_fails 2 = .ok (.getfield 67, 3) := by decide +kernel
theorem dX5_fails_5 : decode cX5_fails 5 = .ok (.putfield 44, 3) := by decide +kernel
theorem dX5_fails_8 : decode cX5_fails 8 = .ok (.iconst 0, 1) := by decide +kernel
theorem dX5_fails_9 : decode cX5_fails 9 = .ok (.ireturn, 1) := by decide +kernel
theorem dX5_readEither_0 : decode cX5_readEither 0 = .ok (.aload_n 0, 1) := by decide +kernel
theorem dX5_readEither_1 : decode cX5_readEither 1 = .ok (.iload_n 1, 1) := by decide +kernel
theorem dX5_readEither_2 : decode cX5_readEither 2 = .ok (.invokevirtual 70, 3) := by decide +kernel
theorem dX5_readEither_5 : decode cX5_readEither 5 = .ok (.istore_n 2, 1) := by decide +kernel
theorem dX5_readEither_6 : decode cX5_readEither 6 = .ok (.iconst 0, 1) := by decide +kernel
theorem dX5_readEither_7 : decode cX5_readEither 7 = .ok (.istore_n 3, 1) := by decide +kernel
theorem dX5_readEither_8 : decode cX5_readEither 8 = .ok (.iload_n 3, 1) := by decide +kernel
theorem dX5_readEither_9 : decode cX5_readEither 9 = .ok (.sipush 400, 3) := by decide +kernel
theorem dX5_readEither_12 : decode cX5_readEither 12 = .ok (.if_icmp .ge 40, 3) := by decide +kernel
theorem dX5_readEither_15 : decode cX5_readEither 15 = .ok (.iload_n 2, 1) := by decide +kernel
theorem dX5_readEither_16 : decode cX5_readEither 16 = .ok (.ifCond .eq 36, 3) := by decide +kernel
theorem dX5_readEither_19 : decode cX5_readEither 19 = .ok (.aload_n 0, 1) := by decide +kernel
theorem dX5_readEither_20 : decode cX5_readEither 20 = .ok (.getfield 54, 3) := by decide +kernel
theorem dX5_readEither_23 : decode cX5_readEither 23 = .ok (.bipush 8, 2) := by decide +kernel
theorem dX5_readEither_25 : decode cX5_readEither 25 = .ok (.if_icmp .ne 27, 3) := by decide +kernel
theorem dX5_readEither_28 : decode cX5_readEither 28 = .ok (.aload_n 0, 1) := by decide +kernel
theorem dX5_readEither_29 : decode cX5_readEither 29 = .ok (.invokevirtual 47, 3) := by decide +kernel
theorem dX5_readEither_32 : decode cX5_readEither 32 = .ok (.aload_n 0, 1) := by decide +kernel
theorem dX5_readEither_33 : decode cX5_readEither 33 = .ok (.iload_n 1, 1) := by decide +kernel
theorem dX5_readEither_34 : decode cX5_readEither 34 = .ok (.invokevirtual 70, 3) := by decide +kernel
theorem dX5_readEither_37 : decode cX5_readEither 37 = .ok (.istore_n 2, 1) := by decide +kernel
theorem dX5_readEither_38 : decode cX5_readEither 38 = .ok (.aload_n 0, 1) := by decide +kernel
theorem dX5_readEither_39 : decode cX5_readEither 39 = .ok (.bipush 8, 2) := by decide +kernel
theorem dX5_readEither_41 : decode cX5_readEither 41 = .ok (.iconst 0, 1) := by decide +kernel
theorem dX5_readEither_42 : decode cX5_readEither 42 = .ok (.iconst 0, 1) := by decide +kernel
theorem dX5_readEither_43 : decode cX5_readEither 43 = .ok (.invokevirtual 73, 3) := by decide +kernel
theorem dX5_readEither_46 : decode cX5_readEither 46 = .ok (.iinc 3 1, 3) := by decide +kernel
theorem dX5_readEither_49 : decode cX5_readEither 49 = .ok (.goto (-41), 3) := by decide +kernel
theorem dX5_readEither_52 : decode cX5_readEither 52 = .ok (.iload_n 2, 1) := by decide +kernel
theorem dX5_readEither_53 : decode cX5_readEither 53 = .ok (.ireturn, 1) := by decide +kernel
theorem dX5_readBoth_0 : decode cX5_readBoth 0 = .ok (.aload_n 0, 1) := by decide +kernel
theorem dX5_readBoth_1 : decode cX5_readBoth 1 = .ok (.iload_n 1, 1) := by decide +kernel
theorem dX5_readBoth_2 : decode cX5_readBoth 2 = .ok (.invokevirtual 77, 3) := by decide +kernel
theorem dX5_readBoth_5 : decode cX5_readBoth 5 = .ok (.istore_n 2, 1) := by decide +kernel
theorem dX5_readBoth_6 : decode cX5_readBoth 6 = .ok (.iconst 0, 1) := by decide +kernel
theorem dX5_readBoth_7 : decode cX5_readBoth 7 = .ok (.istore_n 3, 1) := by decide +kernel
theorem dX5_readBoth_8 : decode cX5_readBoth 8 = .ok (.iload_n 3, 1) := by decide +kernel
theorem dX5_readBoth_9 : decode cX5_readBoth 9 = .ok (.sipush 400, 3) := by decide +kernel
theorem dX5_readBoth_12 : decode cX5_readBoth 12 = .ok (.if_icmp .ge 40, 3) := by decide +kernel
theorem dX5_readBoth_15 : decode cX5_readBoth 15 = .ok (.iload_n 2, 1) := by decide +kernel
theorem dX5_readBoth_16 : decode cX5_readBoth 16 = .ok (.ifCond .eq 36, 3) := by decide +kernel
theorem dX5_readBoth_19 : decode cX5_readBoth 19 = .ok (.aload_n 0, 1) := by decide +kernel
theorem dX5_readBoth_20 : decode cX5_readBoth 20 = .ok (.getfield 54, 3) := by decide +kernel
theorem dX5_readBoth_23 : decode cX5_readBoth 23 = .ok (.bipush 7, 2) := by decide +kernel
theorem dX5_readBoth_25 : decode cX5_readBoth 25 = .ok (.if_icmp .ne 27, 3) := by decide +kernel
theorem dX5_readBoth_28 : decode cX5_readBoth 28 = .ok (.aload_n 0, 1) := by decide +kernel
theorem dX5_readBoth_29 : decode cX5_readBoth 29 = .ok (.invokevirtual 47, 3) := by decide +kernel
theorem dX5_readBoth_32 : decode cX5_readBoth 32 = .ok (.aload_n 0, 1) := by decide +kernel
theorem dX5_readBoth_33 : decode cX5_readBoth 33 = .ok (.iload_n 1, 1) := by decide +kernel
theorem dX5_readBoth_34 : decode cX5_readBoth 34 = .ok (.invokevirtual 77, 3) := by decide +kernel
theorem dX5_readBoth_37 : decode cX5_readBoth 37 = .ok (.istore_n 2, 1) := by decide +kernel
theorem dX5_readBoth_38 : decode cX5_readBoth 38 = .ok (.aload_n 0, 1) := by decide +kernel
theorem dX5_readBoth_39 : decode cX5_readBoth 39 = .ok (.bipush 7, 2) := by decide +kernel
theorem dX5_readBoth_41 : decode cX5_readBoth 41 = .ok (.iconst 0, 1) := by decide +kernel
theorem dX5_readBoth_42 : decode cX5_readBoth 42 = .ok (.iconst 0, 1) := by decide +kernel
theorem dX5_readBoth_43 : decode cX5_readBoth 43 = .ok (.invokevirtual 73, 3) := by decide +kernel
theorem dX5_readBoth_46 : decode cX5_readBoth 46 = .ok (.iinc 3 1, 3) := by decide +kernel
theorem dX5_readBoth_49 : decode cX5_readBoth 49 = .ok (.goto (-41), 3) := by decide +kernel
theorem dX5_readBoth_52 : decode cX5_readBoth 52 = .ok (.iload_n 2, 1) := by decide +kernel
theorem dX5_readBoth_53 : decode cX5_readBoth 53 = .ok (.ireturn, 1) := by decide +kernel
theorem dX5_readPart_0 : decode cX5_readPart 0 = .ok (.aload_n 0, 1) := by decide +kernel
theorem dX5_readPart_1 : decode cX5_readPart 1 = .ok (.getfield 54, 3) := by decide +kernel
theorem dX5_readPart_4 : decode cX5_readPart 4 = .ok (.bipush 6, 2) := by decide +kernel
theorem dX5_readPart_6 : decode cX5_readPart 6 = .ok (.if_icmp .eq 12, 3) := by decide +kernel
theorem dX5_readPart_9 : decode cX5_readPart 9 = .ok (.aload_n 0, 1) := by decide +kernel
theorem dX5_readPart_10 : decode cX5_readPart 10 = .ok (.getfield 54, 3) := by decide +kernel
theorem dX5_readPart_13 : decode cX5_readPart 13 = .ok (.bipush 12, 2) := by decide +kernel
theorem dX5_readPart_15 : decode cX5_readPart 15 = .ok (.if_icmp .ne 24, 3) := by decide +kernel
theorem dX5_readPart_18 : decode cX5_readPart 18 = .ok (.iload_n 1, 1) := by decide +kernel
theorem dX5_readPart_19 : decode cX5_readPart 19 = .ok (.bipush 20, 2) := by decide +kernel
theorem dX5_readPart_21 : decode cX5_readPart 21 = .ok (.if_icmp .ge 13, 3) := by decide +kernel
theorem dX5_readPart_24 : decode cX5_readPart 24 = .ok (.aload_n 0, 1) := by decide +kernel
theorem dX5_readPart_25 : decode cX5_readPart 25 = .ok (.iload_n 1, 1) := by decide +kernel
theorem dX5_readPart_26 : decode cX5_readPart 26 = .ok (.iconst 1, 1) := by decide +kernel
theorem dX5_readPart_27 : decode cX5_readPart 27 = .ok (.iadd, 1) := by decide +kernel
theorem dX5_readPart_28 : decode cX5_readPart 28 = .ok (.invokevirtual 80, 3) := by decide +kernel
theorem dX5_readPart_31 : decode cX5_readPart 31 = .ok (.goto 7, 3) := by decide +kernel
theorem dX5_readPart_34 : decode cX5_readPart 34 = .ok (.aload_n 0, 1) := by decide +kernel
theorem dX5_readPart_35 : decode cX5_readPart 35 = .ok (.invokevirtual 57, 3) := by decide +kernel
theorem dX5_readPart_38 : decode cX5_readPart 38 = .ok (.ireturn, 1) := by decide +kernel
theorem dX5_readPart_39 : decode cX5_readPart 39 = .ok (.aload_n 0, 1) := by decide +kernel
theorem dX5_readPart_40 : decode cX5_readPart 40 = .ok (.getfield 54, 3) := by decide +kernel
theorem dX5_readPart_43 : decode cX5_readPart 43 = .ok (.iconst 4, 1) := by decide +kernel
theorem dX5_readPart_44 : decode cX5_readPart 44 = .ok (.if_icmp .eq 11, 3) := by decide +kernel
theorem dX5_readPart_47 : decode cX5_readPart 47 = .ok (.aload_n 0, 1) := by decide +kernel
theorem dX5_readPart_48 : decode cX5_readPart 48 = .ok (.getfield 54, 3) := by decide +kernel
theorem dX5_readPart_51 : decode cX5_readPart 51 = .ok (.iconst 5, 1) := by decide +kernel
theorem dX5_readPart_52 : decode cX5_readPart 52 = .ok (.if_icmp .ne 12, 3) := by decide +kernel
theorem dX5_readPart_55 : decode cX5_readPart 55 = .ok (.aload_n 0, 1) := by decide +kernel
theorem dX5_readPart_56 : decode cX5_readPart 56 = .ok (.aload_n 0, 1) := by decide +kernel
theorem dX5_readPart_57 : decode cX5_readPart 57 = .ok (.getfield 54, 3) := by decide +kernel
theorem dX5_readPart_60 : decode cX5_readPart 60 = .ok (.invokevirtual 83, 3) := by decide +kernel
theorem dX5_readPart_63 : decode cX5_readPart 63 = .ok (.ireturn, 1) := by decide +kernel
theorem dX5_readPart_64 : decode cX5_readPart 64 = .ok (.aload_n 0, 1) := by decide +kernel
theorem dX5_readPart_65 : decode cX5_readPart 65 = .ok (.getfield 54, 3) := by decide +kernel
theorem dX5_readPart_68 : decode cX5_readPart 68 = .ok (.ifCond .eq 27, 3) := by decide +kernel
theorem dX5_readPart_71 : decode cX5_readPart 71 = .ok (.aload_n 0, 1) := by decide +kernel
theorem dX5_readPart_72 : decode cX5_readPart 72 = .ok (.getfield 54, 3) := by decide +kernel
theorem dX5_readPart_75 : decode cX5_readPart 75 = .ok (.iconst 1, 1) := by decide +kernel
theorem dX5_readPart_76 : decode cX5_readPart 76 = .ok (.if_icmp .eq 19, 3) := by decide +kernel
theorem dX5_readPart_79 : decode cX5_readPart 79 = .ok (.aload_n 0, 1) := by decide +kernel
theorem dX5_readPart_80 : decode cX5_readPart 80 = .ok (.getfield 54, 3) := by decide +kernel
theorem dX5_readPart_83 : decode cX5_readPart 83 = .ok (.iconst 2, 1) := by decide +kernel
theorem dX5_readPart_84 : decode cX5_readPart 84 = .ok (.if_icmp .eq 11, 3) := by decide +kernel
theorem dX5_readPart_87 : decode cX5_readPart 87 = .ok (.aload_n 0, 1) := by decide +kernel
theorem dX5_readPart_88 : decode cX5_readPart 88 = .ok (.getfield 54, 3) := by decide +kernel
theorem dX5_readPart_91 : decode cX5_readPart 91 = .ok (.iconst 3, 1) := by decide +kernel
theorem dX5_readPart_92 : decode cX5_readPart 92 = .ok (.if_icmp .ne 7, 3) := by decide +kernel
theorem dX5_readPart_95 : decode cX5_readPart 95 = .ok (.iconst 1, 1) := by decide +kernel
theorem dX5_readPart_96 : decode cX5_readPart 96 = .ok (.goto 4, 3) := by decide +kernel
theorem dX5_readPart_99 : decode cX5_readPart 99 = .ok (.iconst 0, 1) := by decide +kernel
theorem dX5_readPart_100 : decode cX5_readPart 100 = .ok (.istore_n 2, 1) := by decide +kernel
theorem dX5_readPart_101 : decode cX5_readPart 101 = .ok (.iload_n 2, 1) := by decide +kernel
theorem dX5_readPart_102 : decode cX5_readPart 102 = .ok (.ifCond .eq 14, 3) := by decide +kernel
theorem dX5_readPart_105 : decode cX5_readPart 105 = .ok (.aload_n 0, 1) := by decide +kernel
theorem dX5_readPart_106 : decode cX5_readPart 106 = .ok (.aload_n 0, 1) := by decide +kernel
theorem dX5_readPart_107 : decode cX5_readPart 107 = .ok (.getfield 54, 3) := by decide +kernel
theorem dX5_readPart_110 : decode cX5_readPart 110 = .ok (.invokevirtual 86, 3) := by decide +kernel
theorem dX5_readPart_113 : decode cX5_readPart 113 = .ok (.goto 7, 3) := by decide +kernel
theorem dX5_readPart_116 : decode cX5_readPart 116 = .ok (.aload_n 0, 1) := by decide +kernel
theorem dX5_readPart_117 : decode cX5_readPart 117 = .ok (.invokevirtual 57, 3) := by decide +kernel
theorem dX5_readPart_120 : decode cX5_readPart 120 = .ok (.ireturn, 1) := by decide +kernel
theorem dX5_readNested_0 : decode cX5_readNested 0 = .ok (.aload_n 0, 1) := by decide +kernel
theorem dX5_readNested_1 : decode cX5_readNested 1 = .ok (.getfield 54, 3) := by decide +kernel
theorem dX5_readNested_4 : decode cX5_readNested 4 = .ok (.bipush 6, 2) := by decide +kernel
theorem dX5_readNested_6 : decode cX5_readNested 6 = .ok (.if_icmp .ne 7, 3) := by decide +kernel
theorem dX5_readNested_9 : decode cX5_readNested 9 = .ok (.iconst 1, 1) := by decide +kernel
theorem dX5_readNested_10 : decode cX5_readNested 10 = .ok (.goto 4, 3) := by decide +kernel
theorem dX5_readNested_13 : decode cX5_readNested 13 = .ok (.iconst 0, 1) := by decide +kernel
theorem dX5_readNested_14 : decode cX5_readNested 14 = .ok (.istore_n 2, 1) := by decide +kernel
theorem dX5_readNested_15 : decode cX5_readNested 15 = .ok (.aload_n 0, 1) := by decide +kernel
theorem dX5_readNested_16 : decode cX5_readNested 16 = .ok (.invokevirtual 47, 3) := by decide +kernel
theorem dX5_readNested_19 : decode cX5_readNested 19 = .ok (.iload_n 2, 1) := by decide +kernel
theorem dX5_readNested_20 : decode cX5_readNested 20 = .ok (.ifCond .eq 19, 3) := by decide +kernel
theorem dX5_readNested_23 : decode cX5_readNested 23 = .ok (.aload_n 0, 1) := by decide +kernel
theorem dX5_readNested_24 : decode cX5_readNested 24 = .ok (.iload_n 1, 1) := by decide +kernel
theorem dX5_readNested_25 : decode cX5_readNested 25 = .ok (.invokevirtual 77, 3) := by decide +kernel
theorem dX5_readNested_28 : decode cX5_readNested 28 = .ok (.istore_n 3, 1) := by decide +kernel
theorem dX5_readNested_29 : decode cX5_readNested 29 = .ok (.aload_n 0, 1) := by decide +kernel
theorem dX5_readNested_30 : decode cX5_readNested 30 = .ok (.bipush 6, 2) := by decide +kernel
theorem dX5_readNested_32 : decode cX5_readNested 32 = .ok (.iconst 0, 1) := by decide +kernel
theorem dX5_readNested_33 : decode cX5_readNested 33 = .ok (.iconst 0, 1) := by decide +kernel
theorem dX5_readNested_34 : decode cX5_readNested 34 = .ok (.invokevirtual 73, 3) := by decide +kernel
theorem dX5_readNested_37 : decode cX5_readNested 37 = .ok (.iload_n 3, 1) := by decide +kernel
theorem dX5_readNested_38 : decode cX5_readNested 38 = .ok (.ireturn, 1) := by decide +kernel
theorem dX5_readNested_39 : decode cX5_readNested 39 = .ok (.aload_n 0, 1) := by decide +kernel
theorem dX5_readNested_40 : decode cX5_readNested 40 = .ok (.iload_n 1, 1) := by decide +kernel
theorem dX5_readNested_41 : decode cX5_readNested 41 = .ok (.invokevirtual 50, 3) := by decide +kernel
theorem dX5_readNested_44 : decode cX5_readNested 44 = .ok (.ifCond .ne 5, 3) := by decide +kernel
theorem dX5_readNested_47 : decode cX5_readNested 47 = .ok (.iconst 0, 1) := by decide +kernel
theorem dX5_readNested_48 : decode cX5_readNested 48 = .ok (.ireturn, 1) := by decide +kernel
theorem dX5_readNested_49 : decode cX5_readNested 49 = .ok (.aload_n 0, 1) := by decide +kernel
theorem dX5_readNested_50 : decode cX5_readNested 50 = .ok (.getfield 54, 3) := by decide +kernel
theorem dX5_readNested_53 : decode cX5_readNested 53 = .ok (.bipush 13, 2) := by decide +kernel
theorem dX5_readNested_55 : decode cX5_readNested 55 = .ok (.if_icmp .eq 8, 3) := by decide +kernel
theorem dX5_readNested_58 : decode cX5_readNested 58 = .ok (.aload_n 0, 1) := by decide +kernel
theorem dX5_readNested_59 : decode cX5_readNested 59 = .ok (.invokevirtual 57, 3) := by decide +kernel
theorem dX5_readNested_62 : decode cX5_readNested 62 = .ok (.ireturn, 1) := by decide +kernel
theorem dX5_readNested_63 : decode cX5_readNested 63 = .ok (.aload_n 0, 1) := by decide +kernel
theorem dX5_readNested_64 : decode cX5_readNested 64 = .ok (.invokevirtual 47, 3) := by decide +kernel
theorem dX5_readNested_67 : decode cX5_readNested 67 = .ok (.iconst 1, 1) := by decide +kernel
theorem dX5_readNested_68 : decode cX5_readNested 68 = .ok (.ireturn, 1) := by decide +kernel
theorem dX5_readNaming_0 : decode cX5_readNaming 0 = .ok (.aload_n 0, 1) := by decide +kernel
theorem dX5_readNaming_1 : decode cX5_readNaming 1 = .ok (.invokevirtual 47, 3) := by decide +kernel
theorem dX5_readNaming_4 : decode cX5_readNaming 4 = .ok (.iload_n 1, 1) := by decide +kernel
theorem dX5_readNaming_5 : decode cX5_readNaming 5 = .ok (.iconst 4, 1) := by decide +kernel
theorem dX5_readNaming_6 : decode cX5_readNaming 6 = .ok (.if_icmp .ne 10, 3) := by decide +kernel
theorem dX5_readNaming_9 : decode cX5_readNaming 9 = .ok (.aload_n 0, 1) := by decide +kernel
theorem dX5_readNaming_10 : decode cX5_readNaming 10 = .ok (.getfield 29, 3) := by decide +kernel
theorem dX5_readNaming_13 : decode cX5_readNaming 13 = .ok (.goto 7, 3) := by decide +kernel
theorem dX5_readNaming_16 : decode cX5_readNaming 16 = .ok (.aload_n 0, 1) := by decide +kernel
theorem dX5_readNaming_17 : decode cX5_readNaming 17 = .ok (.getfield 32, 3) := by decide +kernel
theorem dX5_readNaming_20 : decode cX5_readNaming 20 = .ok (.istore_n 2, 1) := by decide +kernel
theorem dX5_readNaming_21 : decode cX5_readNaming 21 = .ok (.aload_n 0, 1) := by decide +kernel
theorem dX5_readNaming_22 : decode cX5_readNaming 22 = .ok (.getfield 54, 3) := by decide +kernel
theorem dX5_readNaming_25 : decode cX5_readNaming 25 = .ok (.bipush 14, 2) := by decide +kernel
theorem dX5_readNaming_27 : decode cX5_readNaming 27 = .ok (.if_icmp .ne 11, 3) := by decide +kernel
theorem dX5_readNaming_30 : decode cX5_readNaming 30 = .ok (.aload_n 0, 1) := by decide +kernel
theorem dX5_readNaming_31 : decode cX5_readNaming 31 = .ok (.getfield 89, 3) := by decide +kernel
theorem dX5_readNaming_34 : decode cX5_readNaming 34 = .ok (.iload_n 2, 1) := by decide +kernel
theorem dX5_readNaming_35 : decode cX5_readNaming 35 = .ok (.if_icmp .lt 8, 3) := by decide +kernel
theorem dX5_readNaming_38 : decode cX5_readNaming 38 = .ok (.aload_n 0, 1) := by decide +kernel
theorem dX5_readNaming_39 : decode cX5_readNaming 39 = .ok (.invokevirtual 57, 3) := by decide +kernel
theorem dX5_readNaming_42 : decode cX5_readNaming 42 = .ok (.ireturn, 1) := by decide +kernel
theorem dX5_readNaming_43 : decode cX5_readNaming 43 = .ok (.iload_n 1, 1) := by decide +kernel
theorem dX5_readNaming_44 : decode cX5_readNaming 44 = .ok (.iconst 4, 1) := by decide +kernel
theorem dX5_readNaming_45 : decode cX5_readNaming 45 = .ok (.if_icmp .ne 18, 3) := by decide +kernel
theorem dX5_readNaming_48 : decode cX5_readNaming 48 = .ok (.aload_n 0, 1) := by decide +kernel
theorem dX5_readNaming_49 : decode cX5_readNaming 49 = .ok (.dup, 1) := by decide +kernel
theorem dX5_readNaming_50 : decode cX5_readNaming 50 = .ok (.getfield 38, 3) := by decide +kernel
theorem dX5_readNaming_53 : decode cX5_readNaming 53 = .ok (.iconst 1, 1) := by decide +kernel
theorem dX5_readNaming_54 : decode cX5_readNaming 54 = .ok (.aload_n 0, 1) := by decide +kernel
theorem dX5_readNaming_55 : decode cX5_readNaming 55 = .ok (.getfield 89, 3) := by decide +kernel
theorem dX5_readNaming_58 : decode cX5_readNaming 58 = .ok (.ishl, 1) := by decide +kernel
theorem dX5_readNaming_59 : decode cX5_readNaming 59 = .ok (.ior, 1) := by decide +kernel
theorem dX5_readNaming_60 : decode cX5_readNaming 60 = .ok (.putfield 38, 3) := by decide +kernel
theorem dX5_readNaming_63 : decode cX5_readNaming 63 = .ok (.aload_n 0, 1) := by decide +kernel
theorem dX5_readNaming_64 : decode cX5_readNaming 64 = .ok (.iload_n 1, 1) := by decide +kernel
theorem dX5_readNaming_65 : decode cX5_readNaming 65 = .ok (.iconst 0, 1) := by decide +kernel
theorem dX5_readNaming_66 : decode cX5_readNaming 66 = .ok (.aload_n 0, 1) := by decide +kernel
theorem dX5_readNaming_67 : decode cX5_readNaming 67 = .ok (.getfield 89, 3) := by decide +kernel
theorem dX5_readNaming_70 : decode cX5_readNaming 70 = .ok (.invokevirtual 73, 3) := by decide +kernel
theorem dX5_readNaming_73 : decode cX5_readNaming 73 = .ok (.aload_n 0, 1) := by decide +kernel
theorem dX5_readNaming_74 : decode cX5_readNaming 74 = .ok (.invokevirtual 47, 3) := by decide +kernel
theorem dX5_readNaming_77 : decode cX5_readNaming 77 = .ok (.iconst 1, 1) := by decide +kernel
theorem dX5_readNaming_78 : decode cX5_readNaming 78 = .ok (.ireturn, 1) := by decide +kernel
theorem dX5_readComparing_0 : decode cX5_readComparing 0 = .ok (.aload_n 0, 1) := by decide +kernel
theorem dX5_readComparing_1 : decode cX5_readComparing 1 = .ok (.invokevirtual 47, 3) := by decide +kernel
theorem dX5_readComparing_4 : decode cX5_readComparing 4 = .ok (.aload_n 0, 1) := by decide +kernel
theorem dX5_readComparing_5 : decode cX5_readComparing 5 = .ok (.getfield 54, 3) := by decide +kernel
theorem dX5_readComparing_8 : decode cX5_readComparing 8 = .ok (.istore_n 2, 1) := by decide +kernel
theorem dX5_readComparing_9 : decode cX5_readComparing 9 = .ok (.iload_n 2, 1) := by decide +kernel
theorem dX5_readComparing_10 : decode cX5_readComparing 10 = .ok (.bipush 9, 2) := by decide +kernel
theorem dX5_readComparing_12 : decode cX5_readComparing 12 = .ok (.if_icmp .eq 20, 3) := by decide +kernel
theorem dX5_readComparing_15 : decode cX5_readComparing 15 = .ok (.iload_n 2, 1) := by decide +kernel
theorem dX5_readComparing_16 : decode cX5_readComparing 16 = .ok (.bipush 10, 2) := by decide +kernel
theorem dX5_readComparing_18 : decode cX5_readComparing 18 = .ok (.if_icmp .eq 14, 3) := by decide +kernel
theorem dX5_readComparing_21 : decode cX5_readComparing 21 = .ok (.iload_n 2, 1) := by decide +kernel
theorem dX5_readComparing_22 : decode cX5_readComparing 22 = .ok (.bipush 11, 2) := by decide +kernel
theorem dX5_readComparing_24 : decode cX5_readComparing 24 = .ok (.if_icmp .eq 8, 3) := by decide +kernel
theorem dX5_readComparing_27 : decode cX5_readComparing 27 = .ok (.aload_n 0, 1) := by decide +kernel
theorem dX5_readComparing_28 : decode cX5_readComparing 28 = .ok (.invokevirtual 57, 3) := by decide +kernel
theorem dX5_readComparing_31 : decode cX5_readComparing 31 = .ok (.ireturn, 1) := by decide +kernel
theorem dX5_readComparing_32 : decode cX5_readComparing 32 = .ok (.aload_n 0, 1) := by decide +kernel
theorem dX5_readComparing_33 : decode cX5_readComparing 33 = .ok (.invokevirtual 47, 3) := by decide +kernel
theorem dX5_readComparing_36 : decode cX5_readComparing 36 = .ok (.aload_n 0, 1) := by decide +kernel
theorem dX5_readComparing_37 : decode cX5_readComparing 37 = .ok (.getfield 54, 3) := by decide +kernel
theorem dX5_readComparing_40 : decode cX5_readComparing 40 = .ok (.bipush 14, 2) := by decide +kernel
theorem dX5_readComparing_42 : decode cX5_readComparing 42 = .ok (.if_icmp .eq 8, 3) := by decide +kernel
theorem dX5_readComparing_45 : decode cX5_readComparing 45 = .ok (.aload_n 0, 1) := by decide +kernel
theorem dX5_readComparing_46 : decode cX5_readComparing 46 = .ok (.invokevirtual 57, 3) := by decide +kernel
theorem dX5_readComparing_49 : decode cX5_readComparing 49 = .ok (.ireturn, 1) := by decide +kernel
theorem dX5_readComparing_50 : decode cX5_readComparing 50 = .ok (.aload_n 0, 1) := by decide +kernel
theorem dX5_readComparing_51 : decode cX5_readComparing 51 = .ok (.iload_n 1, 1) := by decide +kernel
theorem dX5_readComparing_52 : decode cX5_readComparing 52 = .ok (.iload_n 2, 1) := by decide +kernel
theorem dX5_readComparing_53 : decode cX5_readComparing 53 = .ok (.aload_n 0, 1) := by decide +kernel
theorem dX5_readComparing_54 : decode cX5_readComparing 54 = .ok (.getfield 89, 3) := by decide +kernel
theorem dX5_readComparing_57 : decode cX5_readComparing 57 = .ok (.invokevirtual 73, 3) := by decide +kernel
theorem dX5_readComparing_60 : decode cX5_readComparing 60 = .ok (.aload_n 0, 1) := by decide +kernel
theorem dX5_readComparing_61 : decode cX5_readComparing 61 = .ok (.invokevirtual 47, 3) := by decide +kernel
theorem dX5_readComparing_64 : decode cX5_readComparing 64 = .ok (.iconst 1, 1) := by decide +kernel
theorem dX5_readComparing_65 : decode cX5_readComparing 65 = .ok (.ireturn, 1) := by decide +kernel
theorem dX5_write_0 : decode cX5_write 0 = .ok (.aload_n 0, 1) := by decide +kernel
theorem dX5_write_1 : decode cX5_write 1 = .ok (.getfield 41, 3) := by decide +kernel
theorem dX5_write_4 : decode cX5_write 4 = .ok (.aload_n 0, 1) := by decide +kernel
theorem dX5_write_5 : decode cX5_write 5 = .ok (.getfield 9, 3) := by decide +kernel
theorem dX5_write_8 : decode cX5_write 8 = .ok (.arraylength, 1) := by decide +kernel
theorem dX5_write_9 : decode cX5_write 9 = .ok (.if_icmp .ge 33, 3) := by decide +kernel
theorem dX5_write_12 : decode cX5_write 12 = .ok (.aload_n 0, 1) := by decide +kernel
theorem dX5_write_13 : decode cX5_write 13 = .ok (.getfield 9, 3) := by decide +kernel
theorem dX5_write_16 : decode cX5_write 16 = .ok (.aload_n 0, 1) := by decide +kernel
theorem dX5_write_17 : decode cX5_write 17 = .ok (.getfield 41, 3) := by decide +kernel
theorem dX5_write_20 : decode cX5_write 20 = .ok (.iload_n 1, 1) := by decide +kernel
theorem dX5_write_21 : decode cX5_write 21 = .ok (.bipush 24, 2) := by decide +kernel
theorem dX5_write_23 : decode cX5_write 23 = .ok (.ishl, 1) := by decide +kernel
theorem dX5_write_24 : decode cX5_write 24 = .ok (.iload_n 2, 1) := by decide +kernel
theorem dX5_write_25 : decode cX5_write 25 = .ok (.bipush 20, 2) := by decide +kernel
theorem dX5_write_27 : decode cX5_write 27 = .ok (.ishl, 1) := by decide +kernel
theorem dX5_write_28 : decode cX5_write 28 = .ok (.ior, 1) := by decide +kernel
theorem dX5_write_29 : decode cX5_write 29 = .ok (.iload_n 3, 1) := by decide +kernel
theorem dX5_write_30 : decode cX5_write 30 = .ok (.ior, 1) := by decide +kernel
theorem dX5_write_31 : decode cX5_write 31 = .ok (.iastore, 1) := by decide +kernel
theorem dX5_write_32 : decode cX5_write 32 = .ok (.aload_n 0, 1) := by decide +kernel
theorem dX5_write_33 : decode cX5_write 33 = .ok (.dup, 1) := by decide +kernel
theorem dX5_write_34 : decode cX5_write 34 = .ok (.getfield 41, 3) := by decide +kernel
theorem dX5_write_37 : decode cX5_write 37 = .ok (.iconst 1, 1) := by decide +kernel
theorem dX5_write_38 : decode cX5_write 38 = .ok (.iadd, 1) := by decide +kernel
theorem dX5_write_39 : decode cX5_write 39 = .ok (.putfield 41, 3) := by decide +kernel
theorem dX5_write_42 : decode cX5_write 42 = .ok (.return_, 1) := by decide +kernel
theorem dX5_advance_0 : decode cX5_advance 0 = .ok (.aload_n 0, 1) := by decide +kernel
theorem dX5_advance_1 : decode cX5_advance 1 = .ok (.getfield 35, 3) := by decide +kernel
theorem dX5_advance_4 : decode cX5_advance 4 = .ok (.aload_n 0, 1) := by decide +kernel
theorem dX5_advance_5 : decode cX5_advance 5 = .ok (.getfield 25, 3) := by decide +kernel
theorem dX5_advance_8 : decode cX5_advance 8 = .ok (.if_icmp .ge 29, 3) := by decide +kernel
theorem dX5_advance_11 : decode cX5_advance 11 = .ok (.aload_n 0, 1) := by decide +kernel
theorem dX5_advance_12 : decode cX5_advance 12 = .ok (.aload_n 0, 1) := by decide +kernel
theorem dX5_advance_13 : decode cX5_advance 13 = .ok (.getfield 35, 3) := by decide +kernel
theorem dX5_advance_16 : decode cX5_advance 16 = .ok (.invokevirtual 92, 3) := by decide +kernel
theorem dX5_advance_19 : decode cX5_advance 19 = .ok (.bipush 32, 2) := by decide +kernel
theorem dX5_advance_21 : decode cX5_advance 21 = .ok (.if_icmp .ne 16, 3) := by decide +kernel
theorem dX5_advance_24 : decode cX5_advance 24 = .ok (.aload_n 0, 1) := by decide +kernel
theorem dX5_advance_25 : decode cX5_advance 25 = .ok (.dup, 1) := by decide +kernel
theorem dX5_advance_26 : decode cX5_advance 26 = .ok (.getfield 35, 3) := by decide +kernel
theorem dX5_advance_29 : decode cX5_advance 29 = .ok (.iconst 1, 1) := by decide +kernel
theorem dX5_advance_30 : decode cX5_advance 30 = .ok (.iadd, 1) := by decide +kernel
theorem dX5_advance_31 : decode cX5_advance 31 = .ok (.putfield 35, 3) := by decide +kernel
theorem dX5_advance_34 : decode cX5_advance 34 = .ok (.goto (-34), 3) := by decide +kernel
theorem dX5_advance_37 : decode cX5_advance 37 = .ok (.aload_n 0, 1) := by decide +kernel
theorem dX5_advance_38 : decode cX5_advance 38 = .ok (.aload_n 0, 1) := by decide +kernel
theorem dX5_advance_39 : decode cX5_advance 39 = .ok (.getfield 35, 3) := by decide +kernel
theorem dX5_advance_42 : decode cX5_advance 42 = .ok (.putfield 67, 3) := by decide +kernel
theorem dX5_advance_45 : decode cX5_advance 45 = .ok (.aload_n 0, 1) := by decide +kernel
theorem dX5_advance_46 : decode cX5_advance 46 = .ok (.getfield 35, 3) := by decide +kernel
theorem dX5_advance_49 : decode cX5_advance 49 = .ok (.aload_n 0, 1) := by decide +kernel
theorem dX5_advance_50 : decode cX5_advance 50 = .ok (.getfield 25, 3) := by decide +kernel
theorem dX5_advance_53 : decode cX5_advance 53 = .ok (.if_icmp .lt 12, 3) := by decide +kernel
theorem dX5_advance_56 : decode cX5_advance 56 = .ok (.aload_n 0, 1) := by decide +kernel
theorem dX5_advance_57 : decode cX5_advance 57 = .ok (.bipush 15, 2) := by decide +kernel
theorem dX5_advance_59 : decode cX5_advance 59 = .ok (.putfield 54, 3) := by decide +kernel
theorem dX5_advance_62 : decode cX5_advance 62 = .ok (.goto 112, 3) := by decide +kernel
theorem dX5_advance_65 : decode cX5_advance 65 = .ok (.aload_n 0, 1) := by decide +kernel
theorem dX5_advance_66 : decode cX5_advance 66 = .ok (.aload_n 0, 1) := by decide +kernel
theorem dX5_advance_67 : decode cX5_advance 67 = .ok (.getfield 35, 3) := by decide +kernel
theorem dX5_advance_70 : decode cX5_advance 70 = .ok (.invokevirtual 92, 3) := by decide +kernel
theorem dX5_advance_73 : decode cX5_advance 73 = .ok (.invokestatic 96, 3) := by decide +kernel
theorem dX5_advance_76 : decode cX5_advance 76 = .ok (.ifCond .eq 52, 3) := by decide +kernel
theorem dX5_advance_79 : decode cX5_advance 79 = .ok (.aload_n 0, 1) := by decide +kernel
theorem dX5_advance_80 : decode cX5_advance 80 = .ok (.getfield 35, 3) := by decide +kernel
theorem dX5_advance_83 : decode cX5_advance 83 = .ok (.aload_n 0, 1) := by decide +kernel
theorem dX5_advance_84 : decode cX5_advance 84 = .ok (.getfield 25, 3) := by decide +kernel
theorem dX5_advance_87 : decode cX5_advance 87 = .ok (.if_icmp .ge 30, 3) := by decide +kernel
theorem dX5_advance_90 : decode cX5_advance 90 = .ok (.aload_n 0, 1) := by decide +kernel
theorem dX5_advance_91 : decode cX5_advance 91 = .ok (.aload_n 0, 1) := by decide +kernel
theorem dX5_advance_92 : decode cX5_advance 92 = .ok (.getfield 35, 3) := by decide +kernel
theorem dX5_advance_95 : decode cX5_advance 95 = .ok (.invokevirtual 92, 3) := by decide +kernel
theorem dX5_advance_98 : decode cX5_advance 98 = .ok (.invokestatic 96, 3) := by decide +kernel
theorem dX5_advance_101 : decode cX5_advance 101 = .ok (.ifCond .eq 16, 3) := by decide +kernel
theorem dX5_advance_104 : decode cX5_advance 104 = .ok (.aload_n 0, 1) := by decide +kernel
theorem dX5_advance_105 : decode cX5_advance 105 = .ok (.dup, 1) := by decide +kernel
theorem dX5_advance_106 : decode cX5_advance 106 = .ok (.getfield 35, 3) := by decide +kernel
theorem dX5_advance_109 : decode cX5_advance 109 = .ok (.iconst 1, 1) := by decide +kernel
theorem dX5_advance_110 : decode cX5_advance 110 = .ok (.iadd, 1) := by decide +kernel
theorem dX5_advance_111 : decode cX5_advance 111 = .ok (.putfield 35, 3) := by decide +kernel
theorem dX5_advance_114 : decode cX5_advance 114 = .ok (.goto (-35), 3) := by decide +kernel
theorem dX5_advance_117 : decode cX5_advance 117 = .ok (.aload_n 0, 1) := by decide +kernel
theorem dX5_advance_118 : decode cX5_advance 118 = .ok (.aload_n 0, 1) := by decide +kernel
theorem dX5_advance_119 : decode cX5_advance 119 = .ok (.invokevirtual 99, 3) := by decide +kernel
theorem dX5_advance_122 : decode cX5_advance 122 = .ok (.putfield 54, 3) := by decide +kernel
theorem dX5_advance_125 : decode cX5_advance 125 = .ok (.goto 49, 3) := by decide +kernel
theorem dX5_advance_128 : decode cX5_advance 128 = .ok (.aload_n 0, 1) := by decide +kernel
theorem dX5_advance_129 : decode cX5_advance 129 = .ok (.aload_n 0, 1) := by decide +kernel
theorem dX5_advance_130 : decode cX5_advance 130 = .ok (.getfield 35, 3) := by decide +kernel
theorem dX5_advance_133 : decode cX5_advance 133 = .ok (.invokevirtual 92, 3) := by decide +kernel
theorem dX5_advance_136 : decode cX5_advance 136 = .ok (.invokestatic 103, 3) := by decide +kernel
theorem dX5_advance_139 : decode cX5_advance 139 = .ok (.ifCond .eq 10, 3) := by decide +kernel
theorem dX5_advance_142 : decode cX5_advance 142 = .ok (.aload_n 0, 1) := by decide +kernel
theorem dX5_advance_143 : decode cX5_advance 143 = .ok (.invokevirtual 106, 3) := by decide +kernel
theorem dX5_advance_146 : decode cX5_advance 146 = .ok (.goto 28, 3) := by decide +kernel
theorem dX5_advance_149 : decode cX5_advance 149 = .ok (.aload_n 0, 1) := by decide +kernel
theorem dX5_advance_150 : decode cX5_advance 150 = .ok (.aload_n 0, 1) := by decide +kernel
theorem dX5_advance_151 : decode cX5_advance 151 = .ok (.aload_n 0, 1) := by decide +kernel
theorem dX5_advance_152 : decode cX5_advance 152 = .ok (.getfield 35, 3) := by decide +kernel
theorem dX5_advance_155 : decode cX5_advance 155 = .ok (.invokevirtual 92, 3) := by decide +kernel
theorem dX5_advance_158 : decode cX5_advance 158 = .ok (.invokestatic 109, 3) := by decide +kernel
theorem dX5_advance_161 : decode cX5_advance 161 = .ok (.putfield 54, 3) := by decide +kernel
theorem dX5_advance_164 : decode cX5_advance 164 = .ok (.aload_n 0, 1) := by decide +kernel
theorem dX5_advance_165 : decode cX5_advance 165 = .ok (.dup, 1) := by decide +kernel
theorem dX5_advance_166 : decode cX5_advance 166 = .ok (.getfield 35, 3) := by decide +kernel
theorem dX5_advance_169 : decode cX5_advance 169 = .ok (.iconst 1, 1) := by decide +kernel
theorem dX5_advance_170 : decode cX5_advance 170 = .ok (.iadd, 1) := by decide +kernel
theorem dX5_advance_171 : decode cX5_advance 171 = .ok (.putfield 35, 3) := by decide +kernel
theorem dX5_advance_174 : decode cX5_advance 174 = .ok (.return_, 1) := by decide +kernel
theorem dX5_advanceNumber_0 : decode cX5_advanceNumber 0 = .ok (.aload_n 0, 1) := by decide +kernel
theorem dX5_advanceNumber_1 : decode cX5_advanceNumber 1 = .ok (.iconst 0, 1) := by decide +kernel
theorem dX5_advanceNumber_2 : decode cX5_advanceNumber 2 = .ok (.putfield 89, 3) := by decide +kernel
theorem dX5_advanceNumber_5 : decode cX5_advanceNumber 5 = .ok (.aload_n 0, 1) := by decide +kernel
theorem dX5_advanceNumber_6 : decode cX5_advanceNumber 6 = .ok (.getfield 35, 3) := by decide +kernel
theorem dX5_advanceNumber_9 : decode cX5_advanceNumber 9 = .ok (.aload_n 0, 1) := by decide +kernel
theorem dX5_advanceNumber_10 : decode cX5_advanceNumber 10 = .ok (.getfield 25, 3) := by decide +kernel
theorem dX5_advanceNumber_13 : decode cX5_advanceNumber 13 = .ok (.if_icmp .ge 67, 3) := by decide +kernel
theorem dX5_advanceNumber_16 : decode cX5_advanceNumber 16 = .ok (.aload_n 0, 1) := by decide +kernel
theorem dX5_advanceNumber_17 : decode cX5_advanceNumber 17 = .ok (.aload_n 0, 1) := by decide +kernel
theorem dX5_advanceNumber_18 : decode cX5_advanceNumber 18 = .ok (.getfield 35, 3) := by decide +kernel
theorem dX5_advanceNumber_21 : decode cX5_advanceNumber 21 = .ok (.invokevirtual 92, 3) := by decide +kernel
theorem dX5_advanceNumber_24 : decode cX5_advanceNumber 24 = .ok (.invokestatic 103, 3) := by decide +kernel
theorem dX5_advanceNumber_27 : decode cX5_advanceNumber 27 = .ok (.ifCond .eq 53, 3) := by decide +kernel
theorem dX5_advanceNumber_30 : decode cX5_advanceNumber 30 = .ok (.aload_n 0, 1) := by decide +kernel
theorem dX5_advanceNumber_31 : decode cX5_advanceNumber 31 = .ok (.getfield 35, 3) := by decide +kernel
theorem dX5_advanceNumber_34 : decode cX5_advanceNumber 34 = .ok (.aload_n 0, 1) := by decide +kernel
theorem dX5_advanceNumber_35 : decode cX5_advanceNumber 35 = .ok (.getfield 67, 3) := by decide +kernel
theorem dX5_advanceNumber_38 : decode cX5_advanceNumber 38 = .ok (.isub, 1) := by decide +kernel
theorem dX5_advanceNumber_39 : decode cX5_advanceNumber 39 = .ok (.bipush 6, 2) := by decide +kernel
theorem dX5_advanceNumber_41 : decode cX5_advanceNumber 41 = .ok (.if_icmp .ge 26, 3) := by decide +kernel
theorem dX5_advanceNumber_44 : decode cX5_advanceNumber 44 = .ok (.aload_n 0, 1) := by decide +kernel
theorem dX5_advanceNumber_45 : decode cX5_advanceNumber 45 = .ok (.aload_n 0, 1) := by decide +kernel
theorem dX5_advanceNumber_46 : decode cX5_advanceNumber 46 = .ok (.getfield 89, 3) := by decide +kernel
theorem dX5_advanceNumber_49 : decode cX5_advanceNumber 49 = .ok (.bipush 10, 2) := by decide +kernel
theorem dX5_advanceNumber_51 : decode cX5_advanceNumber 51 = .ok (.imul, 1) := by decide +kernel
theorem dX5_advanceNumber_52 : decode cX5_advanceNumber 52 = .ok (.aload_n 0, 1) := by decide +kernel
theorem dX5_advanceNumber_53 : decode cX5_advanceNumber 53 = .ok (.aload_n 0, 1) := by decide +kernel
theorem dX5_advanceNumber_54 : decode cX5_advanceNumber 54 = .ok (.getfield 35, 3) := by decide +kernel
theorem dX5_advanceNumber_57 : decode cX5_advanceNumber 57 = .ok (.invokevirtual 92, 3) := by decide +kernel
theorem dX5_advanceNumber_60 : decode cX5_advanceNumber 60 = .ok (.iadd, 1) := by decide +kernel
theorem dX5_advanceNumber_61 : decode cX5_advanceNumber 61 = .ok (.bipush 48, 2) := by decide +kernel
theorem dX5_advanceNumber_63 : decode cX5_advanceNumber 63 = .ok (.isub, 1) := by decide +kernel
theorem dX5_advanceNumber_64 : decode cX5_advanceNumber 64 = .ok (.putfield 89, 3) := by decide +kernel
theorem dX5_advanceNumber_67 : decode cX5_advanceNumber 67 = .ok (.aload_n 0, 1) := by decide +kernel
theorem dX5_advanceNumber_68 : decode cX5_advanceNumber 68 = .ok (.dup, 1) := by decide +kernel
theorem dX5_advanceNumber_69 : decode cX5_advanceNumber 69 = .ok (.getfield 35, 3) := by decide +kernel
theorem dX5_advanceNumber_72 : decode cX5_advanceNumber 72 = .ok (.iconst 1, 1) := by decide +kernel
theorem dX5_advanceNumber_73 : decode cX5_advanceNumber 73 = .ok (.iadd, 1) := by decide +kernel
theorem dX5_advanceNumber_74 : decode cX5_advanceNumber 74 = .ok (.putfield 35, 3) := by decide +kernel
theorem dX5_advanceNumber_77 : decode cX5_advanceNumber 77 = .ok (.goto (-72), 3) := by decide +kernel
theorem dX5_advanceNumber_80 : decode cX5_advanceNumber 80 = .ok (.aload_n 0, 1) := by decide +kernel
theorem dX5_advanceNumber_81 : decode cX5_advanceNumber 81 = .ok (.aload_n 0, 1) := by decide +kernel
theorem dX5_advanceNumber_82 : decode cX5_advanceNumber 82 = .ok (.getfield 35, 3) := by decide +kernel
theorem dX5_advanceNumber_85 : decode cX5_advanceNumber 85 = .ok (.aload_n 0, 1) := by decide +kernel
theorem dX5_advanceNumber_86 : decode cX5_advanceNumber 86 = .ok (.getfield 67, 3) := by decide +kernel
theorem dX5_advanceNumber_89 : decode cX5_advanceNumber 89 = .ok (.isub, 1) := by decide +kernel
theorem dX5_advanceNumber_90 : decode cX5_advanceNumber 90 = .ok (.bipush 6, 2) := by decide +kernel
theorem dX5_advanceNumber_92 : decode cX5_advanceNumber 92 = .ok (.if_icmp .gt 8, 3) := by decide +kernel
theorem dX5_advanceNumber_95 : decode cX5_advanceNumber 95 = .ok (.bipush 14, 2) := by decide +kernel
theorem dX5_advanceNumber_97 : decode cX5_advanceNumber 97 = .ok (.goto 5, 3) := by decide +kernel
theorem dX5_advanceNumber_100 : decode cX5_advanceNumber 100 = .ok (.bipush 16, 2) := by decide +kernel
theorem dX5_advanceNumber_102 : decode cX5_advanceNumber 102 = .ok (.putfield 54, 3) := by decide +kernel
theorem dX5_advanceNumber_105 : decode cX5_advanceNumber 105 = .ok (.return_, 1) := by decide +kernel
theorem dX5_kindOfWord_0 : decode cX5_kindOfWord 0 = .ok (.aload_n 0, 1) := by decide +kernel
theorem dX5_kindOfWord_1 : decode cX5_kindOfWord 1 = .ok (.ldc 112, 2) := by decide +kernel
theorem dX5_kindOfWord_3 : decode cX5_kindOfWord 3 = .ok (.invokevirtual 114, 3) := by decide +kernel
theorem dX5_kindOfWord_6 : decode cX5_kindOfWord 6 = .ok (.ifCond .eq 5, 3) := by decide +kernel
theorem dX5_kindOfWord_9 : decode cX5_kindOfWord 9 = .ok (.iconst 0, 1) := by decide +kernel
theorem dX5_kindOfWord_10 : decode cX5_kindOfWord 10 = .ok (.ireturn, 1) := by decide +kernel
theorem dX5_kindOfWord_11 : decode cX5_kindOfWord 11 = .ok (.aload_n 0, 1) := by decide +kernel
theorem dX5_kindOfWord_12 : decode cX5_kindOfWord 12 = .ok (.ldc 118, 2) := by decide +kernel
theorem dX5_kindOfWord_14 : decode cX5_kindOfWord 14 = .ok (.invokevirtual 114, 3) := by decide +kernel
theorem dX5_kindOfWord_17 : decode cX5_kindOfWord 17 = .ok (.ifCond .eq 5, 3) := by decide +kernel
theorem dX5_kindOfWord_20 : decode cX5_kindOfWord 20 = .ok (.iconst 1, 1) := by decide +kernel
theorem dX5_kindOfWord_21 : decode cX5_kindOfWord 21 = .ok (.ireturn, 1) := by decide +kernel
theorem dX5_kindOfWord_22 : decode cX5_kindOfWord 22 = .ok (.aload_n 0, 1) := by decide +kernel
theorem dX5_kindOfWord_23 : decode cX5_kindOfWord 23 = .ok (.ldc 120, 2) := by decide +kernel
theorem dX5_kindOfWord_25 : decode cX5_kindOfWord 25 = .ok (.invokevirtual 114, 3) := by decide +kernel
theorem dX5_kindOfWord_28 : decode cX5_kindOfWord 28 = .ok (.ifCond .eq 5, 3) := by decide +kernel
theorem dX5_kindOfWord_31 : decode cX5_kindOfWord 31 = .ok (.iconst 2, 1) := by decide +kernel
theorem dX5_kindOfWord_32 : decode cX5_kindOfWord 32 = .ok (.ireturn, 1) := by decide +kernel
theorem dX5_kindOfWord_33 : decode cX5_kindOfWord 33 = .ok (.aload_n 0, 1) := by decide +kernel
theorem dX5_kindOfWord_34 : decode cX5_kindOfWord 34 = .ok (.ldc 122, 2) := by decide +kernel
theorem dX5_kindOfWord_36 : decode cX5_kindOfWord 36 = .ok (.invokevirtual 114, 3) := by decide +kernel
theorem dX5_kindOfWord_39 : decode cX5_kindOfWord 39 = .ok (.ifCond .eq 5, 3) := by decide +kernel
theorem dX5_kindOfWord_42 : decode cX5_kindOfWord 42 = .ok (.iconst 3, 1) := by decide +kernel
theorem dX5_kindOfWord_43 : decode cX5_kindOfWord 43 = .ok (.ireturn, 1) := by decide +kernel
theorem dX5_kindOfWord_44 : decode cX5_kindOfWord 44 = .ok (.aload_n 0, 1) := by decide +kernel
theorem dX5_kindOfWord_45 : decode cX5_kindOfWord 45 = .ok (.ldc 124, 2) := by decide +kernel
theorem dX5_kindOfWord_47 : decode cX5_kindOfWord 47 = .ok (.invokevirtual 114, 3) := by decide +kernel
theorem dX5_kindOfWord_50 : decode cX5_kindOfWord 50 = .ok (.ifCond .eq 5, 3) := by decide +kernel
theorem dX5_kindOfWord_53 : decode cX5_kindOfWord 53 = .ok (.iconst 4, 1) := by decide +kernel
theorem dX5_kindOfWord_54 : decode cX5_kindOfWord 54 = .ok (.ireturn, 1) := by decide +kernel
theorem dX5_kindOfWord_55 : decode cX5_kindOfWord 55 = .ok (.aload_n 0, 1) := by decide +kernel
theorem dX5_kindOfWord_56 : decode cX5_kindOfWord 56 = .ok (.ldc 126, 2) := by decide +kernel
theorem dX5_kindOfWord_58 : decode cX5_kindOfWord 58 = .ok (.invokevirtual 114, 3) := by decide +kernel
theorem dX5_kindOfWord_61 : decode cX5_kindOfWord 61 = .ok (.ifCond .eq 5, 3) := by decide +kernel
theorem dX5_kindOfWord_64 : decode cX5_kindOfWord 64 = .ok (.iconst 5, 1) := by decide +kernel
theorem dX5_kindOfWord_65 : decode cX5_kindOfWord 65 = .ok (.ireturn, 1) := by decide +kernel
theorem dX5_kindOfWord_66 : decode cX5_kindOfWord 66 = .ok (.aload_n 0, 1) := by decide +kernel
theorem dX5_kindOfWord_67 : decode cX5_kindOfWord 67 = .ok (.ldc 128, 2) := by decide +kernel
theorem dX5_kindOfWord_69 : decode cX5_kindOfWord 69 = .ok (.invokevirtual 114, 3) := by decide +kernel
theorem dX5_kindOfWord_72 : decode cX5_kindOfWord 72 = .ok (.ifCond .eq 6, 3) := by decide +kernel
theorem dX5_kindOfWord_75 : decode cX5_kindOfWord 75 = .ok (.bipush 6, 2) := by decide +kernel
theorem dX5_kindOfWord_77 : decode cX5_kindOfWord 77 = .ok (.ireturn, 1) := by decide +kernel
theorem dX5_kindOfWord_78 : decode cX5_kindOfWord 78 = .ok (.aload_n 0, 1) := by decide +kernel
theorem dX5_kindOfWord_79 : decode cX5_kindOfWord 79 = .ok (.ldc 130, 2) := by decide +kernel
theorem dX5_kindOfWord_81 : decode cX5_kindOfWord 81 = .ok (.invokevirtual 114, 3) := by decide +kernel
theorem dX5_kindOfWord_84 : decode cX5_kindOfWord 84 = .ok (.ifCond .eq 6, 3) := by decide +kernel
theorem dX5_kindOfWord_87 : decode cX5_kindOfWord 87 = .ok (.bipush 7, 2) := by decide +kernel
theorem dX5_kindOfWord_89 : decode cX5_kindOfWord 89 = .ok (.ireturn, 1) := by decide +kernel
theorem dX5_kindOfWord_90 : decode cX5_kindOfWord 90 = .ok (.aload_n 0, 1) := by decide +kernel
theorem dX5_kindOfWord_91 : decode cX5_kindOfWord 91 = .ok (.ldc 132, 2) := by decide +kernel
theorem dX5_kindOfWord_93 : decode cX5_kindOfWord 93 = .ok (.invokevirtual 114, 3) := by decide +kernel
theorem dX5_kindOfWord_96 : decode cX5_kindOfWord 96 = .ok (.ifCond .eq 8, 3) := by decide +kernel
theorem dX5_kindOfWord_99 : decode cX5_kindOfWord 99 = .ok (.bipush 8, 2) := by decide +kernel
theorem dX5_kindOfWord_101 : decode cX5_kindOfWord 101 = .ok (.goto 5, 3) := by decide +kernel
theorem dX5_kindOfWord_104 : decode cX5_kindOfWord 104 = .ok (.bipush 16, 2) := by decide +kernel
theorem dX5_kindOfWord_106 : decode cX5_kindOfWord 106 = .ok (.ireturn, 1) := by decide +kernel
theorem dX5_spells_0 : decode cX5_spells 0 = .ok (.aload_n 0, 1) := by decide +kernel
theorem dX5_spells_1 : decode cX5_spells 1 = .ok (.getfield 35, 3) := by decide +kernel
theorem dX5_spells_4 : decode cX5_spells 4 = .ok (.aload_n 0, 1) := by decide +kernel
theorem dX5_spells_5 : decode cX5_spells 5 = .ok (.getfield 67, 3) := by decide +kernel
theorem dX5_spells_8 : decode cX5_spells 8 = .ok (.isub, 1) := by decide +kernel
theorem dX5_spells_9 : decode cX5_spells 9 = .ok (.aload_n 1, 1) := by decide +kernel
theorem dX5_spells_10 : decode cX5_spells 10 = .ok (.invokevirtual 134, 3) := by decide +kernel
theorem dX5_spells_13 : decode cX5_spells 13 = .ok (.if_icmp .eq 5, 3) := by decide +kernel
theorem dX5_spells_16 : decode cX5_spells 16 = .ok (.iconst 0, 1) := by decide +kernel
theorem dX5_spells_17 : decode cX5_spells 17 = .ok (.ireturn, 1) := by decide +kernel
theorem dX5_spells_18 : decode cX5_spells 18 = .ok (.iconst 0, 1) := by decide +kernel
theorem dX5_spells_19 : decode cX5_spells 19 = .ok (.istore_n 2, 1) := by decide +kernel
theorem dX5_spells_20 : decode cX5_spells 20 = .ok (.iload_n 2, 1) := by decide +kernel
theorem dX5_spells_21 : decode cX5_spells 21 = .ok (.aload_n 1, 1) := by decide +kernel
theorem dX5_spells_22 : decode cX5_spells 22 = .ok (.invokevirtual 134, 3) := by decide +kernel
theorem dX5_spells_25 : decode cX5_spells 25 = .ok (.if_icmp .ge 29, 3) := by decide +kernel
theorem dX5_spells_28 : decode cX5_spells 28 = .ok (.aload_n 0, 1) := by decide +kernel
theorem dX5_spells_29 : decode cX5_spells 29 = .ok (.aload_n 0, 1) := by decide +kernel
theorem dX5_spells_30 : decode cX5_spells 30 = .ok (.getfield 67, 3) := by decide +kernel
theorem dX5_spells_33 : decode cX5_spells 33 = .ok (.iload_n 2, 1) := by decide +kernel
theorem dX5_spells_34 : decode cX5_spells 34 = .ok (.iadd, 1) := by decide +kernel
theorem dX5_spells_35 : decode cX5_spells 35 = .ok (.invokevirtual 92, 3) := by decide +kernel
theorem dX5_spells_38 : decode cX5_spells 38 = .ok (.aload_n 1, 1) := by decide +kernel
theorem dX5_spells_39 : decode cX5_spells 39 = .ok (.iload_n 2, 1) := by decide +kernel
theorem dX5_spells_40 : decode cX5_spells 40 = .ok (.invokevirtual 138, 3) := by decide +kernel
theorem dX5_spells_43 : decode cX5_spells 43 = .ok (.if_icmp .eq 5, 3) := by decide +kernel
theorem dX5_spells_46 : decode cX5_spells 46 = .ok (.iconst 0, 1) := by decide +kernel
theorem dX5_spells_47 : decode cX5_spells 47 = .ok (.ireturn, 1) := by decide +kernel
theorem dX5_spells_48 : decode cX5_spells 48 = .ok (.iinc 2 1, 3) := by decide +kernel
theorem dX5_spells_51 : decode cX5_spells 51 = .ok (.goto (-31), 3) := by decide +kernel
theorem dX5_spells_54 : decode cX5_spells 54 = .ok (.iconst 1, 1) := by decide +kernel
theorem dX5_spells_55 : decode cX5_spells 55 = .ok (.ireturn, 1) := by decide +kernel
theorem dX5_kindOfSign_0 : decode cX5_kindOfSign 0 = .ok (.iload_n 0, 1) := by decide +kernel
theorem dX5_kindOfSign_1 : decode cX5_kindOfSign 1 = .ok (.lookupswitch 66 #[(40, 60), (41, 63), (60, 51), (61, 57), (62, 54)], 51) := by decide +kernel
theorem dX5_kindOfSign_52 : decode cX5_kindOfSign 52 = .ok (.bipush 9, 2) := by decide +kernel
theorem dX5_kindOfSign_54 : decode cX5_kindOfSign 54 = .ok (.ireturn, 1) := by decide +kernel
theorem dX5_kindOfSign_55 : decode cX5_kindOfSign 55 = .ok (.bipush 10, 2) := by decide +kernel
theorem dX5_kindOfSign_57 : decode cX5_kindOfSign 57 = .ok (.ireturn, 1) := by decide +kernel
theorem dX5_kindOfSign_58 : decode cX5_kindOfSign 58 = .ok (.bipush 11, 2) := by decide +kernel
theorem dX5_kindOfSign_60 : decode cX5_kindOfSign 60 = .ok (.ireturn, 1) := by decide +kernel
theorem dX5_kindOfSign_61 : decode cX5_kindOfSign 61 = .ok (.bipush 12, 2) := by decide +kernel
theorem dX5_kindOfSign_63 : decode cX5_kindOfSign 63 = .ok (.ireturn, 1) := by decide +kernel
theorem dX5_kindOfSign_64 : decode cX5_kindOfSign 64 = .ok (.bipush 13, 2) := by decide +kernel
theorem dX5_kindOfSign_66 : decode cX5_kindOfSign 66 = .ok (.ireturn, 1) := by decide +kernel
theorem dX5_kindOfSign_67 : decode cX5_kindOfSign 67 = .ok (.bipush 16, 2) := by decide +kernel
theorem dX5_kindOfSign_69 : decode cX5_kindOfSign 69 = .ok (.ireturn, 1) := by decide +kernel
theorem dX5_byteAt_0 : decode cX5_byteAt 0 = .ok (.iload_n 1, 1) := by decide +kernel
theorem dX5_byteAt_1 : decode cX5_byteAt 1 = .ok (.ifCond .lt 25, 3) := by decide +kernel
theorem dX5_byteAt_4 : decode cX5_byteAt 4 = .ok (.iload_n 1, 1) := by decide +kernel
theorem dX5_byteAt_5 : decode cX5_byteAt 5 = .ok (.aload_n 0, 1) := by decide +kernel
theorem dX5_byteAt_6 : decode cX5_byteAt 6 = .ok (.getfield 15, 3) := by decide +kernel
theorem dX5_byteAt_9 : decode cX5_byteAt 9 = .ok (.arraylength, 1) := by decide +kernel
theorem dX5_byteAt_10 : decode cX5_byteAt 10 = .ok (.if_icmp .ge 16, 3) := by decide +kernel
theorem dX5_byteAt_13 : decode cX5_byteAt 13 = .ok (.aload_n 0, 1) := by decide +kernel
theorem dX5_byteAt_14 : decode cX5_byteAt 14 = .ok (.getfield 15, 3) := by decide +kernel
theorem dX5_byteAt_17 : decode cX5_byteAt 17 = .ok (.iload_n 1, 1) := by decide +kernel
theorem dX5_byteAt_18 : decode cX5_byteAt 18 = .ok (.baload, 1) := by decide +kernel
theorem dX5_byteAt_19 : decode cX5_byteAt 19 = .ok (.sipush 255, 3) := by decide +kernel
theorem dX5_byteAt_22 : decode cX5_byteAt 22 = .ok (.iand, 1) := by decide +kernel
theorem dX5_byteAt_23 : decode cX5_byteAt 23 = .ok (.goto 4, 3) := by decide +kernel
theorem dX5_byteAt_26 : decode cX5_byteAt 26 = .ok (.iconst 0, 1) := by decide +kernel
theorem dX5_byteAt_27 : decode cX5_byteAt 27 = .ok (.ireturn, 1) := by decide +kernel
theorem dX5_isLetter_0 : decode cX5_isLetter 0 = .ok (.iload_n 0, 1) := by decide +kernel
theorem dX5_isLetter_1 : decode cX5_isLetter 1 = .ok (.bipush 97, 2) := by decide +kernel
theorem dX5_isLetter_3 : decode cX5_isLetter 3 = .ok (.if_icmp .lt 13, 3) := by decide +kernel
theorem dX5_isLetter_6 : decode cX5_isLetter 6 = .ok (.iload_n 0, 1) := by decide +kernel
theorem dX5_isLetter_7 : decode cX5_isLetter 7 = .ok (.bipush 122, 2) := by decide +kernel
theorem dX5_isLetter_9 : decode cX5_isLetter 9 = .ok (.if_icmp .gt 7, 3) := by decide +kernel
theorem dX5_isLetter_12 : decode cX5_isLetter 12 = .ok (.iconst 1, 1) := by decide +kernel
theorem dX5_isLetter_13 : decode cX5_isLetter 13 = .ok (.goto 4, 3) := by decide +kernel
theorem dX5_isLetter_16 : decode cX5_isLetter 16 = .ok (.iconst 0, 1) := by decide +kernel
theorem dX5_isLetter_17 : decode cX5_isLetter 17 = .ok (.ireturn, 1) := by decide +kernel
theorem dX5_isDigit_0 : decode cX5_isDigit 0 = .ok (.iload_n 0, 1) := by decide +kernel
theorem dX5_isDigit_1 : decode cX5_isDigit 1 = .ok (.bipush 48, 2) := by decide +kernel
theorem dX5_isDigit_3 : decode cX5_isDigit 3 = .ok (.if_icmp .lt 13, 3) := by decide +kernel
theorem dX5_isDigit_6 : decode cX5_isDigit 6 = .ok (.iload_n 0, 1) := by decide +kernel
theorem dX5_isDigit_7 : decode cX5_isDigit 7 = .ok (.bipush 57, 2) := by decide +kernel
theorem dX5_isDigit_9 : decode cX5_isDigit 9 = .ok (.if_icmp .gt 7, 3) := by decide +kernel
theorem dX5_isDigit_12 : decode cX5_isDigit 12 = .ok (.iconst 1, 1) := by decide +kernel
theorem dX5_isDigit_13 : decode cX5_isDigit 13 = .ok (.goto 4, 3) := by decide +kernel
theorem dX5_isDigit_16 : decode cX5_isDigit 16 = .ok (.iconst 0, 1) := by decide +kernel
theorem dX5_isDigit_17 : decode cX5_isDigit 17 = .ok (.ireturn, 1) := by decide +kernel
theorem dX6_init_0 : decode cX6_init 0 = .ok (.aload_n 0, 1) := by decide +kernel
theorem dX6_init_1 : decode cX6_init 1 = .ok (.invokespecial 3, 3) := by decide +kernel
theorem dX6_init_4 : decode cX6_init 4 = .ok (.aload_n 0, 1) := by decide +kernel
theorem dX6_init_5 : decode cX6_init 5 = .ok (.new 9, 3) := by decide +kernel
theorem dX6_init_8 : decode cX6_init 8 = .ok (.dup, 1) := by decide +kernel
theorem dX6_init_9 : decode cX6_init 9 = .ok (.invokespecial 11, 3) := by decide +kernel
theorem dX6_init_12 : decode cX6_init 12 = .ok (.putfield 12, 3) := by decide +kernel
theorem dX6_init_15 : decode cX6_init 15 = .ok (.aload_n 0, 1) := by decide +kernel
theorem dX6_init_16 : decode cX6_init 16 = .ok (.iconst 0, 1) := by decide +kernel
theorem dX6_init_17 : decode cX6_init 17 = .ok (.newarray .int, 2) := by decide +kernel
theorem dX6_init_19 : decode cX6_init 19 = .ok (.putfield 18, 3) := by decide +kernel
theorem dX6_init_22 : decode cX6_init 22 = .ok (.aload_n 0, 1) := by decide +kernel
theorem dX6_init_23 : decode cX6_init 23 = .ok (.iload_n 1, 1) := by decide +kernel
theorem dX6_init_24 : decode cX6_init 24 = .ok (.putfield 22, 3) := by decide +kernel
theorem dX6_init_27 : decode cX6_init 27 = .ok (.aload_n 0, 1) := by decide +kernel
theorem dX6_init_28 : decode cX6_init 28 = .ok (.iload_n 2, 1) := by decide +kernel
theorem dX6_init_29 : decode cX6_init 29 = .ok (.putfield 26, 3) := by decide +kernel
theorem dX6_init_32 : decode cX6_init 32 = .ok (.aload_n 0, 1) := by decide +kernel
theorem dX6_init_33 : decode cX6_init 33 = .ok (.iload_n 3, 1) := by decide +kernel
theorem dX6_init_34 : decode cX6_init 34 = .ok (.putfield 29, 3) := by decide +kernel
theorem dX6_init_37 : decode cX6_init 37 = .ok (.aload_n 0, 1) := by decide +kernel
theorem dX6_init_38 : decode cX6_init 38 = .ok (.iload 4, 2) := by decide +kernel
theorem dX6_init_40 : decode cX6_init 40 = .ok (.putfield 32, 3) := by decide +kernel
theorem dX6_init_43 : decode cX6_init 43 = .ok (.aload_n 0, 1) := by decide +kernel
theorem dX6_init_44 : decode cX6_init 44 = .ok (.iload 5, 2) := by decide +kernel
theorem dX6_init_46 : decode cX6_init 46 = .ok (.putfield 35, 3) := by decide +kernel
theorem dX6_init_49 : decode cX6_init 49 = .ok (.return_, 1) := by decide +kernel
theorem dX6_leastDepth_0 : decode cX6_leastDepth 0 = .ok (.aload_n 0, 1) := by decide +kernel
theorem dX6_leastDepth_1 : decode cX6_leastDepth 1 = .ok (.getfield 12, 3) := by decide +kernel
theorem dX6_leastDepth_4 : decode cX6_leastDepth 4 = .ok (.invokevirtual 38, 3) := by decide +kernel
theorem dX6_leastDepth_7 : decode cX6_leastDepth 7 = .ok (.ifCond .eq 7, 3) := by decide +kernel
theorem dX6_leastDepth_10 : decode cX6_leastDepth 10 = .ok (.iconst 0, 1) := by decide +kernel
theorem dX6_leastDepth_11 : decode cX6_leastDepth 11 = .ok (.goto 17, 3) := by decide +kernel
theorem dX6_leastDepth_14 : decode cX6_leastDepth 14 = .ok (.aload_n 0, 1) := by decide +kernel
theorem dX6_leastDepth_15 : decode cX6_leastDepth 15 = .ok (.getfield 12, 3) := by decide +kernel
theorem dX6_leastDepth_18 : decode cX6_leastDepth 18 = .ok (.iconst 0, 1) := by decide +kernel
theorem dX6_leastDepth_19 : decode cX6_leastDepth 19 = .ok (.invokevirtual 42, 3) := by decide +kernel
theorem dX6_leastDepth_22 : decode cX6_leastDepth 22 = .ok (.checkcast 46, 3) := by decide +kernel
theorem dX6_leastDepth_25 : decode cX6_leastDepth 25 = .ok (.invokevirtual 48, 3) := by decide +kernel
theorem dX6_leastDepth_28 : decode cX6_leastDepth 28 = .ok (.istore_n 1, 1) := by decide +kernel
theorem dX6_leastDepth_29 : decode cX6_leastDepth 29 = .ok (.iconst 1, 1) := by decide +kernel
theorem dX6_leastDepth_30 : decode cX6_leastDepth 30 = .ok (.istore_n 2, 1) := by decide +kernel
theorem dX6_leastDepth_31 : decode cX6_leastDepth 31 = .ok (.iload_n 2, 1) := by decide +kernel
theorem dX6_leastDepth_32 : decode cX6_leastDepth 32 = .ok (.aload_n 0, 1) := by decide +kernel
theorem dX6_leastDepth_33 : decode cX6_leastDepth 33 = .ok (.getfield 12, 3) := by decide +kernel
theorem dX6_leastDepth_36 : decode cX6_leastDepth 36 = .ok (.invokevirtual 52, 3) := by decide +kernel
theorem dX6_leastDepth_39 : decode cX6_leastDepth 39 = .ok (.if_icmp .ge 28, 3) := by decide +kernel
theorem dX6_leastDepth_42 : decode cX6_leastDepth 42 = .ok (.iload_n 1, 1) := by decide +kernel
theorem dX6_leastDepth_43 : decode cX6_leastDepth 43 = .ok (.aload_n 0, 1) := by decide +kernel
theorem dX6_leastDepth_44 : decode cX6_leastDepth 44 = .ok (.getfield 12, 3) := by decide +kernel
theorem dX6_leastDepth_47 : decode cX6_leastDepth 47 = .ok (.iload_n 2, 1) := by decide +kernel
theorem dX6_leastDepth_48 : decode cX6_leastDepth 48 = .ok (.invokevirtual 42, 3) := by decide +kernel
theorem dX6_leastDepth_51 : decode cX6_leastDepth 51 = .ok (.checkcast 46, 3) := by decide +kernel
theorem dX6_leastDepth_54 : decode cX6_leastDepth 54 = .ok (.invokevirtual 48, 3) := by decide +kernel
theorem dX6_leastDepth_57 : decode cX6_leastDepth 57 = .ok (.invokestatic 55, 3) := by decide +kernel
theorem dX6_leastDepth_60 : decode cX6_leastDepth 60 = .ok (.istore_n 1, 1) := by decide +kernel
theorem dX6_leastDepth_61 : decode cX6_leastDepth 61 = .ok (.iinc 2 1, 3) := by decide +kernel
theorem dX6_leastDepth_64 : decode cX6_leastDepth 64 = .ok (.goto (-33), 3) := by decide +kernel
theorem dX6_leastDepth_67 : decode cX6_leastDepth 67 = .ok (.iload_n 1, 1) := by decide +kernel
theorem dX6_leastDepth_68 : decode cX6_leastDepth 68 = .ok (.ireturn, 1) := by decide +kernel
theorem dX6_mostWorn_0 : decode cX6_mostWorn 0 = .ok (.iconst 0, 1) := by decide +kernel
theorem dX6_mostWorn_1 : decode cX6_mostWorn 1 = .ok (.istore_n 1, 1) := by decide +kernel
theorem dX6_mostWorn_2 : decode cX6_mostWorn 2 = .ok (.iconst 0, 1) := by decide +kernel
theorem dX6_mostWorn_3 : decode cX6_mostWorn 3 = .ok (.istore_n 2, 1) := by decide +kernel
theorem dX6_mostWorn_4 : decode cX6_mostWorn 4 = .ok (.iload_n 2, 1) := by decide +kernel
theorem dX6_mostWorn_5 : decode cX6_mostWorn 5 = .ok (.aload_n 0, 1) := by decide +kernel
theorem dX6_mostWorn_6 : decode cX6_mostWorn 6 = .ok (.getfield 12, 3) := by decide +kernel
theorem dX6_mostWorn_9 : decode cX6_mostWorn 9 = .ok (.invokevirtual 52, 3) := by decide +kernel
theorem dX6_mostWorn_12 : decode cX6_mostWorn 12 = .ok (.if_icmp .ge 30, 3) := by decide +kernel
theorem dX6_mostWorn_15 : decode cX6_mostWorn 15 = .ok (.iload_n 1, 1) := by decide +kernel
theorem dX6_mostWorn_16 : decode cX6_mostWorn 16 = .ok (.aload_n 0, 1) := by decide +kernel
theorem dX6_mostWorn_17 : decode cX6_mostWorn 17 = .ok (.getfield 12, 3) := by decide +kernel
theorem dX6_mostWorn_20 : decode cX6_mostWorn 20 = .ok (.iload_n 2, 1) := by decide +kernel
theorem dX6_mostWorn_21 : decode cX6_mostWorn 21 = .ok (.invokevirtual 42, 3) := by decide +kernel
theorem dX6_mostWorn_24 : decode cX6_mostWorn 24 = .ok (.checkcast 46, 3) := by decide +kernel
theorem dX6_mostWorn_27 : decode cX6_mostWorn 27 = .ok (.getfield 61, 3) := by decide +kernel
theorem dX6_mostWorn_30 : decode cX6_mostWorn 30 = .ok (.iconst 3, 1) := by decide +kernel
theorem dX6_mostWorn_31 : decode cX6_mostWorn 31 = .ok (.iaload, 1) := by decide +kernel
theorem dX6_mostWorn_32 : decode cX6_mostWorn 32 = .ok (.invokestatic 64, 3) := by decide +kernel
theorem dX6_mostWorn_35 : decode cX6_mostWorn 35 = .ok (.istore_n 1, 1) := by decide +kernel
theorem dX6_mostWorn_36 : decode cX6_mostWorn 36 = .ok (.iinc 2 1, 3) := by decide +kernel
theorem dX6_mostWorn_39 : decode cX6_mostWorn 39 = .ok (.goto (-35), 3) := by decide +kernel
theorem dX6_mostWorn_42 : decode cX6_mostWorn 42 = .ok (.iload_n 1, 1) := by decide +kernel
theorem dX6_mostWorn_43 : decode cX6_mostWorn 43 = .ok (.ireturn, 1) := by decide +kernel
theorem dX6_wear_0 : decode cX6_wear 0 = .ok (.iconst 0, 1) := by decide +kernel
theorem dX6_wear_1 : decode cX6_wear 1 = .ok (.istore_n 2, 1) := by decide +kernel
theorem dX6_wear_2 : decode cX6_wear 2 = .ok (.iconst 0, 1) := by decide +kernel
theorem dX6_wear_3 : decode cX6_wear 3 = .ok (.istore_n 3, 1) := by decide +kernel
theorem dX6_wear_4 : decode cX6_wear 4 = .ok (.iload_n 3, 1) := by decide +kernel
theorem dX6_wear_5 : decode cX6_wear 5 = .ok (.aload_n 0, 1) := by decide +kernel
theorem dX6_wear_6 : decode cX6_wear 6 = .ok (.getfield 12, 3) := by decide +kernel
theorem dX6_wear_9 : decode cX6_wear 9 = .ok (.invokevirtual 52, 3) := by decide +kernel
theorem dX6_wear_12 : decode cX6_wear 12 = .ok (.if_icmp .ge 34, 3) := by decide +kernel
theorem dX6_wear_15 : decode cX6_wear 15 = .ok (.iload_n 2, 1) := by decide +kernel
theorem dX6_wear_16 : decode cX6_wear 16 = .ok (.aload_n 0, 1) := by decide +kernel
theorem dX6_wear_17 : decode cX6_wear 17 = .ok (.getfield 12, 3) := by decide +kernel
theorem dX6_wear_20 : decode cX6_wear 20 = .ok (.iload_n 3, 1) := by decide +kernel
theorem dX6_wear_21 : decode cX6_wear 21 = .ok (.invokevirtual 42, 3) := by decide +kernel
theorem dX6_wear_24 : decode cX6_wear 24 = .ok (.checkcast 46, 3) := by decide +kernel
theorem dX6_wear_27 : decode cX6_wear 27 = .ok (.iload_n 1, 1) := by decide +kernel
theorem dX6_wear_28 : decode cX6_wear 28 = .ok (.iconst 1, 1) := by decide +kernel
theorem dX6_wear_29 : decode cX6_wear 29 = .ok (.aload_n 0, 1) := by decide +kernel
theorem dX6_wear_30 : decode cX6_wear 30 = .ok (.getfield 35, 3) := by decide +kernel
theorem dX6_wear_33 : decode cX6_wear 33 = .ok (.iadd, 1) := by decide +kernel
theorem dX6_wear_34 : decode cX6_wear 34 = .ok (.imul, 1) := by decide +kernel
theorem dX6_wear_35 : decode cX6_wear 35 = .ok (.invokevirtual 67, 3) := by decide +kernel
theorem dX6_wear_38 : decode cX6_wear 38 = .ok (.iadd, 1) := by decide +kernel
theorem dX6_wear_39 : decode cX6_wear 39 = .ok (.istore_n 2, 1) := by decide +kernel
theorem dX6_wear_40 : decode cX6_wear 40 = .ok (.iinc 3 1, 3) := by decide +kernel
theorem dX6_wear_43 : decode cX6_wear 43 = .ok (.goto (-39), 3) := by decide +kernel
theorem dX6_wear_46 : decode cX6_wear 46 = .ok (.iload_n 2, 1) := by decide +kernel
theorem dX6_wear_47 : decode cX6_wear 47 = .ok (.ireturn, 1) := by decide +kernel
