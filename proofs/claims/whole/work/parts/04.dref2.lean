theorem dX8_group_135 : decode cX8_group 135 = .ok (.aload_n 0, 1) := by decide +kernel
theorem dX8_group_136 : decode cX8_group 136 = .ok (.getfield 126, 3) := by decide +kernel
theorem dX8_group_139 : decode cX8_group 139 = .ok (.iconst 1, 1) := by decide +kernel
theorem dX8_group_140 : decode cX8_group 140 = .ok (.isub, 1) := by decide +kernel
theorem dX8_group_141 : decode cX8_group 141 = .ok (.ireturn, 1) := by decide +kernel
theorem dX8_wears_0 : decode cX8_wears 0 = .ok (.aload_n 0, 1) := by decide +kernel
theorem dX8_wears_1 : decode cX8_wears 1 = .ok (.getfield 27, 3) := by decide +kernel
theorem dX8_wears_4 : decode cX8_wears 4 = .ok (.bipush 6, 2) := by decide +kernel
theorem dX8_wears_6 : decode cX8_wears 6 = .ok (.iload_n 1, 1) := by decide +kernel
theorem dX8_wears_7 : decode cX8_wears 7 = .ok (.imul, 1) := by decide +kernel
theorem dX8_wears_8 : decode cX8_wears 8 = .ok (.iconst 4, 1) := by decide +kernel
theorem dX8_wears_9 : decode cX8_wears 9 = .ok (.iadd, 1) := by decide +kernel
theorem dX8_wears_10 : decode cX8_wears 10 = .ok (.iaload, 1) := by decide +kernel
theorem dX8_wears_11 : decode cX8_wears 11 = .ok (.istore_n 3, 1) := by decide +kernel
theorem dX8_wears_12 : decode cX8_wears 12 = .ok (.iload_n 3, 1) := by decide +kernel
theorem dX8_wears_13 : decode cX8_wears 13 = .ok (.aload_n 0, 1) := by decide +kernel
theorem dX8_wears_14 : decode cX8_wears 14 = .ok (.getfield 27, 3) := by decide +kernel
theorem dX8_wears_17 : decode cX8_wears 17 = .ok (.bipush 6, 2) := by decide +kernel
theorem dX8_wears_19 : decode cX8_wears 19 = .ok (.iload_n 1, 1) := by decide +kernel
theorem dX8_wears_20 : decode cX8_wears 20 = .ok (.imul, 1) := by decide +kernel
theorem dX8_wears_21 : decode cX8_wears 21 = .ok (.iconst 4, 1) := by decide +kernel
theorem dX8_wears_22 : decode cX8_wears 22 = .ok (.iadd, 1) := by decide +kernel
theorem dX8_wears_23 : decode cX8_wears 23 = .ok (.iaload, 1) := by decide +kernel
theorem dX8_wears_24 : decode cX8_wears 24 = .ok (.aload_n 0, 1) := by decide +kernel
theorem dX8_wears_25 : decode cX8_wears 25 = .ok (.getfield 27, 3) := by decide +kernel
theorem dX8_wears_28 : decode cX8_wears 28 = .ok (.bipush 6, 2) := by decide +kernel
theorem dX8_wears_30 : decode cX8_wears 30 = .ok (.iload_n 1, 1) := by decide +kernel
theorem dX8_wears_31 : decode cX8_wears 31 = .ok (.imul, 1) := by decide +kernel
theorem dX8_wears_32 : decode cX8_wears 32 = .ok (.iconst 5, 1) := by decide +kernel
theorem dX8_wears_33 : decode cX8_wears 33 = .ok (.iadd, 1) := by decide +kernel
theorem dX8_wears_34 : decode cX8_wears 34 = .ok (.iaload, 1) := by decide +kernel
theorem dX8_wears_35 : decode cX8_wears 35 = .ok (.iadd, 1) := by decide +kernel
theorem dX8_wears_36 : decode cX8_wears 36 = .ok (.if_icmp .ge 124, 3) := by decide +kernel
theorem dX8_wears_39 : decode cX8_wears 39 = .ok (.iload_n 2, 1) := by decide +kernel
theorem dX8_wears_40 : decode cX8_wears 40 = .ok (.iconst 1, 1) := by decide +kernel
theorem dX8_wears_41 : decode cX8_wears 41 = .ok (.aload_n 0, 1) := by decide +kernel
theorem dX8_wears_42 : decode cX8_wears 42 = .ok (.getfield 27, 3) := by decide +kernel
theorem dX8_wears_45 : decode cX8_wears 45 = .ok (.bipush 6, 2) := by decide +kernel
theorem dX8_wears_47 : decode cX8_wears 47 = .ok (.iload_n 1, 1) := by decide +kernel
theorem dX8_wears_48 : decode cX8_wears 48 = .ok (.imul, 1) := by decide +kernel
theorem dX8_wears_49 : decode cX8_wears 49 = .ok (.iconst 3, 1) := by decide +kernel
theorem dX8_wears_50 : decode cX8_wears 50 = .ok (.iadd, 1) := by decide +kernel
theorem dX8_wears_51 : decode cX8_wears 51 = .ok (.iaload, 1) := by decide +kernel
theorem dX8_wears_52 : decode cX8_wears 52 = .ok (.iadd, 1) := by decide +kernel
theorem dX8_wears_53 : decode cX8_wears 53 = .ok (.imul, 1) := by decide +kernel
theorem dX8_wears_54 : decode cX8_wears 54 = .ok (.istore 4, 2) := by decide +kernel
theorem dX8_wears_56 : decode cX8_wears 56 = .ok (.iconst 2, 1) := by decide +kernel
theorem dX8_wears_57 : decode cX8_wears 57 = .ok (.istore 5, 2) := by decide +kernel
theorem dX8_wears_59 : decode cX8_wears 59 = .ok (.iload 5, 2) := by decide +kernel
theorem dX8_wears_61 : decode cX8_wears 61 = .ok (.ifCond .lt 93, 3) := by decide +kernel
theorem dX8_wears_64 : decode cX8_wears 64 = .ok (.iload 4, 2) := by decide +kernel
theorem dX8_wears_66 : decode cX8_wears 66 = .ok (.aload_n 0, 1) := by decide +kernel
theorem dX8_wears_67 : decode cX8_wears 67 = .ok (.getfield 30, 3) := by decide +kernel
theorem dX8_wears_70 : decode cX8_wears 70 = .ok (.iconst 4, 1) := by decide +kernel
theorem dX8_wears_71 : decode cX8_wears 71 = .ok (.iload_n 3, 1) := by decide +kernel
theorem dX8_wears_72 : decode cX8_wears 72 = .ok (.imul, 1) := by decide +kernel
theorem dX8_wears_73 : decode cX8_wears 73 = .ok (.iload 5, 2) := by decide +kernel
theorem dX8_wears_75 : decode cX8_wears 75 = .ok (.iadd, 1) := by decide +kernel
theorem dX8_wears_76 : decode cX8_wears 76 = .ok (.iaload, 1) := by decide +kernel
theorem dX8_wears_77 : decode cX8_wears 77 = .ok (.if_icmp .ge 8, 3) := by decide +kernel
theorem dX8_wears_80 : decode cX8_wears 80 = .ok (.iload 4, 2) := by decide +kernel
theorem dX8_wears_82 : decode cX8_wears 82 = .ok (.goto 14, 3) := by decide +kernel
theorem dX8_wears_85 : decode cX8_wears 85 = .ok (.aload_n 0, 1) := by decide +kernel
theorem dX8_wears_86 : decode cX8_wears 86 = .ok (.getfield 30, 3) := by decide +kernel
theorem dX8_wears_89 : decode cX8_wears 89 = .ok (.iconst 4, 1) := by decide +kernel
theorem dX8_wears_90 : decode cX8_wears 90 = .ok (.iload_n 3, 1) := by decide +kernel
theorem dX8_wears_91 : decode cX8_wears 91 = .ok (.imul, 1) := by decide +kernel
theorem dX8_wears_92 : decode cX8_wears 92 = .ok (.iload 5, 2) := by decide +kernel
theorem dX8_wears_94 : decode cX8_wears 94 = .ok (.iadd, 1) := by decide +kernel
theorem dX8_wears_95 : decode cX8_wears 95 = .ok (.iaload, 1) := by decide +kernel
theorem dX8_wears_96 : decode cX8_wears 96 = .ok (.istore 6, 2) := by decide +kernel
theorem dX8_wears_98 : decode cX8_wears 98 = .ok (.aload_n 0, 1) := by decide +kernel
theorem dX8_wears_99 : decode cX8_wears 99 = .ok (.getfield 30, 3) := by decide +kernel
theorem dX8_wears_102 : decode cX8_wears 102 = .ok (.iconst 4, 1) := by decide +kernel
theorem dX8_wears_103 : decode cX8_wears 103 = .ok (.iload_n 3, 1) := by decide +kernel
theorem dX8_wears_104 : decode cX8_wears 104 = .ok (.imul, 1) := by decide +kernel
theorem dX8_wears_105 : decode cX8_wears 105 = .ok (.iload 5, 2) := by decide +kernel
theorem dX8_wears_107 : decode cX8_wears 107 = .ok (.iadd, 1) := by decide +kernel
theorem dX8_wears_108 : decode cX8_wears 108 = .ok (.dup2, 1) := by decide +kernel
theorem dX8_wears_109 : decode cX8_wears 109 = .ok (.iaload, 1) := by decide +kernel
theorem dX8_wears_110 : decode cX8_wears 110 = .ok (.iload 6, 2) := by decide +kernel
theorem dX8_wears_112 : decode cX8_wears 112 = .ok (.isub, 1) := by decide +kernel
theorem dX8_wears_113 : decode cX8_wears 113 = .ok (.iastore, 1) := by decide +kernel
theorem dX8_wears_114 : decode cX8_wears 114 = .ok (.aload_n 0, 1) := by decide +kernel
theorem dX8_wears_115 : decode cX8_wears 115 = .ok (.getfield 30, 3) := by decide +kernel
theorem dX8_wears_118 : decode cX8_wears 118 = .ok (.iconst 4, 1) := by decide +kernel
theorem dX8_wears_119 : decode cX8_wears 119 = .ok (.iload_n 3, 1) := by decide +kernel
theorem dX8_wears_120 : decode cX8_wears 120 = .ok (.imul, 1) := by decide +kernel
theorem dX8_wears_121 : decode cX8_wears 121 = .ok (.iconst 3, 1) := by decide +kernel
theorem dX8_wears_122 : decode cX8_wears 122 = .ok (.iadd, 1) := by decide +kernel
theorem dX8_wears_123 : decode cX8_wears 123 = .ok (.dup2, 1) := by decide +kernel
theorem dX8_wears_124 : decode cX8_wears 124 = .ok (.iaload, 1) := by decide +kernel
theorem dX8_wears_125 : decode cX8_wears 125 = .ok (.iload 6, 2) := by decide +kernel
theorem dX8_wears_127 : decode cX8_wears 127 = .ok (.iadd, 1) := by decide +kernel
theorem dX8_wears_128 : decode cX8_wears 128 = .ok (.iastore, 1) := by decide +kernel
theorem dX8_wears_129 : decode cX8_wears 129 = .ok (.aload_n 0, 1) := by decide +kernel
theorem dX8_wears_130 : decode cX8_wears 130 = .ok (.getfield 70, 3) := by decide +kernel
theorem dX8_wears_133 : decode cX8_wears 133 = .ok (.iconst 4, 1) := by decide +kernel
theorem dX8_wears_134 : decode cX8_wears 134 = .ok (.dup2, 1) := by decide +kernel
theorem dX8_wears_135 : decode cX8_wears 135 = .ok (.laload, 1) := by decide +kernel
theorem dX8_wears_136 : decode cX8_wears 136 = .ok (.iload 6, 2) := by decide +kernel
theorem dX8_wears_138 : decode cX8_wears 138 = .ok (.i2l, 1) := by decide +kernel
theorem dX8_wears_139 : decode cX8_wears 139 = .ok (.ladd, 1) := by decide +kernel
theorem dX8_wears_140 : decode cX8_wears 140 = .ok (.lastore, 1) := by decide +kernel
theorem dX8_wears_141 : decode cX8_wears 141 = .ok (.iload 4, 2) := by decide +kernel
theorem dX8_wears_143 : decode cX8_wears 143 = .ok (.iload 6, 2) := by decide +kernel
theorem dX8_wears_145 : decode cX8_wears 145 = .ok (.isub, 1) := by decide +kernel
theorem dX8_wears_146 : decode cX8_wears 146 = .ok (.istore 4, 2) := by decide +kernel
theorem dX8_wears_148 : decode cX8_wears 148 = .ok (.iinc 5 (-1), 3) := by decide +kernel
theorem dX8_wears_151 : decode cX8_wears 151 = .ok (.goto (-92), 3) := by decide +kernel
theorem dX8_wears_154 : decode cX8_wears 154 = .ok (.iinc 3 1, 3) := by decide +kernel
theorem dX8_wears_157 : decode cX8_wears 157 = .ok (.goto (-145), 3) := by decide +kernel
theorem dX8_wears_160 : decode cX8_wears 160 = .ok (.return_, 1) := by decide +kernel
theorem dX8_waiting_0 : decode cX8_waiting 0 = .ok (.iconst 0, 1) := by decide +kernel
theorem dX8_waiting_1 : decode cX8_waiting 1 = .ok (.istore_n 2, 1) := by decide +kernel
theorem dX8_waiting_2 : decode cX8_waiting 2 = .ok (.iconst 0, 1) := by decide +kernel
theorem dX8_waiting_3 : decode cX8_waiting 3 = .ok (.istore_n 3, 1) := by decide +kernel
theorem dX8_waiting_4 : decode cX8_waiting 4 = .ok (.iload_n 3, 1) := by decide +kernel
theorem dX8_waiting_5 : decode cX8_waiting 5 = .ok (.aload_n 0, 1) := by decide +kernel
theorem dX8_waiting_6 : decode cX8_waiting 6 = .ok (.getfield 24, 3) := by decide +kernel
theorem dX8_waiting_9 : decode cX8_waiting 9 = .ok (.iload_n 1, 1) := by decide +kernel
theorem dX8_waiting_10 : decode cX8_waiting 10 = .ok (.iaload, 1) := by decide +kernel
theorem dX8_waiting_11 : decode cX8_waiting 11 = .ok (.if_icmp .ge 31, 3) := by decide +kernel
theorem dX8_waiting_14 : decode cX8_waiting 14 = .ok (.iload_n 2, 1) := by decide +kernel
theorem dX8_waiting_15 : decode cX8_waiting 15 = .ok (.aload_n 0, 1) := by decide +kernel
theorem dX8_waiting_16 : decode cX8_waiting 16 = .ok (.getfield 58, 3) := by decide +kernel
theorem dX8_waiting_19 : decode cX8_waiting 19 = .ok (.bipush 7, 2) := by decide +kernel
theorem dX8_waiting_21 : decode cX8_waiting 21 = .ok (.aload_n 0, 1) := by decide +kernel
theorem dX8_waiting_22 : decode cX8_waiting 22 = .ok (.getfield 21, 3) := by decide +kernel
theorem dX8_waiting_25 : decode cX8_waiting 25 = .ok (.bipush 60, 2) := by decide +kernel
theorem dX8_waiting_27 : decode cX8_waiting 27 = .ok (.iload_n 1, 1) := by decide +kernel
theorem dX8_waiting_28 : decode cX8_waiting 28 = .ok (.imul, 1) := by decide +kernel
theorem dX8_waiting_29 : decode cX8_waiting 29 = .ok (.iload_n 3, 1) := by decide +kernel
theorem dX8_waiting_30 : decode cX8_waiting 30 = .ok (.iadd, 1) := by decide +kernel
theorem dX8_waiting_31 : decode cX8_waiting 31 = .ok (.iaload, 1) := by decide +kernel
theorem dX8_waiting_32 : decode cX8_waiting 32 = .ok (.imul, 1) := by decide +kernel
theorem dX8_waiting_33 : decode cX8_waiting 33 = .ok (.iaload, 1) := by decide +kernel
theorem dX8_waiting_34 : decode cX8_waiting 34 = .ok (.iadd, 1) := by decide +kernel
theorem dX8_waiting_35 : decode cX8_waiting 35 = .ok (.istore_n 2, 1) := by decide +kernel
theorem dX8_waiting_36 : decode cX8_waiting 36 = .ok (.iinc 3 1, 3) := by decide +kernel
theorem dX8_waiting_39 : decode cX8_waiting 39 = .ok (.goto (-35), 3) := by decide +kernel
theorem dX8_waiting_42 : decode cX8_waiting 42 = .ok (.iload_n 2, 1) := by decide +kernel
theorem dX8_waiting_43 : decode cX8_waiting 43 = .ok (.ireturn, 1) := by decide +kernel
theorem dX8_chooses_0 : decode cX8_chooses 0 = .ok (.bipush 7, 2) := by decide +kernel
theorem dX8_chooses_2 : decode cX8_chooses 2 = .ok (.iload_n 1, 1) := by decide +kernel
theorem dX8_chooses_3 : decode cX8_chooses 3 = .ok (.imul, 1) := by decide +kernel
theorem dX8_chooses_4 : decode cX8_chooses 4 = .ok (.istore_n 2, 1) := by decide +kernel
theorem dX8_chooses_5 : decode cX8_chooses 5 = .ok (.iconst (-1), 1) := by decide +kernel
theorem dX8_chooses_6 : decode cX8_chooses 6 = .ok (.istore_n 3, 1) := by decide +kernel
theorem dX8_chooses_7 : decode cX8_chooses 7 = .ok (.iconst 0, 1) := by decide +kernel
theorem dX8_chooses_8 : decode cX8_chooses 8 = .ok (.istore 4, 2) := by decide +kernel
theorem dX8_chooses_10 : decode cX8_chooses 10 = .ok (.iload 4, 2) := by decide +kernel
theorem dX8_chooses_12 : decode cX8_chooses 12 = .ok (.aload_n 0, 1) := by decide +kernel
theorem dX8_chooses_13 : decode cX8_chooses 13 = .ok (.getfield 120, 3) := by decide +kernel
theorem dX8_chooses_16 : decode cX8_chooses 16 = .ok (.if_icmp .ge 99, 3) := by decide +kernel
theorem dX8_chooses_19 : decode cX8_chooses 19 = .ok (.aload_n 0, 1) := by decide +kernel
theorem dX8_chooses_20 : decode cX8_chooses 20 = .ok (.getfield 83, 3) := by decide +kernel
theorem dX8_chooses_23 : decode cX8_chooses 23 = .ok (.iload 4, 2) := by decide +kernel
theorem dX8_chooses_25 : decode cX8_chooses 25 = .ok (.baload, 1) := by decide +kernel
theorem dX8_chooses_26 : decode cX8_chooses 26 = .ok (.ifCond .eq 83, 3) := by decide +kernel
theorem dX8_chooses_29 : decode cX8_chooses 29 = .ok (.aload_n 0, 1) := by decide +kernel
theorem dX8_chooses_30 : decode cX8_chooses 30 = .ok (.getfield 27, 3) := by decide +kernel
theorem dX8_chooses_33 : decode cX8_chooses 33 = .ok (.bipush 6, 2) := by decide +kernel
theorem dX8_chooses_35 : decode cX8_chooses 35 = .ok (.iload 4, 2) := by decide +kernel
theorem dX8_chooses_37 : decode cX8_chooses 37 = .ok (.imul, 1) := by decide +kernel
theorem dX8_chooses_38 : decode cX8_chooses 38 = .ok (.iaload, 1) := by decide +kernel
theorem dX8_chooses_39 : decode cX8_chooses 39 = .ok (.aload_n 0, 1) := by decide +kernel
theorem dX8_chooses_40 : decode cX8_chooses 40 = .ok (.getfield 58, 3) := by decide +kernel
theorem dX8_chooses_43 : decode cX8_chooses 43 = .ok (.iload_n 2, 1) := by decide +kernel
theorem dX8_chooses_44 : decode cX8_chooses 44 = .ok (.iconst 3, 1) := by decide +kernel
theorem dX8_chooses_45 : decode cX8_chooses 45 = .ok (.iadd, 1) := by decide +kernel
theorem dX8_chooses_46 : decode cX8_chooses 46 = .ok (.iaload, 1) := by decide +kernel
theorem dX8_chooses_47 : decode cX8_chooses 47 = .ok (.if_icmp .ne 62, 3) := by decide +kernel
theorem dX8_chooses_50 : decode cX8_chooses 50 = .ok (.aload_n 0, 1) := by decide +kernel
theorem dX8_chooses_51 : decode cX8_chooses 51 = .ok (.getfield 27, 3) := by decide +kernel
theorem dX8_chooses_54 : decode cX8_chooses 54 = .ok (.bipush 6, 2) := by decide +kernel
theorem dX8_chooses_56 : decode cX8_chooses 56 = .ok (.iload 4, 2) := by decide +kernel
theorem dX8_chooses_58 : decode cX8_chooses 58 = .ok (.imul, 1) := by decide +kernel
theorem dX8_chooses_59 : decode cX8_chooses 59 = .ok (.iconst 3, 1) := by decide +kernel
theorem dX8_chooses_60 : decode cX8_chooses 60 = .ok (.iadd, 1) := by decide +kernel
theorem dX8_chooses_61 : decode cX8_chooses 61 = .ok (.iaload, 1) := by decide +kernel
theorem dX8_chooses_62 : decode cX8_chooses 62 = .ok (.aload_n 0, 1) := by decide +kernel
theorem dX8_chooses_63 : decode cX8_chooses 63 = .ok (.getfield 58, 3) := by decide +kernel
theorem dX8_chooses_66 : decode cX8_chooses 66 = .ok (.iload_n 2, 1) := by decide +kernel
theorem dX8_chooses_67 : decode cX8_chooses 67 = .ok (.iconst 1, 1) := by decide +kernel
theorem dX8_chooses_68 : decode cX8_chooses 68 = .ok (.iadd, 1) := by decide +kernel
theorem dX8_chooses_69 : decode cX8_chooses 69 = .ok (.iaload, 1) := by decide +kernel
theorem dX8_chooses_70 : decode cX8_chooses 70 = .ok (.if_icmp .le 6, 3) := by decide +kernel
theorem dX8_chooses_73 : decode cX8_chooses 73 = .ok (.goto 36, 3) := by decide +kernel
theorem dX8_chooses_76 : decode cX8_chooses 76 = .ok (.iload_n 3, 1) := by decide +kernel
theorem dX8_chooses_77 : decode cX8_chooses 77 = .ok (.ifCond .lt 29, 3) := by decide +kernel
theorem dX8_chooses_80 : decode cX8_chooses 80 = .ok (.aload_n 0, 1) := by decide +kernel
theorem dX8_chooses_81 : decode cX8_chooses 81 = .ok (.getfield 27, 3) := by decide +kernel
theorem dX8_chooses_84 : decode cX8_chooses 84 = .ok (.bipush 6, 2) := by decide +kernel
theorem dX8_chooses_86 : decode cX8_chooses 86 = .ok (.iload 4, 2) := by decide +kernel
theorem dX8_chooses_88 : decode cX8_chooses 88 = .ok (.imul, 1) := by decide +kernel
theorem dX8_chooses_89 : decode cX8_chooses 89 = .ok (.iconst 3, 1) := by decide +kernel
theorem dX8_chooses_90 : decode cX8_chooses 90 = .ok (.iadd, 1) := by decide +kernel
theorem dX8_chooses_91 : decode cX8_chooses 91 = .ok (.iaload, 1) := by decide +kernel
theorem dX8_chooses_92 : decode cX8_chooses 92 = .ok (.aload_n 0, 1) := by decide +kernel
theorem dX8_chooses_93 : decode cX8_chooses 93 = .ok (.getfield 27, 3) := by decide +kernel
theorem dX8_chooses_96 : decode cX8_chooses 96 = .ok (.bipush 6, 2) := by decide +kernel
theorem dX8_chooses_98 : decode cX8_chooses 98 = .ok (.iload_n 3, 1) := by decide +kernel
theorem dX8_chooses_99 : decode cX8_chooses 99 = .ok (.imul, 1) := by decide +kernel
theorem dX8_chooses_100 : decode cX8_chooses 100 = .ok (.iconst 3, 1) := by decide +kernel
theorem dX8_chooses_101 : decode cX8_chooses 101 = .ok (.iadd, 1) := by decide +kernel
theorem dX8_chooses_102 : decode cX8_chooses 102 = .ok (.iaload, 1) := by decide +kernel
theorem dX8_chooses_103 : decode cX8_chooses 103 = .ok (.if_icmp .le 6, 3) := by decide +kernel
theorem dX8_chooses_106 : decode cX8_chooses 106 = .ok (.iload 4, 2) := by decide +kernel
theorem dX8_chooses_108 : decode cX8_chooses 108 = .ok (.istore_n 3, 1) := by decide +kernel
theorem dX8_chooses_109 : decode cX8_chooses 109 = .ok (.iinc 4 1, 3) := by decide +kernel
theorem dX8_chooses_112 : decode cX8_chooses 112 = .ok (.goto (-102), 3) := by decide +kernel
theorem dX8_chooses_115 : decode cX8_chooses 115 = .ok (.iload_n 3, 1) := by decide +kernel
theorem dX8_chooses_116 : decode cX8_chooses 116 = .ok (.ifCond .lt 65, 3) := by decide +kernel
theorem dX8_chooses_119 : decode cX8_chooses 119 = .ok (.aload_n 0, 1) := by decide +kernel
theorem dX8_chooses_120 : decode cX8_chooses 120 = .ok (.getfield 58, 3) := by decide +kernel
theorem dX8_chooses_123 : decode cX8_chooses 123 = .ok (.iload_n 2, 1) := by decide +kernel
theorem dX8_chooses_124 : decode cX8_chooses 124 = .ok (.iconst 2, 1) := by decide +kernel
theorem dX8_chooses_125 : decode cX8_chooses 125 = .ok (.iadd, 1) := by decide +kernel
theorem dX8_chooses_126 : decode cX8_chooses 126 = .ok (.iconst 3, 1) := by decide +kernel
theorem dX8_chooses_127 : decode cX8_chooses 127 = .ok (.iastore, 1) := by decide +kernel
theorem dX8_chooses_128 : decode cX8_chooses 128 = .ok (.aload_n 0, 1) := by decide +kernel
theorem dX8_chooses_129 : decode cX8_chooses 129 = .ok (.getfield 58, 3) := by decide +kernel
theorem dX8_chooses_132 : decode cX8_chooses 132 = .ok (.iload_n 2, 1) := by decide +kernel
theorem dX8_chooses_133 : decode cX8_chooses 133 = .ok (.iconst 3, 1) := by decide +kernel
theorem dX8_chooses_134 : decode cX8_chooses 134 = .ok (.iadd, 1) := by decide +kernel
theorem dX8_chooses_135 : decode cX8_chooses 135 = .ok (.iload_n 3, 1) := by decide +kernel
theorem dX8_chooses_136 : decode cX8_chooses 136 = .ok (.iastore, 1) := by decide +kernel
theorem dX8_chooses_137 : decode cX8_chooses 137 = .ok (.aload_n 0, 1) := by decide +kernel
theorem dX8_chooses_138 : decode cX8_chooses 138 = .ok (.getfield 58, 3) := by decide +kernel
theorem dX8_chooses_141 : decode cX8_chooses 141 = .ok (.iload_n 2, 1) := by decide +kernel
theorem dX8_chooses_142 : decode cX8_chooses 142 = .ok (.iconst 4, 1) := by decide +kernel
theorem dX8_chooses_143 : decode cX8_chooses 143 = .ok (.iadd, 1) := by decide +kernel
theorem dX8_chooses_144 : decode cX8_chooses 144 = .ok (.aload_n 0, 1) := by decide +kernel
theorem dX8_chooses_145 : decode cX8_chooses 145 = .ok (.getfield 27, 3) := by decide +kernel
theorem dX8_chooses_148 : decode cX8_chooses 148 = .ok (.bipush 6, 2) := by decide +kernel
theorem dX8_chooses_150 : decode cX8_chooses 150 = .ok (.iload_n 3, 1) := by decide +kernel
theorem dX8_chooses_151 : decode cX8_chooses 151 = .ok (.imul, 1) := by decide +kernel
theorem dX8_chooses_152 : decode cX8_chooses 152 = .ok (.iconst 2, 1) := by decide +kernel
theorem dX8_chooses_153 : decode cX8_chooses 153 = .ok (.iadd, 1) := by decide +kernel
theorem dX8_chooses_154 : decode cX8_chooses 154 = .ok (.iaload, 1) := by decide +kernel
theorem dX8_chooses_155 : decode cX8_chooses 155 = .ok (.iastore, 1) := by decide +kernel
theorem dX8_chooses_156 : decode cX8_chooses 156 = .ok (.aload_n 0, 1) := by decide +kernel
theorem dX8_chooses_157 : decode cX8_chooses 157 = .ok (.getfield 58, 3) := by decide +kernel
theorem dX8_chooses_160 : decode cX8_chooses 160 = .ok (.iload_n 2, 1) := by decide +kernel
theorem dX8_chooses_161 : decode cX8_chooses 161 = .ok (.bipush 6, 2) := by decide +kernel
theorem dX8_chooses_163 : decode cX8_chooses 163 = .ok (.iadd, 1) := by decide +kernel
theorem dX8_chooses_164 : decode cX8_chooses 164 = .ok (.dup2, 1) := by decide +kernel
theorem dX8_chooses_165 : decode cX8_chooses 165 = .ok (.iaload, 1) := by decide +kernel
theorem dX8_chooses_166 : decode cX8_chooses 166 = .ok (.iconst 1, 1) := by decide +kernel
theorem dX8_chooses_167 : decode cX8_chooses 167 = .ok (.iadd, 1) := by decide +kernel
theorem dX8_chooses_168 : decode cX8_chooses 168 = .ok (.iastore, 1) := by decide +kernel
theorem dX8_chooses_169 : decode cX8_chooses 169 = .ok (.aload_n 0, 1) := by decide +kernel
theorem dX8_chooses_170 : decode cX8_chooses 170 = .ok (.iload_n 3, 1) := by decide +kernel
theorem dX8_chooses_171 : decode cX8_chooses 171 = .ok (.aload_n 0, 1) := by decide +kernel
theorem dX8_chooses_172 : decode cX8_chooses 172 = .ok (.getfield 58, 3) := by decide +kernel
theorem dX8_chooses_175 : decode cX8_chooses 175 = .ok (.iload_n 2, 1) := by decide +kernel
theorem dX8_chooses_176 : decode cX8_chooses 176 = .ok (.iaload, 1) := by decide +kernel
theorem dX8_chooses_177 : decode cX8_chooses 177 = .ok (.invokevirtual 283, 3) := by decide +kernel
theorem dX8_chooses_180 : decode cX8_chooses 180 = .ok (.return_, 1) := by decide +kernel
theorem dX8_chooses_181 : decode cX8_chooses 181 = .ok (.iconst 0, 1) := by decide +kernel
theorem dX8_chooses_182 : decode cX8_chooses 182 = .ok (.istore 4, 2) := by decide +kernel
theorem dX8_chooses_184 : decode cX8_chooses 184 = .ok (.iload 4, 2) := by decide +kernel
theorem dX8_chooses_186 : decode cX8_chooses 186 = .ok (.aload_n 0, 1) := by decide +kernel
theorem dX8_chooses_187 : decode cX8_chooses 187 = .ok (.getfield 113, 3) := by decide +kernel
theorem dX8_chooses_190 : decode cX8_chooses 190 = .ok (.if_icmp .ge 59, 3) := by decide +kernel
theorem dX8_chooses_193 : decode cX8_chooses 193 = .ok (.aload_n 0, 1) := by decide +kernel
theorem dX8_chooses_194 : decode cX8_chooses 194 = .ok (.iload 4, 2) := by decide +kernel
theorem dX8_chooses_196 : decode cX8_chooses 196 = .ok (.invokevirtual 261, 3) := by decide +kernel
theorem dX8_chooses_199 : decode cX8_chooses 199 = .ok (.ifCond .eq 44, 3) := by decide +kernel
theorem dX8_chooses_202 : decode cX8_chooses 202 = .ok (.aload_n 0, 1) := by decide +kernel
theorem dX8_chooses_203 : decode cX8_chooses 203 = .ok (.getfield 13, 3) := by decide +kernel
theorem dX8_chooses_206 : decode cX8_chooses 206 = .ok (.iconst 5, 1) := by decide +kernel
theorem dX8_chooses_207 : decode cX8_chooses 207 = .ok (.iload 4, 2) := by decide +kernel
theorem dX8_chooses_209 : decode cX8_chooses 209 = .ok (.imul, 1) := by decide +kernel
theorem dX8_chooses_210 : decode cX8_chooses 210 = .ok (.iaload, 1) := by decide +kernel
theorem dX8_chooses_211 : decode cX8_chooses 211 = .ok (.aload_n 0, 1) := by decide +kernel
theorem dX8_chooses_212 : decode cX8_chooses 212 = .ok (.getfield 58, 3) := by decide +kernel
theorem dX8_chooses_215 : decode cX8_chooses 215 = .ok (.iload_n 2, 1) := by decide +kernel
theorem dX8_chooses_216 : decode cX8_chooses 216 = .ok (.iconst 3, 1) := by decide +kernel
theorem dX8_chooses_217 : decode cX8_chooses 217 = .ok (.iadd, 1) := by decide +kernel
theorem dX8_chooses_218 : decode cX8_chooses 218 = .ok (.iaload, 1) := by decide +kernel
theorem dX8_chooses_219 : decode cX8_chooses 219 = .ok (.if_icmp .ne 24, 3) := by decide +kernel
theorem dX8_chooses_222 : decode cX8_chooses 222 = .ok (.iload_n 3, 1) := by decide +kernel
theorem dX8_chooses_223 : decode cX8_chooses 223 = .ok (.ifCond .lt 17, 3) := by decide +kernel
theorem dX8_chooses_226 : decode cX8_chooses 226 = .ok (.aload_n 0, 1) := by decide +kernel
theorem dX8_chooses_227 : decode cX8_chooses 227 = .ok (.iload 4, 2) := by decide +kernel
theorem dX8_chooses_229 : decode cX8_chooses 229 = .ok (.invokevirtual 286, 3) := by decide +kernel
theorem dX8_chooses_232 : decode cX8_chooses 232 = .ok (.aload_n 0, 1) := by decide +kernel
theorem dX8_chooses_233 : decode cX8_chooses 233 = .ok (.iload_n 3, 1) := by decide +kernel
theorem dX8_chooses_234 : decode cX8_chooses 234 = .ok (.invokevirtual 286, 3) := by decide +kernel
theorem dX8_chooses_237 : decode cX8_chooses 237 = .ok (.if_icmp .ge 6, 3) := by decide +kernel
theorem dX8_chooses_240 : decode cX8_chooses 240 = .ok (.iload 4, 2) := by decide +kernel
theorem dX8_chooses_242 : decode cX8_chooses 242 = .ok (.istore_n 3, 1) := by decide +kernel
theorem dX8_chooses_243 : decode cX8_chooses 243 = .ok (.iinc 4 1, 3) := by decide +kernel
theorem dX8_chooses_246 : decode cX8_chooses 246 = .ok (.goto (-62), 3) := by decide +kernel
theorem dX8_chooses_249 : decode cX8_chooses 249 = .ok (.iload_n 3, 1) := by decide +kernel
theorem dX8_chooses_250 : decode cX8_chooses 250 = .ok (.ifCond .ge 4, 3) := by decide +kernel
theorem dX8_chooses_253 : decode cX8_chooses 253 = .ok (.return_, 1) := by decide +kernel
theorem dX8_chooses_254 : decode cX8_chooses 254 = .ok (.aload_n 0, 1) := by decide +kernel
theorem dX8_chooses_255 : decode cX8_chooses 255 = .ok (.getfield 58, 3) := by decide +kernel
theorem dX8_chooses_258 : decode cX8_chooses 258 = .ok (.iload_n 2, 1) := by decide +kernel
theorem dX8_chooses_259 : decode cX8_chooses 259 = .ok (.iconst 2, 1) := by decide +kernel
theorem dX8_chooses_260 : decode cX8_chooses 260 = .ok (.iadd, 1) := by decide +kernel
theorem dX8_chooses_261 : decode cX8_chooses 261 = .ok (.iconst 1, 1) := by decide +kernel
theorem dX8_chooses_262 : decode cX8_chooses 262 = .ok (.iastore, 1) := by decide +kernel
theorem dX8_chooses_263 : decode cX8_chooses 263 = .ok (.aload_n 0, 1) := by decide +kernel
theorem dX8_chooses_264 : decode cX8_chooses 264 = .ok (.getfield 58, 3) := by decide +kernel
theorem dX8_chooses_267 : decode cX8_chooses 267 = .ok (.iload_n 2, 1) := by decide +kernel
theorem dX8_chooses_268 : decode cX8_chooses 268 = .ok (.iconst 3, 1) := by decide +kernel
theorem dX8_chooses_269 : decode cX8_chooses 269 = .ok (.iadd, 1) := by decide +kernel
theorem dX8_chooses_270 : decode cX8_chooses 270 = .ok (.iload_n 3, 1) := by decide +kernel
theorem dX8_chooses_271 : decode cX8_chooses 271 = .ok (.iastore, 1) := by decide +kernel
theorem dX8_chooses_272 : decode cX8_chooses 272 = .ok (.aload_n 0, 1) := by decide +kernel
theorem dX8_chooses_273 : decode cX8_chooses 273 = .ok (.getfield 21, 3) := by decide +kernel
theorem dX8_chooses_276 : decode cX8_chooses 276 = .ok (.bipush 60, 2) := by decide +kernel
theorem dX8_chooses_278 : decode cX8_chooses 278 = .ok (.iload_n 3, 1) := by decide +kernel
theorem dX8_chooses_279 : decode cX8_chooses 279 = .ok (.imul, 1) := by decide +kernel
theorem dX8_chooses_280 : decode cX8_chooses 280 = .ok (.aload_n 0, 1) := by decide +kernel
theorem dX8_chooses_281 : decode cX8_chooses 281 = .ok (.getfield 24, 3) := by decide +kernel
theorem dX8_chooses_284 : decode cX8_chooses 284 = .ok (.iload_n 3, 1) := by decide +kernel
theorem dX8_chooses_285 : decode cX8_chooses 285 = .ok (.iaload, 1) := by decide +kernel
theorem dX8_chooses_286 : decode cX8_chooses 286 = .ok (.iadd, 1) := by decide +kernel
theorem dX8_chooses_287 : decode cX8_chooses 287 = .ok (.iload_n 1, 1) := by decide +kernel
theorem dX8_chooses_288 : decode cX8_chooses 288 = .ok (.iastore, 1) := by decide +kernel
theorem dX8_chooses_289 : decode cX8_chooses 289 = .ok (.aload_n 0, 1) := by decide +kernel
theorem dX8_chooses_290 : decode cX8_chooses 290 = .ok (.getfield 24, 3) := by decide +kernel
theorem dX8_chooses_293 : decode cX8_chooses 293 = .ok (.iload_n 3, 1) := by decide +kernel
theorem dX8_chooses_294 : decode cX8_chooses 294 = .ok (.dup2, 1) := by decide +kernel
theorem dX8_chooses_295 : decode cX8_chooses 295 = .ok (.iaload, 1) := by decide +kernel
theorem dX8_chooses_296 : decode cX8_chooses 296 = .ok (.iconst 1, 1) := by decide +kernel
theorem dX8_chooses_297 : decode cX8_chooses 297 = .ok (.iadd, 1) := by decide +kernel
theorem dX8_chooses_298 : decode cX8_chooses 298 = .ok (.iastore, 1) := by decide +kernel
theorem dX8_chooses_299 : decode cX8_chooses 299 = .ok (.return_, 1) := by decide +kernel
theorem dX8_boards_0 : decode cX8_boards 0 = .ok (.aload_n 0, 1) := by decide +kernel
theorem dX8_boards_1 : decode cX8_boards 1 = .ok (.getfield 13, 3) := by decide +kernel
theorem dX8_boards_4 : decode cX8_boards 4 = .ok (.iconst 5, 1) := by decide +kernel
theorem dX8_boards_5 : decode cX8_boards 5 = .ok (.iload_n 1, 1) := by decide +kernel
theorem dX8_boards_6 : decode cX8_boards 6 = .ok (.imul, 1) := by decide +kernel
theorem dX8_boards_7 : decode cX8_boards 7 = .ok (.iconst 2, 1) := by decide +kernel
theorem dX8_boards_8 : decode cX8_boards 8 = .ok (.iadd, 1) := by decide +kernel
theorem dX8_boards_9 : decode cX8_boards 9 = .ok (.iaload, 1) := by decide +kernel
theorem dX8_boards_10 : decode cX8_boards 10 = .ok (.istore_n 2, 1) := by decide +kernel
theorem dX8_boards_11 : decode cX8_boards 11 = .ok (.iconst 0, 1) := by decide +kernel
theorem dX8_boards_12 : decode cX8_boards 12 = .ok (.istore_n 3, 1) := by decide +kernel
theorem dX8_boards_13 : decode cX8_boards 13 = .ok (.iload_n 3, 1) := by decide +kernel
theorem dX8_boards_14 : decode cX8_boards 14 = .ok (.aload_n 0, 1) := by decide +kernel
theorem dX8_boards_15 : decode cX8_boards 15 = .ok (.getfield 24, 3) := by decide +kernel
theorem dX8_boards_18 : decode cX8_boards 18 = .ok (.iload_n 1, 1) := by decide +kernel
theorem dX8_boards_19 : decode cX8_boards 19 = .ok (.iaload, 1) := by decide +kernel
theorem dX8_boards_20 : decode cX8_boards 20 = .ok (.if_icmp .ge 100, 3) := by decide +kernel
theorem dX8_boards_23 : decode cX8_boards 23 = .ok (.aload_n 0, 1) := by decide +kernel
theorem dX8_boards_24 : decode cX8_boards 24 = .ok (.getfield 58, 3) := by decide +kernel
theorem dX8_boards_27 : decode cX8_boards 27 = .ok (.bipush 7, 2) := by decide +kernel
theorem dX8_boards_29 : decode cX8_boards 29 = .ok (.aload_n 0, 1) := by decide +kernel
theorem dX8_boards_30 : decode cX8_boards 30 = .ok (.getfield 21, 3) := by decide +kernel
theorem dX8_boards_33 : decode cX8_boards 33 = .ok (.bipush 60, 2) := by decide +kernel
theorem dX8_boards_35 : decode cX8_boards 35 = .ok (.iload_n 1, 1) := by decide +kernel
theorem dX8_boards_36 : decode cX8_boards 36 = .ok (.imul, 1) := by decide +kernel
theorem dX8_boards_37 : decode cX8_boards 37 = .ok (.iload_n 3, 1) := by decide +kernel
theorem dX8_boards_38 : decode cX8_boards 38 = .ok (.iadd, 1) := by decide +kernel
theorem dX8_boards_39 : decode cX8_boards 39 = .ok (.iaload, 1) := by decide +kernel
theorem dX8_boards_40 : decode cX8_boards 40 = .ok (.imul, 1) := by decide +kernel
theorem dX8_boards_41 : decode cX8_boards 41 = .ok (.iaload, 1) := by decide +kernel
theorem dX8_boards_42 : decode cX8_boards 42 = .ok (.iload_n 2, 1) := by decide +kernel
theorem dX8_boards_43 : decode cX8_boards 43 = .ok (.if_icmp .gt 77, 3) := by decide +kernel
theorem dX8_boards_46 : decode cX8_boards 46 = .ok (.bipush 7, 2) := by decide +kernel
theorem dX8_boards_48 : decode cX8_boards 48 = .ok (.aload_n 0, 1) := by decide +kernel
theorem dX8_boards_49 : decode cX8_boards 49 = .ok (.getfield 21, 3) := by decide +kernel
theorem dX8_boards_52 : decode cX8_boards 52 = .ok (.bipush 60, 2) := by decide +kernel
theorem dX8_boards_54 : decode cX8_boards 54 = .ok (.iload_n 1, 1) := by decide +kernel
theorem dX8_boards_55 : decode cX8_boards 55 = .ok (.imul, 1) := by decide +kernel
theorem dX8_boards_56 : decode cX8_boards 56 = .ok (.iload_n 3, 1) := by decide +kernel
theorem dX8_boards_57 : decode cX8_boards 57 = .ok (.iadd, 1) := by decide +kernel
theorem dX8_boards_58 : decode cX8_boards 58 = .ok (.iaload, 1) := by decide +kernel
theorem dX8_boards_59 : decode cX8_boards 59 = .ok (.imul, 1) := by decide +kernel
theorem dX8_boards_60 : decode cX8_boards 60 = .ok (.istore 4, 2) := by decide +kernel
theorem dX8_boards_62 : decode cX8_boards 62 = .ok (.iload_n 2, 1) := by decide +kernel
theorem dX8_boards_63 : decode cX8_boards 63 = .ok (.aload_n 0, 1) := by decide +kernel
theorem dX8_boards_64 : decode cX8_boards 64 = .ok (.getfield 58, 3) := by decide +kernel
theorem dX8_boards_67 : decode cX8_boards 67 = .ok (.iload 4, 2) := by decide +kernel
theorem dX8_boards_69 : decode cX8_boards 69 = .ok (.iaload, 1) := by decide +kernel
theorem dX8_boards_70 : decode cX8_boards 70 = .ok (.isub, 1) := by decide +kernel
theorem dX8_boards_71 : decode cX8_boards 71 = .ok (.istore_n 2, 1) := by decide +kernel
theorem dX8_boards_72 : decode cX8_boards 72 = .ok (.aload_n 0, 1) := by decide +kernel
theorem dX8_boards_73 : decode cX8_boards 73 = .ok (.getfield 58, 3) := by decide +kernel
theorem dX8_boards_76 : decode cX8_boards 76 = .ok (.iload 4, 2) := by decide +kernel
theorem dX8_boards_78 : decode cX8_boards 78 = .ok (.iconst 2, 1) := by decide +kernel
theorem dX8_boards_79 : decode cX8_boards 79 = .ok (.iadd, 1) := by decide +kernel
theorem dX8_boards_80 : decode cX8_boards 80 = .ok (.iconst 2, 1) := by decide +kernel
theorem dX8_boards_81 : decode cX8_boards 81 = .ok (.iastore, 1) := by decide +kernel
theorem dX8_boards_82 : decode cX8_boards 82 = .ok (.aload_n 0, 1) := by decide +kernel
theorem dX8_boards_83 : decode cX8_boards 83 = .ok (.getfield 58, 3) := by decide +kernel
theorem dX8_boards_86 : decode cX8_boards 86 = .ok (.iload 4, 2) := by decide +kernel
theorem dX8_boards_88 : decode cX8_boards 88 = .ok (.iconst 4, 1) := by decide +kernel
theorem dX8_boards_89 : decode cX8_boards 89 = .ok (.iadd, 1) := by decide +kernel
theorem dX8_boards_90 : decode cX8_boards 90 = .ok (.aload_n 0, 1) := by decide +kernel
theorem dX8_boards_91 : decode cX8_boards 91 = .ok (.getfield 13, 3) := by decide +kernel
theorem dX8_boards_94 : decode cX8_boards 94 = .ok (.iconst 5, 1) := by decide +kernel
theorem dX8_boards_95 : decode cX8_boards 95 = .ok (.iload_n 1, 1) := by decide +kernel
theorem dX8_boards_96 : decode cX8_boards 96 = .ok (.imul, 1) := by decide +kernel
theorem dX8_boards_97 : decode cX8_boards 97 = .ok (.iconst 3, 1) := by decide +kernel
theorem dX8_boards_98 : decode cX8_boards 98 = .ok (.iadd, 1) := by decide +kernel
theorem dX8_boards_99 : decode cX8_boards 99 = .ok (.iaload, 1) := by decide +kernel
theorem dX8_boards_100 : decode cX8_boards 100 = .ok (.iastore, 1) := by decide +kernel
theorem dX8_boards_101 : decode cX8_boards 101 = .ok (.aload_n 0, 1) := by decide +kernel
theorem dX8_boards_102 : decode cX8_boards 102 = .ok (.getfield 58, 3) := by decide +kernel
theorem dX8_boards_105 : decode cX8_boards 105 = .ok (.iload 4, 2) := by decide +kernel
theorem dX8_boards_107 : decode cX8_boards 107 = .ok (.iconst 5, 1) := by decide +kernel
theorem dX8_boards_108 : decode cX8_boards 108 = .ok (.iadd, 1) := by decide +kernel
theorem dX8_boards_109 : decode cX8_boards 109 = .ok (.dup2, 1) := by decide +kernel
theorem dX8_boards_110 : decode cX8_boards 110 = .ok (.iaload, 1) := by decide +kernel
theorem dX8_boards_111 : decode cX8_boards 111 = .ok (.iconst 1, 1) := by decide +kernel
theorem dX8_boards_112 : decode cX8_boards 112 = .ok (.iadd, 1) := by decide +kernel
theorem dX8_boards_113 : decode cX8_boards 113 = .ok (.iastore, 1) := by decide +kernel
theorem dX8_boards_114 : decode cX8_boards 114 = .ok (.iinc 3 1, 3) := by decide +kernel
theorem dX8_boards_117 : decode cX8_boards 117 = .ok (.goto (-104), 3) := by decide +kernel
theorem dX8_boards_120 : decode cX8_boards 120 = .ok (.aload_n 0, 1) := by decide +kernel
theorem dX8_boards_121 : decode cX8_boards 121 = .ok (.getfield 24, 3) := by decide +kernel
theorem dX8_boards_124 : decode cX8_boards 124 = .ok (.iload_n 1, 1) := by decide +kernel
theorem dX8_boards_125 : decode cX8_boards 125 = .ok (.dup2, 1) := by decide +kernel
theorem dX8_boards_126 : decode cX8_boards 126 = .ok (.iaload, 1) := by decide +kernel
theorem dX8_boards_127 : decode cX8_boards 127 = .ok (.iload_n 3, 1) := by decide +kernel
theorem dX8_boards_128 : decode cX8_boards 128 = .ok (.isub, 1) := by decide +kernel
theorem dX8_boards_129 : decode cX8_boards 129 = .ok (.iastore, 1) := by decide +kernel
theorem dX8_boards_130 : decode cX8_boards 130 = .ok (.iconst 0, 1) := by decide +kernel
theorem dX8_boards_131 : decode cX8_boards 131 = .ok (.istore 4, 2) := by decide +kernel
theorem dX8_boards_133 : decode cX8_boards 133 = .ok (.iload 4, 2) := by decide +kernel
theorem dX8_boards_135 : decode cX8_boards 135 = .ok (.aload_n 0, 1) := by decide +kernel
theorem dX8_boards_136 : decode cX8_boards 136 = .ok (.getfield 24, 3) := by decide +kernel
theorem dX8_boards_139 : decode cX8_boards 139 = .ok (.iload_n 1, 1) := by decide +kernel
theorem dX8_boards_140 : decode cX8_boards 140 = .ok (.iaload, 1) := by decide +kernel
theorem dX8_boards_141 : decode cX8_boards 141 = .ok (.if_icmp .ge 35, 3) := by decide +kernel
theorem dX8_boards_144 : decode cX8_boards 144 = .ok (.aload_n 0, 1) := by decide +kernel
theorem dX8_boards_145 : decode cX8_boards 145 = .ok (.getfield 21, 3) := by decide +kernel
theorem dX8_boards_148 : decode cX8_boards 148 = .ok (.bipush 60, 2) := by decide +kernel
theorem dX8_boards_150 : decode cX8_boards 150 = .ok (.iload_n 1, 1) := by decide +kernel
theorem dX8_boards_151 : decode cX8_boards 151 = .ok (.imul, 1) := by decide +kernel
theorem dX8_boards_152 : decode cX8_boards 152 = .ok (.iload 4, 2) := by decide +kernel
theorem dX8_boards_154 : decode cX8_boards 154 = .ok (.iadd, 1) := by decide +kernel
theorem dX8_boards_155 : decode cX8_boards 155 = .ok (.aload_n 0, 1) := by decide +kernel
theorem dX8_boards_156 : decode cX8_boards 156 = .ok (.getfield 21, 3) := by decide +kernel
theorem dX8_boards_159 : decode cX8_boards 159 = .ok (.bipush 60, 2) := by decide +kernel
theorem dX8_boards_161 : decode cX8_boards 161 = .ok (.iload_n 1, 1) := by decide +kernel
theorem dX8_boards_162 : decode cX8_boards 162 = .ok (.imul, 1) := by decide +kernel
theorem dX8_boards_163 : decode cX8_boards 163 = .ok (.iload 4, 2) := by decide +kernel
theorem dX8_boards_165 : decode cX8_boards 165 = .ok (.iadd, 1) := by decide +kernel
theorem dX8_boards_166 : decode cX8_boards 166 = .ok (.iload_n 3, 1) := by decide +kernel
theorem dX8_boards_167 : decode cX8_boards 167 = .ok (.iadd, 1) := by decide +kernel
theorem dX8_boards_168 : decode cX8_boards 168 = .ok (.iaload, 1) := by decide +kernel
theorem dX8_boards_169 : decode cX8_boards 169 = .ok (.iastore, 1) := by decide +kernel
theorem dX8_boards_170 : decode cX8_boards 170 = .ok (.iinc 4 1, 3) := by decide +kernel
theorem dX8_boards_173 : decode cX8_boards 173 = .ok (.goto (-40), 3) := by decide +kernel
theorem dX8_boards_176 : decode cX8_boards 176 = .ok (.return_, 1) := by decide +kernel
theorem dX8_passes_0 : decode cX8_passes 0 = .ok (.aload_n 0, 1) := by decide +kernel
theorem dX8_passes_1 : decode cX8_passes 1 = .ok (.invokevirtual 278, 3) := by decide +kernel
theorem dX8_passes_4 : decode cX8_passes 4 = .ok (.iconst 0, 1) := by decide +kernel
theorem dX8_passes_5 : decode cX8_passes 5 = .ok (.istore_n 1, 1) := by decide +kernel
theorem dX8_passes_6 : decode cX8_passes 6 = .ok (.iload_n 1, 1) := by decide +kernel
theorem dX8_passes_7 : decode cX8_passes 7 = .ok (.aload_n 0, 1) := by decide +kernel
theorem dX8_passes_8 : decode cX8_passes 8 = .ok (.getfield 126, 3) := by decide +kernel
theorem dX8_passes_11 : decode cX8_passes 11 = .ok (.if_icmp .ge 134, 3) := by decide +kernel
theorem dX8_passes_14 : decode cX8_passes 14 = .ok (.bipush 7, 2) := by decide +kernel
theorem dX8_passes_16 : decode cX8_passes 16 = .ok (.iload_n 1, 1) := by decide +kernel
theorem dX8_passes_17 : decode cX8_passes 17 = .ok (.imul, 1) := by decide +kernel
theorem dX8_passes_18 : decode cX8_passes 18 = .ok (.istore_n 2, 1) := by decide +kernel
theorem dX8_passes_19 : decode cX8_passes 19 = .ok (.aload_n 0, 1) := by decide +kernel
theorem dX8_passes_20 : decode cX8_passes 20 = .ok (.getfield 58, 3) := by decide +kernel
theorem dX8_passes_23 : decode cX8_passes 23 = .ok (.iload_n 2, 1) := by decide +kernel
theorem dX8_passes_24 : decode cX8_passes 24 = .ok (.iconst 2, 1) := by decide +kernel
theorem dX8_passes_25 : decode cX8_passes 25 = .ok (.iadd, 1) := by decide +kernel
theorem dX8_passes_26 : decode cX8_passes 26 = .ok (.iaload, 1) := by decide +kernel
theorem dX8_passes_27 : decode cX8_passes 27 = .ok (.iconst 2, 1) := by decide +kernel
theorem dX8_passes_28 : decode cX8_passes 28 = .ok (.if_icmp .eq 18, 3) := by decide +kernel
theorem dX8_passes_31 : decode cX8_passes 31 = .ok (.aload_n 0, 1) := by decide +kernel
theorem dX8_passes_32 : decode cX8_passes 32 = .ok (.getfield 58, 3) := by decide +kernel
theorem dX8_passes_35 : decode cX8_passes 35 = .ok (.iload_n 2, 1) := by decide +kernel
theorem dX8_passes_36 : decode cX8_passes 36 = .ok (.iconst 2, 1) := by decide +kernel
theorem dX8_passes_37 : decode cX8_passes 37 = .ok (.iadd, 1) := by decide +kernel
theorem dX8_passes_38 : decode cX8_passes 38 = .ok (.iaload, 1) := by decide +kernel
theorem dX8_passes_39 : decode cX8_passes 39 = .ok (.iconst 3, 1) := by decide +kernel
theorem dX8_passes_40 : decode cX8_passes 40 = .ok (.if_icmp .eq 6, 3) := by decide +kernel
theorem dX8_passes_43 : decode cX8_passes 43 = .ok (.goto 96, 3) := by decide +kernel
theorem dX8_passes_46 : decode cX8_passes 46 = .ok (.aload_n 0, 1) := by decide +kernel
theorem dX8_passes_47 : decode cX8_passes 47 = .ok (.getfield 58, 3) := by decide +kernel
theorem dX8_passes_50 : decode cX8_passes 50 = .ok (.iload_n 2, 1) := by decide +kernel
theorem dX8_passes_51 : decode cX8_passes 51 = .ok (.iconst 4, 1) := by decide +kernel
theorem dX8_passes_52 : decode cX8_passes 52 = .ok (.iadd, 1) := by decide +kernel
theorem dX8_passes_53 : decode cX8_passes 53 = .ok (.dup2, 1) := by decide +kernel
theorem dX8_passes_54 : decode cX8_passes 54 = .ok (.iaload, 1) := by decide +kernel
theorem dX8_passes_55 : decode cX8_passes 55 = .ok (.iconst 1, 1) := by decide +kernel
theorem dX8_passes_56 : decode cX8_passes 56 = .ok (.isub, 1) := by decide +kernel
theorem dX8_passes_57 : decode cX8_passes 57 = .ok (.iastore, 1) := by decide +kernel
theorem dX8_passes_58 : decode cX8_passes 58 = .ok (.aload_n 0, 1) := by decide +kernel
theorem dX8_passes_59 : decode cX8_passes 59 = .ok (.getfield 58, 3) := by decide +kernel
theorem dX8_passes_62 : decode cX8_passes 62 = .ok (.iload_n 2, 1) := by decide +kernel
theorem dX8_passes_63 : decode cX8_passes 63 = .ok (.iconst 4, 1) := by decide +kernel
theorem dX8_passes_64 : decode cX8_passes 64 = .ok (.iadd, 1) := by decide +kernel
theorem dX8_passes_65 : decode cX8_passes 65 = .ok (.iaload, 1) := by decide +kernel
theorem dX8_passes_66 : decode cX8_passes 66 = .ok (.ifCond .le 6, 3) := by decide +kernel
theorem dX8_passes_69 : decode cX8_passes 69 = .ok (.goto 70, 3) := by decide +kernel
theorem dX8_passes_72 : decode cX8_passes 72 = .ok (.aload_n 0, 1) := by decide +kernel
theorem dX8_passes_73 : decode cX8_passes 73 = .ok (.getfield 58, 3) := by decide +kernel
theorem dX8_passes_76 : decode cX8_passes 76 = .ok (.iload_n 2, 1) := by decide +kernel
theorem dX8_passes_77 : decode cX8_passes 77 = .ok (.iconst 3, 1) := by decide +kernel
theorem dX8_passes_78 : decode cX8_passes 78 = .ok (.iadd, 1) := by decide +kernel
theorem dX8_passes_79 : decode cX8_passes 79 = .ok (.aload_n 0, 1) := by decide +kernel
theorem dX8_passes_80 : decode cX8_passes 80 = .ok (.getfield 58, 3) := by decide +kernel
theorem dX8_passes_83 : decode cX8_passes 83 = .ok (.iload_n 2, 1) := by decide +kernel
theorem dX8_passes_84 : decode cX8_passes 84 = .ok (.iconst 2, 1) := by decide +kernel
theorem dX8_passes_85 : decode cX8_passes 85 = .ok (.iadd, 1) := by decide +kernel
theorem dX8_passes_86 : decode cX8_passes 86 = .ok (.iaload, 1) := by decide +kernel
theorem dX8_passes_87 : decode cX8_passes 87 = .ok (.iconst 2, 1) := by decide +kernel
theorem dX8_passes_88 : decode cX8_passes 88 = .ok (.if_icmp .ne 23, 3) := by decide +kernel
theorem dX8_passes_91 : decode cX8_passes 91 = .ok (.aload_n 0, 1) := by decide +kernel
theorem dX8_passes_92 : decode cX8_passes 92 = .ok (.getfield 13, 3) := by decide +kernel
theorem dX8_passes_95 : decode cX8_passes 95 = .ok (.iconst 5, 1) := by decide +kernel
theorem dX8_passes_96 : decode cX8_passes 96 = .ok (.aload_n 0, 1) := by decide +kernel
theorem dX8_passes_97 : decode cX8_passes 97 = .ok (.getfield 58, 3) := by decide +kernel
theorem dX8_passes_100 : decode cX8_passes 100 = .ok (.iload_n 2, 1) := by decide +kernel
theorem dX8_passes_101 : decode cX8_passes 101 = .ok (.iconst 3, 1) := by decide +kernel
theorem dX8_passes_102 : decode cX8_passes 102 = .ok (.iadd, 1) := by decide +kernel
theorem dX8_passes_103 : decode cX8_passes 103 = .ok (.iaload, 1) := by decide +kernel
theorem dX8_passes_104 : decode cX8_passes 104 = .ok (.imul, 1) := by decide +kernel
theorem dX8_passes_105 : decode cX8_passes 105 = .ok (.iconst 1, 1) := by decide +kernel
theorem dX8_passes_106 : decode cX8_passes 106 = .ok (.iadd, 1) := by decide +kernel
theorem dX8_passes_107 : decode cX8_passes 107 = .ok (.iaload, 1) := by decide +kernel
theorem dX8_passes_108 : decode cX8_passes 108 = .ok (.goto 21, 3) := by decide +kernel
theorem dX8_passes_111 : decode cX8_passes 111 = .ok (.aload_n 0, 1) := by decide +kernel
theorem dX8_passes_112 : decode cX8_passes 112 = .ok (.getfield 27, 3) := by decide +kernel
theorem dX8_passes_115 : decode cX8_passes 115 = .ok (.bipush 6, 2) := by decide +kernel
theorem dX8_passes_117 : decode cX8_passes 117 = .ok (.aload_n 0, 1) := by decide +kernel
theorem dX8_passes_118 : decode cX8_passes 118 = .ok (.getfield 58, 3) := by decide +kernel
theorem dX8_passes_121 : decode cX8_passes 121 = .ok (.iload_n 2, 1) := by decide +kernel
theorem dX8_passes_122 : decode cX8_passes 122 = .ok (.iconst 3, 1) := by decide +kernel
theorem dX8_passes_123 : decode cX8_passes 123 = .ok (.iadd, 1) := by decide +kernel
theorem dX8_passes_124 : decode cX8_passes 124 = .ok (.iaload, 1) := by decide +kernel
theorem dX8_passes_125 : decode cX8_passes 125 = .ok (.imul, 1) := by decide +kernel
theorem dX8_passes_126 : decode cX8_passes 126 = .ok (.iconst 1, 1) := by decide +kernel
theorem dX8_passes_127 : decode cX8_passes 127 = .ok (.iadd, 1) := by decide +kernel
theorem dX8_passes_128 : decode cX8_passes 128 = .ok (.iaload, 1) := by decide +kernel
theorem dX8_passes_129 : decode cX8_passes 129 = .ok (.iastore, 1) := by decide +kernel
theorem dX8_passes_130 : decode cX8_passes 130 = .ok (.aload_n 0, 1) := by decide +kernel
theorem dX8_passes_131 : decode cX8_passes 131 = .ok (.getfield 58, 3) := by decide +kernel
theorem dX8_passes_134 : decode cX8_passes 134 = .ok (.iload_n 2, 1) := by decide +kernel
theorem dX8_passes_135 : decode cX8_passes 135 = .ok (.iconst 2, 1) := by decide +kernel
theorem dX8_passes_136 : decode cX8_passes 136 = .ok (.iadd, 1) := by decide +kernel
theorem dX8_passes_137 : decode cX8_passes 137 = .ok (.iconst 0, 1) := by decide +kernel
theorem dX8_passes_138 : decode cX8_passes 138 = .ok (.iastore, 1) := by decide +kernel
theorem dX8_passes_139 : decode cX8_passes 139 = .ok (.iinc 1 1, 3) := by decide +kernel
theorem dX8_passes_142 : decode cX8_passes 142 = .ok (.goto (-136), 3) := by decide +kernel
theorem dX8_passes_145 : decode cX8_passes 145 = .ok (.iconst 0, 1) := by decide +kernel
theorem dX8_passes_146 : decode cX8_passes 146 = .ok (.istore_n 1, 1) := by decide +kernel
theorem dX8_passes_147 : decode cX8_passes 147 = .ok (.iload_n 1, 1) := by decide +kernel
theorem dX8_passes_148 : decode cX8_passes 148 = .ok (.aload_n 0, 1) := by decide +kernel
theorem dX8_passes_149 : decode cX8_passes 149 = .ok (.getfield 126, 3) := by decide +kernel
theorem dX8_passes_152 : decode cX8_passes 152 = .ok (.if_icmp .ge 28, 3) := by decide +kernel
theorem dX8_passes_155 : decode cX8_passes 155 = .ok (.aload_n 0, 1) := by decide +kernel
theorem dX8_passes_156 : decode cX8_passes 156 = .ok (.getfield 58, 3) := by decide +kernel
theorem dX8_passes_159 : decode cX8_passes 159 = .ok (.bipush 7, 2) := by decide +kernel
theorem dX8_passes_161 : decode cX8_passes 161 = .ok (.iload_n 1, 1) := by decide +kernel
theorem dX8_passes_162 : decode cX8_passes 162 = .ok (.imul, 1) := by decide +kernel
theorem dX8_passes_163 : decode cX8_passes 163 = .ok (.iconst 2, 1) := by decide +kernel
theorem dX8_passes_164 : decode cX8_passes 164 = .ok (.iadd, 1) := by decide +kernel
theorem dX8_passes_165 : decode cX8_passes 165 = .ok (.iaload, 1) := by decide +kernel
theorem dX8_passes_166 : decode cX8_passes 166 = .ok (.ifCond .ne 8, 3) := by decide +kernel
theorem dX8_passes_169 : decode cX8_passes 169 = .ok (.aload_n 0, 1) := by decide +kernel
theorem dX8_passes_170 : decode cX8_passes 170 = .ok (.iload_n 1, 1) := by decide +kernel
theorem dX8_passes_171 : decode cX8_passes 171 = .ok (.invokevirtual 289, 3) := by decide +kernel
theorem dX8_passes_174 : decode cX8_passes 174 = .ok (.iinc 1 1, 3) := by decide +kernel
theorem dX8_passes_177 : decode cX8_passes 177 = .ok (.goto (-30), 3) := by decide +kernel
theorem dX8_passes_180 : decode cX8_passes 180 = .ok (.iconst 0, 1) := by decide +kernel
theorem dX8_passes_181 : decode cX8_passes 181 = .ok (.istore_n 1, 1) := by decide +kernel
theorem dX8_passes_182 : decode cX8_passes 182 = .ok (.iload_n 1, 1) := by decide +kernel
theorem dX8_passes_183 : decode cX8_passes 183 = .ok (.aload_n 0, 1) := by decide +kernel
theorem dX8_passes_184 : decode cX8_passes 184 = .ok (.getfield 113, 3) := by decide +kernel
theorem dX8_passes_187 : decode cX8_passes 187 = .ok (.if_icmp .ge 22, 3) := by decide +kernel
theorem dX8_passes_190 : decode cX8_passes 190 = .ok (.aload_n 0, 1) := by decide +kernel
theorem dX8_passes_191 : decode cX8_passes 191 = .ok (.iload_n 1, 1) := by decide +kernel
theorem dX8_passes_192 : decode cX8_passes 192 = .ok (.invokevirtual 261, 3) := by decide +kernel
theorem dX8_passes_195 : decode cX8_passes 195 = .ok (.ifCond .eq 8, 3) := by decide +kernel
theorem dX8_passes_198 : decode cX8_passes 198 = .ok (.aload_n 0, 1) := by decide +kernel
theorem dX8_passes_199 : decode cX8_passes 199 = .ok (.iload_n 1, 1) := by decide +kernel
theorem dX8_passes_200 : decode cX8_passes 200 = .ok (.invokevirtual 292, 3) := by decide +kernel
theorem dX8_passes_203 : decode cX8_passes 203 = .ok (.iinc 1 1, 3) := by decide +kernel
theorem dX8_passes_206 : decode cX8_passes 206 = .ok (.goto (-24), 3) := by decide +kernel
theorem dX8_passes_209 : decode cX8_passes 209 = .ok (.aload_n 0, 1) := by decide +kernel
theorem dX8_passes_210 : decode cX8_passes 210 = .ok (.dup, 1) := by decide +kernel
theorem dX8_passes_211 : decode cX8_passes 211 = .ok (.getfield 255, 3) := by decide +kernel
theorem dX8_passes_214 : decode cX8_passes 214 = .ok (.iconst 1, 1) := by decide +kernel
theorem dX8_passes_215 : decode cX8_passes 215 = .ok (.iadd, 1) := by decide +kernel
theorem dX8_passes_216 : decode cX8_passes 216 = .ok (.putfield 255, 3) := by decide +kernel
theorem dX8_passes_219 : decode cX8_passes 219 = .ok (.return_, 1) := by decide +kernel
theorem dX8_step_0 : decode cX8_step 0 = .ok (.aload_n 0, 1) := by decide +kernel
theorem dX8_step_1 : decode cX8_step 1 = .ok (.iconst 0, 1) := by decide +kernel
theorem dX8_step_2 : decode cX8_step 2 = .ok (.putfield 110, 3) := by decide +kernel
theorem dX8_step_5 : decode cX8_step 5 = .ok (.aload_n 0, 1) := by decide +kernel
theorem dX8_step_6 : decode cX8_step 6 = .ok (.iload_n 1, 1) := by decide +kernel
theorem dX8_step_7 : decode cX8_step 7 = .ok (.i2l, 1) := by decide +kernel
theorem dX8_step_8 : decode cX8_step 8 = .ok (.lconst 0, 1) := by decide +kernel
theorem dX8_step_9 : decode cX8_step 9 = .ok (.ldc2_w 295, 3) := by decide +kernel
theorem dX8_step_12 : decode cX8_step 12 = .ok (.invokestatic 116, 3) := by decide +kernel
theorem dX8_step_15 : decode cX8_step 15 = .ok (.ifCond .ne 7, 3) := by decide +kernel
theorem dX8_step_18 : decode cX8_step 18 = .ok (.iconst 1, 1) := by decide +kernel
theorem dX8_step_19 : decode cX8_step 19 = .ok (.goto 4, 3) := by decide +kernel
theorem dX8_step_22 : decode cX8_step 22 = .ok (.iconst 0, 1) := by decide +kernel
theorem dX8_step_23 : decode cX8_step 23 = .ok (.iconst 1, 1) := by decide +kernel
theorem dX8_step_24 : decode cX8_step 24 = .ok (.invokevirtual 138, 3) := by decide +kernel
theorem dX8_step_27 : decode cX8_step 27 = .ok (.ifCond .eq 5, 3) := by decide +kernel
theorem dX8_step_30 : decode cX8_step 30 = .ok (.iconst 0, 1) := by decide +kernel
theorem dX8_step_31 : decode cX8_step 31 = .ok (.ireturn, 1) := by decide +kernel
theorem dX8_step_32 : decode cX8_step 32 = .ok (.iconst 0, 1) := by decide +kernel
theorem dX8_step_33 : decode cX8_step 33 = .ok (.istore_n 2, 1) := by decide +kernel
theorem dX8_step_34 : decode cX8_step 34 = .ok (.iload_n 2, 1) := by decide +kernel
theorem dX8_step_35 : decode cX8_step 35 = .ok (.iload_n 1, 1) := by decide +kernel
theorem dX8_step_36 : decode cX8_step 36 = .ok (.if_icmp .ge 13, 3) := by decide +kernel
theorem dX8_step_39 : decode cX8_step 39 = .ok (.aload_n 0, 1) := by decide +kernel
theorem dX8_step_40 : decode cX8_step 40 = .ok (.invokevirtual 297, 3) := by decide +kernel
theorem dX8_step_43 : decode cX8_step 43 = .ok (.iinc 2 1, 3) := by decide +kernel
theorem dX8_step_46 : decode cX8_step 46 = .ok (.goto (-12), 3) := by decide +kernel
theorem dX8_step_49 : decode cX8_step 49 = .ok (.aload_n 0, 1) := by decide +kernel
theorem dX8_step_50 : decode cX8_step 50 = .ok (.getfield 255, 3) := by decide +kernel
theorem dX8_step_53 : decode cX8_step 53 = .ok (.ireturn, 1) := by decide +kernel
theorem dX8_look_0 : decode cX8_look 0 = .ok (.aload_n 0, 1) := by decide +kernel
theorem dX8_look_1 : decode cX8_look 1 = .ok (.iconst 0, 1) := by decide +kernel
theorem dX8_look_2 : decode cX8_look 2 = .ok (.putfield 110, 3) := by decide +kernel
theorem dX8_look_5 : decode cX8_look 5 = .ok (.aload_n 0, 1) := by decide +kernel
theorem dX8_look_6 : decode cX8_look 6 = .ok (.aload_n 0, 1) := by decide +kernel
theorem dX8_look_7 : decode cX8_look 7 = .ok (.iload_n 1, 1) := by decide +kernel
theorem dX8_look_8 : decode cX8_look 8 = .ok (.invokevirtual 300, 3) := by decide +kernel
theorem dX8_look_11 : decode cX8_look 11 = .ok (.iconst 1, 1) := by decide +kernel
theorem dX8_look_12 : decode cX8_look 12 = .ok (.invokevirtual 138, 3) := by decide +kernel
theorem dX8_look_15 : decode cX8_look 15 = .ok (.ifCond .eq 5, 3) := by decide +kernel
theorem dX8_look_18 : decode cX8_look 18 = .ok (.iconst 0, 1) := by decide +kernel
theorem dX8_look_19 : decode cX8_look 19 = .ok (.ireturn, 1) := by decide +kernel
theorem dX8_look_20 : decode cX8_look 20 = .ok (.iload_n 2, 1) := by decide +kernel
theorem dX8_look_21 : decode cX8_look 21 = .ok (.tableswitch 130 0 4 #[35, 47, 59, 105, 117], 35) := by decide +kernel
theorem dX8_look_56 : decode cX8_look 56 = .ok (.aload_n 0, 1) := by decide +kernel
theorem dX8_look_57 : decode cX8_look 57 = .ok (.getfield 58, 3) := by decide +kernel
theorem dX8_look_60 : decode cX8_look 60 = .ok (.bipush 7, 2) := by decide +kernel
theorem dX8_look_62 : decode cX8_look 62 = .ok (.iload_n 1, 1) := by decide +kernel
theorem dX8_look_63 : decode cX8_look 63 = .ok (.imul, 1) := by decide +kernel
theorem dX8_look_64 : decode cX8_look 64 = .ok (.iconst 2, 1) := by decide +kernel
theorem dX8_look_65 : decode cX8_look 65 = .ok (.iadd, 1) := by decide +kernel
theorem dX8_look_66 : decode cX8_look 66 = .ok (.iaload, 1) := by decide +kernel
theorem dX8_look_67 : decode cX8_look 67 = .ok (.ireturn, 1) := by decide +kernel
theorem dX8_look_68 : decode cX8_look 68 = .ok (.aload_n 0, 1) := by decide +kernel
theorem dX8_look_69 : decode cX8_look 69 = .ok (.getfield 58, 3) := by decide +kernel
theorem dX8_look_72 : decode cX8_look 72 = .ok (.bipush 7, 2) := by decide +kernel
theorem dX8_look_74 : decode cX8_look 74 = .ok (.iload_n 1, 1) := by decide +kernel
theorem dX8_look_75 : decode cX8_look 75 = .ok (.imul, 1) := by decide +kernel
theorem dX8_look_76 : decode cX8_look 76 = .ok (.iconst 3, 1) := by decide +kernel
theorem dX8_look_77 : decode cX8_look 77 = .ok (.iadd, 1) := by decide +kernel
theorem dX8_look_78 : decode cX8_look 78 = .ok (.iaload, 1) := by decide +kernel
theorem dX8_look_79 : decode cX8_look 79 = .ok (.ireturn, 1) := by decide +kernel
theorem dX8_look_80 : decode cX8_look 80 = .ok (.aload_n 0, 1) := by decide +kernel
theorem dX8_look_81 : decode cX8_look 81 = .ok (.getfield 58, 3) := by decide +kernel
theorem dX8_look_84 : decode cX8_look 84 = .ok (.bipush 7, 2) := by decide +kernel
theorem dX8_look_86 : decode cX8_look 86 = .ok (.iload_n 1, 1) := by decide +kernel
theorem dX8_look_87 : decode cX8_look 87 = .ok (.imul, 1) := by decide +kernel
theorem dX8_look_88 : decode cX8_look 88 = .ok (.iconst 2, 1) := by decide +kernel
theorem dX8_look_89 : decode cX8_look 89 = .ok (.iadd, 1) := by decide +kernel
theorem dX8_look_90 : decode cX8_look 90 = .ok (.iaload, 1) := by decide +kernel
theorem dX8_look_91 : decode cX8_look 91 = .ok (.iconst 2, 1) := by decide +kernel
theorem dX8_look_92 : decode cX8_look 92 = .ok (.if_icmp .eq 18, 3) := by decide +kernel
theorem dX8_look_95 : decode cX8_look 95 = .ok (.aload_n 0, 1) := by decide +kernel
theorem dX8_look_96 : decode cX8_look 96 = .ok (.getfield 58, 3) := by decide +kernel
theorem dX8_look_99 : decode cX8_look 99 = .ok (.bipush 7, 2) := by decide +kernel
theorem dX8_look_101 : decode cX8_look 101 = .ok (.iload_n 1, 1) := by decide +kernel
theorem dX8_look_102 : decode cX8_look 102 = .ok (.imul, 1) := by decide +kernel
theorem dX8_look_103 : decode cX8_look 103 = .ok (.iconst 2, 1) := by decide +kernel
theorem dX8_look_104 : decode cX8_look 104 = .ok (.iadd, 1) := by decide +kernel
theorem dX8_look_105 : decode cX8_look 105 = .ok (.iaload, 1) := by decide +kernel
theorem dX8_look_106 : decode cX8_look 106 = .ok (.iconst 3, 1) := by decide +kernel
theorem dX8_look_107 : decode cX8_look 107 = .ok (.if_icmp .ne 17, 3) := by decide +kernel
theorem dX8_look_110 : decode cX8_look 110 = .ok (.aload_n 0, 1) := by decide +kernel
theorem dX8_look_111 : decode cX8_look 111 = .ok (.getfield 58, 3) := by decide +kernel
theorem dX8_look_114 : decode cX8_look 114 = .ok (.bipush 7, 2) := by decide +kernel
theorem dX8_look_116 : decode cX8_look 116 = .ok (.iload_n 1, 1) := by decide +kernel
theorem dX8_look_117 : decode cX8_look 117 = .ok (.imul, 1) := by decide +kernel
theorem dX8_look_118 : decode cX8_look 118 = .ok (.iconst 4, 1) := by decide +kernel
theorem dX8_look_119 : decode cX8_look 119 = .ok (.iadd, 1) := by decide +kernel
theorem dX8_look_120 : decode cX8_look 120 = .ok (.iaload, 1) := by decide +kernel
theorem dX8_look_121 : decode cX8_look 121 = .ok (.goto 4, 3) := by decide +kernel
theorem dX8_look_124 : decode cX8_look 124 = .ok (.iconst 0, 1) := by decide +kernel
theorem dX8_look_125 : decode cX8_look 125 = .ok (.ireturn, 1) := by decide +kernel
theorem dX8_look_126 : decode cX8_look 126 = .ok (.aload_n 0, 1) := by decide +kernel
theorem dX8_look_127 : decode cX8_look 127 = .ok (.getfield 58, 3) := by decide +kernel
theorem dX8_look_130 : decode cX8_look 130 = .ok (.bipush 7, 2) := by decide +kernel
theorem dX8_look_132 : decode cX8_look 132 = .ok (.iload_n 1, 1) := by decide +kernel
theorem dX8_look_133 : decode cX8_look 133 = .ok (.imul, 1) := by decide +kernel
theorem dX8_look_134 : decode cX8_look 134 = .ok (.iconst 5, 1) := by decide +kernel
theorem dX8_look_135 : decode cX8_look 135 = .ok (.iadd, 1) := by decide +kernel
theorem dX8_look_136 : decode cX8_look 136 = .ok (.iaload, 1) := by decide +kernel
theorem dX8_look_137 : decode cX8_look 137 = .ok (.ireturn, 1) := by decide +kernel
theorem dX8_look_138 : decode cX8_look 138 = .ok (.aload_n 0, 1) := by decide +kernel
theorem dX8_look_139 : decode cX8_look 139 = .ok (.getfield 58, 3) := by decide +kernel
theorem dX8_look_142 : decode cX8_look 142 = .ok (.bipush 7, 2) := by decide +kernel
theorem dX8_look_144 : decode cX8_look 144 = .ok (.iload_n 1, 1) := by decide +kernel
theorem dX8_look_145 : decode cX8_look 145 = .ok (.imul, 1) := by decide +kernel
theorem dX8_look_146 : decode cX8_look 146 = .ok (.bipush 6, 2) := by decide +kernel
theorem dX8_look_148 : decode cX8_look 148 = .ok (.iadd, 1) := by decide +kernel
theorem dX8_look_149 : decode cX8_look 149 = .ok (.iaload, 1) := by decide +kernel
theorem dX8_look_150 : decode cX8_look 150 = .ok (.ireturn, 1) := by decide +kernel
theorem dX8_look_151 : decode cX8_look 151 = .ok (.aload_n 0, 1) := by decide +kernel
theorem dX8_look_152 : decode cX8_look 152 = .ok (.iconst 2, 1) := by decide +kernel
theorem dX8_look_153 : decode cX8_look 153 = .ok (.putfield 110, 3) := by decide +kernel
theorem dX8_look_156 : decode cX8_look 156 = .ok (.iconst 0, 1) := by decide +kernel
theorem dX8_look_157 : decode cX8_look 157 = .ok (.ireturn, 1) := by decide +kernel
theorem dX8_row_0 : decode cX8_row 0 = .ok (.aload_n 0, 1) := by decide +kernel
theorem dX8_row_1 : decode cX8_row 1 = .ok (.iconst 0, 1) := by decide +kernel
theorem dX8_row_2 : decode cX8_row 2 = .ok (.putfield 110, 3) := by decide +kernel
theorem dX8_row_5 : decode cX8_row 5 = .ok (.aload_n 0, 1) := by decide +kernel
theorem dX8_row_6 : decode cX8_row 6 = .ok (.aload_n 0, 1) := by decide +kernel
theorem dX8_row_7 : decode cX8_row 7 = .ok (.iload_n 1, 1) := by decide +kernel
theorem dX8_row_8 : decode cX8_row 8 = .ok (.invokevirtual 237, 3) := by decide +kernel
theorem dX8_row_11 : decode cX8_row 11 = .ok (.iconst 1, 1) := by decide +kernel
theorem dX8_row_12 : decode cX8_row 12 = .ok (.invokevirtual 138, 3) := by decide +kernel
theorem dX8_row_15 : decode cX8_row 15 = .ok (.ifCond .eq 5, 3) := by decide +kernel
theorem dX8_row_18 : decode cX8_row 18 = .ok (.iconst 0, 1) := by decide +kernel
theorem dX8_row_19 : decode cX8_row 19 = .ok (.ireturn, 1) := by decide +kernel
theorem dX8_row_20 : decode cX8_row 20 = .ok (.iload_n 2, 1) := by decide +kernel
theorem dX8_row_21 : decode cX8_row 21 = .ok (.ifCond .lt 13, 3) := by decide +kernel
theorem dX8_row_24 : decode cX8_row 24 = .ok (.iload_n 2, 1) := by decide +kernel
theorem dX8_row_25 : decode cX8_row 25 = .ok (.aload_n 0, 1) := by decide +kernel
theorem dX8_row_26 : decode cX8_row 26 = .ok (.getfield 24, 3) := by decide +kernel
theorem dX8_row_29 : decode cX8_row 29 = .ok (.iload_n 1, 1) := by decide +kernel
theorem dX8_row_30 : decode cX8_row 30 = .ok (.iaload, 1) := by decide +kernel
theorem dX8_row_31 : decode cX8_row 31 = .ok (.if_icmp .lt 7, 3) := by decide +kernel
theorem dX8_row_34 : decode cX8_row 34 = .ok (.iconst (-1), 1) := by decide +kernel
theorem dX8_row_35 : decode cX8_row 35 = .ok (.goto 14, 3) := by decide +kernel
theorem dX8_row_38 : decode cX8_row 38 = .ok (.aload_n 0, 1) := by decide +kernel
theorem dX8_row_39 : decode cX8_row 39 = .ok (.getfield 21, 3) := by decide +kernel
theorem dX8_row_42 : decode cX8_row 42 = .ok (.bipush 60, 2) := by decide +kernel
theorem dX8_row_44 : decode cX8_row 44 = .ok (.iload_n 1, 1) := by decide +kernel
theorem dX8_row_45 : decode cX8_row 45 = .ok (.imul, 1) := by decide +kernel
theorem dX8_row_46 : decode cX8_row 46 = .ok (.iload_n 2, 1) := by decide +kernel
theorem dX8_row_47 : decode cX8_row 47 = .ok (.iadd, 1) := by decide +kernel
theorem dX8_row_48 : decode cX8_row 48 = .ok (.iaload, 1) := by decide +kernel
theorem dX8_row_49 : decode cX8_row 49 = .ok (.ireturn, 1) := by decide +kernel
theorem dX8_people_0 : decode cX8_people 0 = .ok (.aload_n 0, 1) := by decide +kernel
theorem dX8_people_1 : decode cX8_people 1 = .ok (.iconst 0, 1) := by decide +kernel
theorem dX8_people_2 : decode cX8_people 2 = .ok (.putfield 110, 3) := by decide +kernel
theorem dX8_people_5 : decode cX8_people 5 = .ok (.iload_n 1, 1) := by decide +kernel
theorem dX8_people_6 : decode cX8_people 6 = .ok (.ifCond .lt 8, 3) := by decide +kernel
theorem dX8_people_9 : decode cX8_people 9 = .ok (.iload_n 1, 1) := by decide +kernel
theorem dX8_people_10 : decode cX8_people 10 = .ok (.iconst 3, 1) := by decide +kernel
theorem dX8_people_11 : decode cX8_people 11 = .ok (.if_icmp .le 5, 3) := by decide +kernel
theorem dX8_people_14 : decode cX8_people 14 = .ok (.iconst (-1), 1) := by decide +kernel
theorem dX8_people_15 : decode cX8_people 15 = .ok (.ireturn, 1) := by decide +kernel
theorem dX8_people_16 : decode cX8_people 16 = .ok (.iconst 0, 1) := by decide +kernel
theorem dX8_people_17 : decode cX8_people 17 = .ok (.istore_n 2, 1) := by decide +kernel
theorem dX8_people_18 : decode cX8_people 18 = .ok (.iconst 0, 1) := by decide +kernel
theorem dX8_people_19 : decode cX8_people 19 = .ok (.istore_n 3, 1) := by decide +kernel
theorem dX8_people_20 : decode cX8_people 20 = .ok (.iload_n 3, 1) := by decide +kernel
theorem dX8_people_21 : decode cX8_people 21 = .ok (.aload_n 0, 1) := by decide +kernel
theorem dX8_people_22 : decode cX8_people 22 = .ok (.getfield 126, 3) := by decide +kernel
theorem dX8_people_25 : decode cX8_people 25 = .ok (.if_icmp .ge 40, 3) := by decide +kernel
theorem dX8_people_28 : decode cX8_people 28 = .ok (.iload_n 2, 1) := by decide +kernel
theorem dX8_people_29 : decode cX8_people 29 = .ok (.aload_n 0, 1) := by decide +kernel
theorem dX8_people_30 : decode cX8_people 30 = .ok (.getfield 58, 3) := by decide +kernel
theorem dX8_people_33 : decode cX8_people 33 = .ok (.bipush 7, 2) := by decide +kernel
theorem dX8_people_35 : decode cX8_people 35 = .ok (.iload_n 3, 1) := by decide +kernel
theorem dX8_people_36 : decode cX8_people 36 = .ok (.imul, 1) := by decide +kernel
theorem dX8_people_37 : decode cX8_people 37 = .ok (.iconst 2, 1) := by decide +kernel
theorem dX8_people_38 : decode cX8_people 38 = .ok (.iadd, 1) := by decide +kernel
theorem dX8_people_39 : decode cX8_people 39 = .ok (.iaload, 1) := by decide +kernel
theorem dX8_people_40 : decode cX8_people 40 = .ok (.iload_n 1, 1) := by decide +kernel
theorem dX8_people_41 : decode cX8_people 41 = .ok (.if_icmp .ne 15, 3) := by decide +kernel
theorem dX8_people_44 : decode cX8_people 44 = .ok (.aload_n 0, 1) := by decide +kernel
theorem dX8_people_45 : decode cX8_people 45 = .ok (.getfield 58, 3) := by decide +kernel
theorem dX8_people_48 : decode cX8_people 48 = .ok (.bipush 7, 2) := by decide +kernel
theorem dX8_people_50 : decode cX8_people 50 = .ok (.iload_n 3, 1) := by decide +kernel
theorem dX8_people_51 : decode cX8_people 51 = .ok (.imul, 1) := by decide +kernel
theorem dX8_people_52 : decode cX8_people 52 = .ok (.iaload, 1) := by decide +kernel
theorem dX8_people_53 : decode cX8_people 53 = .ok (.goto 4, 3) := by decide +kernel
theorem dX8_people_56 : decode cX8_people 56 = .ok (.iconst 0, 1) := by decide +kernel
theorem dX8_people_57 : decode cX8_people 57 = .ok (.iadd, 1) := by decide +kernel
theorem dX8_people_58 : decode cX8_people 58 = .ok (.istore_n 2, 1) := by decide +kernel
theorem dX8_people_59 : decode cX8_people 59 = .ok (.iinc 3 1, 3) := by decide +kernel
theorem dX8_people_62 : decode cX8_people 62 = .ok (.goto (-42), 3) := by decide +kernel
theorem dX8_people_65 : decode cX8_people 65 = .ok (.iload_n 2, 1) := by decide +kernel
theorem dX8_people_66 : decode cX8_people 66 = .ok (.ireturn, 1) := by decide +kernel
theorem dX8_snow_0 : decode cX8_snow 0 = .ok (.aload_n 0, 1) := by decide +kernel
theorem dX8_snow_1 : decode cX8_snow 1 = .ok (.iconst 0, 1) := by decide +kernel
theorem dX8_snow_2 : decode cX8_snow 2 = .ok (.putfield 110, 3) := by decide +kernel
theorem dX8_snow_5 : decode cX8_snow 5 = .ok (.aload_n 0, 1) := by decide +kernel
theorem dX8_snow_6 : decode cX8_snow 6 = .ok (.aload_n 0, 1) := by decide +kernel
theorem dX8_snow_7 : decode cX8_snow 7 = .ok (.iload_n 1, 1) := by decide +kernel
theorem dX8_snow_8 : decode cX8_snow 8 = .ok (.invokevirtual 303, 3) := by decide +kernel
theorem dX8_snow_11 : decode cX8_snow 11 = .ok (.iconst 1, 1) := by decide +kernel
theorem dX8_snow_12 : decode cX8_snow 12 = .ok (.invokevirtual 138, 3) := by decide +kernel
theorem dX8_snow_15 : decode cX8_snow 15 = .ok (.ifCond .ne 28, 3) := by decide +kernel
theorem dX8_snow_18 : decode cX8_snow 18 = .ok (.aload_n 0, 1) := by decide +kernel
theorem dX8_snow_19 : decode cX8_snow 19 = .ok (.iload_n 3, 1) := by decide +kernel
theorem dX8_snow_20 : decode cX8_snow 20 = .ok (.i2l, 1) := by decide +kernel
theorem dX8_snow_21 : decode cX8_snow 21 = .ok (.lconst 0, 1) := by decide +kernel
theorem dX8_snow_22 : decode cX8_snow 22 = .ok (.ldc2_w 306, 3) := by decide +kernel
theorem dX8_snow_25 : decode cX8_snow 25 = .ok (.invokestatic 116, 3) := by decide +kernel
theorem dX8_snow_28 : decode cX8_snow 28 = .ok (.ifCond .ne 7, 3) := by decide +kernel
theorem dX8_snow_31 : decode cX8_snow 31 = .ok (.iconst 1, 1) := by decide +kernel
theorem dX8_snow_32 : decode cX8_snow 32 = .ok (.goto 4, 3) := by decide +kernel
theorem dX8_snow_35 : decode cX8_snow 35 = .ok (.iconst 0, 1) := by decide +kernel
theorem dX8_snow_36 : decode cX8_snow 36 = .ok (.iconst 2, 1) := by decide +kernel
theorem dX8_snow_37 : decode cX8_snow 37 = .ok (.invokevirtual 138, 3) := by decide +kernel
theorem dX8_snow_40 : decode cX8_snow 40 = .ok (.ifCond .eq 5, 3) := by decide +kernel
theorem dX8_snow_43 : decode cX8_snow 43 = .ok (.iconst 0, 1) := by decide +kernel
theorem dX8_snow_44 : decode cX8_snow 44 = .ok (.ireturn, 1) := by decide +kernel
theorem dX8_snow_45 : decode cX8_snow 45 = .ok (.aload_n 0, 1) := by decide +kernel
theorem dX8_snow_46 : decode cX8_snow 46 = .ok (.getfield 30, 3) := by decide +kernel
theorem dX8_snow_49 : decode cX8_snow 49 = .ok (.iconst 4, 1) := by decide +kernel
theorem dX8_snow_50 : decode cX8_snow 50 = .ok (.iload_n 1, 1) := by decide +kernel
theorem dX8_snow_51 : decode cX8_snow 51 = .ok (.imul, 1) := by decide +kernel
theorem dX8_snow_52 : decode cX8_snow 52 = .ok (.iload_n 2, 1) := by decide +kernel
theorem dX8_snow_53 : decode cX8_snow 53 = .ok (.ifCond .eq 7, 3) := by decide +kernel
theorem dX8_snow_56 : decode cX8_snow 56 = .ok (.iconst 1, 1) := by decide +kernel
theorem dX8_snow_57 : decode cX8_snow 57 = .ok (.goto 4, 3) := by decide +kernel
theorem dX8_snow_60 : decode cX8_snow 60 = .ok (.iconst 0, 1) := by decide +kernel
theorem dX8_snow_61 : decode cX8_snow 61 = .ok (.iadd, 1) := by decide +kernel
theorem dX8_snow_62 : decode cX8_snow 62 = .ok (.dup2, 1) := by decide +kernel
theorem dX8_snow_63 : decode cX8_snow 63 = .ok (.iaload, 1) := by decide +kernel
theorem dX8_snow_64 : decode cX8_snow 64 = .ok (.iload_n 3, 1) := by decide +kernel
theorem dX8_snow_65 : decode cX8_snow 65 = .ok (.iadd, 1) := by decide +kernel
theorem dX8_snow_66 : decode cX8_snow 66 = .ok (.iastore, 1) := by decide +kernel
theorem dX8_snow_67 : decode cX8_snow 67 = .ok (.aload_n 0, 1) := by decide +kernel
theorem dX8_snow_68 : decode cX8_snow 68 = .ok (.getfield 70, 3) := by decide +kernel
theorem dX8_snow_71 : decode cX8_snow 71 = .ok (.iload_n 2, 1) := by decide +kernel
theorem dX8_snow_72 : decode cX8_snow 72 = .ok (.ifCond .eq 7, 3) := by decide +kernel
theorem dX8_snow_75 : decode cX8_snow 75 = .ok (.iconst 1, 1) := by decide +kernel
theorem dX8_snow_76 : decode cX8_snow 76 = .ok (.goto 4, 3) := by decide +kernel
theorem dX8_snow_79 : decode cX8_snow 79 = .ok (.iconst 0, 1) := by decide +kernel
theorem dX8_snow_80 : decode cX8_snow 80 = .ok (.dup2, 1) := by decide +kernel
theorem dX8_snow_81 : decode cX8_snow 81 = .ok (.laload, 1) := by decide +kernel
theorem dX8_snow_82 : decode cX8_snow 82 = .ok (.iload_n 3, 1) := by decide +kernel
theorem dX8_snow_83 : decode cX8_snow 83 = .ok (.i2l, 1) := by decide +kernel
theorem dX8_snow_84 : decode cX8_snow 84 = .ok (.ladd, 1) := by decide +kernel
theorem dX8_snow_85 : decode cX8_snow 85 = .ok (.lastore, 1) := by decide +kernel
theorem dX8_snow_86 : decode cX8_snow 86 = .ok (.aload_n 0, 1) := by decide +kernel
theorem dX8_snow_87 : decode cX8_snow 87 = .ok (.iload_n 1, 1) := by decide +kernel
theorem dX8_snow_88 : decode cX8_snow 88 = .ok (.invokevirtual 258, 3) := by decide +kernel
theorem dX8_snow_91 : decode cX8_snow 91 = .ok (.ireturn, 1) := by decide +kernel
theorem dX8_melt_0 : decode cX8_melt 0 = .ok (.aload_n 0, 1) := by decide +kernel
theorem dX8_melt_1 : decode cX8_melt 1 = .ok (.iconst 0, 1) := by decide +kernel
theorem dX8_melt_2 : decode cX8_melt 2 = .ok (.putfield 110, 3) := by decide +kernel
theorem dX8_melt_5 : decode cX8_melt 5 = .ok (.aload_n 0, 1) := by decide +kernel
theorem dX8_melt_6 : decode cX8_melt 6 = .ok (.aload_n 0, 1) := by decide +kernel
theorem dX8_melt_7 : decode cX8_melt 7 = .ok (.iload_n 1, 1) := by decide +kernel
theorem dX8_melt_8 : decode cX8_melt 8 = .ok (.invokevirtual 303, 3) := by decide +kernel
theorem dX8_melt_11 : decode cX8_melt 11 = .ok (.iconst 1, 1) := by decide +kernel
theorem dX8_melt_12 : decode cX8_melt 12 = .ok (.invokevirtual 138, 3) := by decide +kernel
theorem dX8_melt_15 : decode cX8_melt 15 = .ok (.ifCond .ne 28, 3) := by decide +kernel
theorem dX8_melt_18 : decode cX8_melt 18 = .ok (.aload_n 0, 1) := by decide +kernel
theorem dX8_melt_19 : decode cX8_melt 19 = .ok (.iload_n 2, 1) := by decide +kernel
theorem dX8_melt_20 : decode cX8_melt 20 = .ok (.i2l, 1) := by decide +kernel
theorem dX8_melt_21 : decode cX8_melt 21 = .ok (.lconst 0, 1) := by decide +kernel
theorem dX8_melt_22 : decode cX8_melt 22 = .ok (.ldc2_w 308, 3) := by decide +kernel
theorem dX8_melt_25 : decode cX8_melt 25 = .ok (.invokestatic 116, 3) := by decide +kernel
theorem dX8_melt_28 : decode cX8_melt 28 = .ok (.ifCond .ne 7, 3) := by decide +kernel
theorem dX8_melt_31 : decode cX8_melt 31 = .ok (.iconst 1, 1) := by decide +kernel
theorem dX8_melt_32 : decode cX8_melt 32 = .ok (.goto 4, 3) := by decide +kernel
theorem dX8_melt_35 : decode cX8_melt 35 = .ok (.iconst 0, 1) := by decide +kernel
theorem dX8_melt_36 : decode cX8_melt 36 = .ok (.iconst 2, 1) := by decide +kernel
theorem dX8_melt_37 : decode cX8_melt 37 = .ok (.invokevirtual 138, 3) := by decide +kernel
theorem dX8_melt_40 : decode cX8_melt 40 = .ok (.ifCond .eq 5, 3) := by decide +kernel
theorem dX8_melt_43 : decode cX8_melt 43 = .ok (.iconst 0, 1) := by decide +kernel
theorem dX8_melt_44 : decode cX8_melt 44 = .ok (.ireturn, 1) := by decide +kernel
theorem dX8_melt_45 : decode cX8_melt 45 = .ok (.iconst 0, 1) := by decide +kernel
theorem dX8_melt_46 : decode cX8_melt 46 = .ok (.istore_n 3, 1) := by decide +kernel
theorem dX8_melt_47 : decode cX8_melt 47 = .ok (.iconst 0, 1) := by decide +kernel
theorem dX8_melt_48 : decode cX8_melt 48 = .ok (.istore 4, 2) := by decide +kernel
theorem dX8_melt_50 : decode cX8_melt 50 = .ok (.iload 4, 2) := by decide +kernel
theorem dX8_melt_52 : decode cX8_melt 52 = .ok (.iconst 4, 1) := by decide +kernel
theorem dX8_melt_53 : decode cX8_melt 53 = .ok (.if_icmp .ge 66, 3) := by decide +kernel
theorem dX8_melt_56 : decode cX8_melt 56 = .ok (.iload_n 2, 1) := by decide +kernel
theorem dX8_melt_57 : decode cX8_melt 57 = .ok (.iload_n 3, 1) := by decide +kernel
theorem dX8_melt_58 : decode cX8_melt 58 = .ok (.isub, 1) := by decide +kernel
theorem dX8_melt_59 : decode cX8_melt 59 = .ok (.aload_n 0, 1) := by decide +kernel
theorem dX8_melt_60 : decode cX8_melt 60 = .ok (.getfield 30, 3) := by decide +kernel
theorem dX8_melt_63 : decode cX8_melt 63 = .ok (.iconst 4, 1) := by decide +kernel
theorem dX8_melt_64 : decode cX8_melt 64 = .ok (.iload_n 1, 1) := by decide +kernel
theorem dX8_melt_65 : decode cX8_melt 65 = .ok (.imul, 1) := by decide +kernel
theorem dX8_melt_66 : decode cX8_melt 66 = .ok (.iload 4, 2) := by decide +kernel
theorem dX8_melt_68 : decode cX8_melt 68 = .ok (.iadd, 1) := by decide +kernel
theorem dX8_melt_69 : decode cX8_melt 69 = .ok (.iaload, 1) := by decide +kernel
theorem dX8_melt_70 : decode cX8_melt 70 = .ok (.if_icmp .ge 9, 3) := by decide +kernel
theorem dX8_melt_73 : decode cX8_melt 73 = .ok (.iload_n 2, 1) := by decide +kernel
theorem dX8_melt_74 : decode cX8_melt 74 = .ok (.iload_n 3, 1) := by decide +kernel
theorem dX8_melt_75 : decode cX8_melt 75 = .ok (.isub, 1) := by decide +kernel
theorem dX8_melt_76 : decode cX8_melt 76 = .ok (.goto 14, 3) := by decide +kernel
theorem dX8_melt_79 : decode cX8_melt 79 = .ok (.aload_n 0, 1) := by decide +kernel
theorem dX8_melt_80 : decode cX8_melt 80 = .ok (.getfield 30, 3) := by decide +kernel
theorem dX8_melt_83 : decode cX8_melt 83 = .ok (.iconst 4, 1) := by decide +kernel
theorem dX8_melt_84 : decode cX8_melt 84 = .ok (.iload_n 1, 1) := by decide +kernel
theorem dX8_melt_85 : decode cX8_melt 85 = .ok (.imul, 1) := by decide +kernel
theorem dX8_melt_86 : decode cX8_melt 86 = .ok (.iload 4, 2) := by decide +kernel
theorem dX8_melt_88 : decode cX8_melt 88 = .ok (.iadd, 1) := by decide +kernel
theorem dX8_melt_89 : decode cX8_melt 89 = .ok (.iaload, 1) := by decide +kernel
theorem dX8_melt_90 : decode cX8_melt 90 = .ok (.istore 5, 2) := by decide +kernel
theorem dX8_melt_92 : decode cX8_melt 92 = .ok (.aload_n 0, 1) := by decide +kernel
theorem dX8_melt_93 : decode cX8_melt 93 = .ok (.getfield 30, 3) := by decide +kernel
theorem dX8_melt_96 : decode cX8_melt 96 = .ok (.iconst 4, 1) := by decide +kernel
theorem dX8_melt_97 : decode cX8_melt 97 = .ok (.iload_n 1, 1) := by decide +kernel
theorem dX8_melt_98 : decode cX8_melt 98 = .ok (.imul, 1) := by decide +kernel
theorem dX8_melt_99 : decode cX8_melt 99 = .ok (.iload 4, 2) := by decide +kernel
theorem dX8_melt_101 : decode cX8_melt 101 = .ok (.iadd, 1) := by decide +kernel
theorem dX8_melt_102 : decode cX8_melt 102 = .ok (.dup2, 1) := by decide +kernel
theorem dX8_melt_103 : decode cX8_melt 103 = .ok (.iaload, 1) := by decide +kernel
theorem dX8_melt_104 : decode cX8_melt 104 = .ok (.iload 5, 2) := by decide +kernel
theorem dX8_melt_106 : decode cX8_melt 106 = .ok (.isub, 1) := by decide +kernel
theorem dX8_melt_107 : decode cX8_melt 107 = .ok (.iastore, 1) := by decide +kernel
theorem dX8_melt_108 : decode cX8_melt 108 = .ok (.iload_n 3, 1) := by decide +kernel
theorem dX8_melt_109 : decode cX8_melt 109 = .ok (.iload 5, 2) := by decide +kernel
theorem dX8_melt_111 : decode cX8_melt 111 = .ok (.iadd, 1) := by decide +kernel
theorem dX8_melt_112 : decode cX8_melt 112 = .ok (.istore_n 3, 1) := by decide +kernel
theorem dX8_melt_113 : decode cX8_melt 113 = .ok (.iinc 4 1, 3) := by decide +kernel
theorem dX8_melt_116 : decode cX8_melt 116 = .ok (.goto (-66), 3) := by decide +kernel
theorem dX8_melt_119 : decode cX8_melt 119 = .ok (.aload_n 0, 1) := by decide +kernel
theorem dX8_melt_120 : decode cX8_melt 120 = .ok (.getfield 70, 3) := by decide +kernel
theorem dX8_melt_123 : decode cX8_melt 123 = .ok (.iconst 2, 1) := by decide +kernel
theorem dX8_melt_124 : decode cX8_melt 124 = .ok (.dup2, 1) := by decide +kernel
theorem dX8_melt_125 : decode cX8_melt 125 = .ok (.laload, 1) := by decide +kernel
theorem dX8_melt_126 : decode cX8_melt 126 = .ok (.iload_n 3, 1) := by decide +kernel
theorem dX8_melt_127 : decode cX8_melt 127 = .ok (.i2l, 1) := by decide +kernel
theorem dX8_melt_128 : decode cX8_melt 128 = .ok (.ladd, 1) := by decide +kernel
theorem dX8_melt_129 : decode cX8_melt 129 = .ok (.lastore, 1) := by decide +kernel
theorem dX8_melt_130 : decode cX8_melt 130 = .ok (.iload_n 3, 1) := by decide +kernel
theorem dX8_melt_131 : decode cX8_melt 131 = .ok (.ireturn, 1) := by decide +kernel
theorem dX8_push_0 : decode cX8_push 0 = .ok (.aload_n 0, 1) := by decide +kernel
theorem dX8_push_1 : decode cX8_push 1 = .ok (.iconst 0, 1) := by decide +kernel
theorem dX8_push_2 : decode cX8_push 2 = .ok (.putfield 110, 3) := by decide +kernel
theorem dX8_push_5 : decode cX8_push 5 = .ok (.aload_n 0, 1) := by decide +kernel
theorem dX8_push_6 : decode cX8_push 6 = .ok (.aload_n 0, 1) := by decide +kernel
theorem dX8_push_7 : decode cX8_push 7 = .ok (.iload_n 1, 1) := by decide +kernel
theorem dX8_push_8 : decode cX8_push 8 = .ok (.invokevirtual 303, 3) := by decide +kernel
theorem dX8_push_11 : decode cX8_push 11 = .ok (.iconst 1, 1) := by decide +kernel
theorem dX8_push_12 : decode cX8_push 12 = .ok (.invokevirtual 138, 3) := by decide +kernel
theorem dX8_push_15 : decode cX8_push 15 = .ok (.ifCond .eq 5, 3) := by decide +kernel
theorem dX8_push_18 : decode cX8_push 18 = .ok (.iconst 0, 1) := by decide +kernel
theorem dX8_push_19 : decode cX8_push 19 = .ok (.ireturn, 1) := by decide +kernel
theorem dX8_push_20 : decode cX8_push 20 = .ok (.aload_n 0, 1) := by decide +kernel
theorem dX8_push_21 : decode cX8_push 21 = .ok (.iload_n 1, 1) := by decide +kernel
theorem dX8_push_22 : decode cX8_push 22 = .ok (.invokevirtual 258, 3) := by decide +kernel
theorem dX8_push_25 : decode cX8_push 25 = .ok (.istore_n 2, 1) := by decide +kernel
theorem dX8_push_26 : decode cX8_push 26 = .ok (.iload_n 2, 1) := by decide +kernel
theorem dX8_push_27 : decode cX8_push 27 = .ok (.aload_n 0, 1) := by decide +kernel
theorem dX8_push_28 : decode cX8_push 28 = .ok (.getfield 30, 3) := by decide +kernel
theorem dX8_push_31 : decode cX8_push 31 = .ok (.iconst 4, 1) := by decide +kernel
theorem dX8_push_32 : decode cX8_push 32 = .ok (.iload_n 1, 1) := by decide +kernel
theorem dX8_push_33 : decode cX8_push 33 = .ok (.imul, 1) := by decide +kernel
theorem dX8_push_34 : decode cX8_push 34 = .ok (.iconst 2, 1) := by decide +kernel
theorem dX8_push_35 : decode cX8_push 35 = .ok (.iadd, 1) := by decide +kernel
theorem dX8_push_36 : decode cX8_push 36 = .ok (.iaload, 1) := by decide +kernel
theorem dX8_push_37 : decode cX8_push 37 = .ok (.isub, 1) := by decide +kernel
theorem dX8_push_38 : decode cX8_push 38 = .ok (.istore_n 3, 1) := by decide +kernel
theorem dX8_push_39 : decode cX8_push 39 = .ok (.iconst 0, 1) := by decide +kernel
theorem dX8_push_40 : decode cX8_push 40 = .ok (.istore 4, 2) := by decide +kernel
theorem dX8_push_42 : decode cX8_push 42 = .ok (.iload 4, 2) := by decide +kernel
theorem dX8_push_44 : decode cX8_push 44 = .ok (.iconst 4, 1) := by decide +kernel
theorem dX8_push_45 : decode cX8_push 45 = .ok (.if_icmp .ge 31, 3) := by decide +kernel
theorem dX8_push_48 : decode cX8_push 48 = .ok (.aload_n 0, 1) := by decide +kernel
theorem dX8_push_49 : decode cX8_push 49 = .ok (.getfield 30, 3) := by decide +kernel
theorem dX8_push_52 : decode cX8_push 52 = .ok (.iconst 4, 1) := by decide +kernel
theorem dX8_push_53 : decode cX8_push 53 = .ok (.iload_n 1, 1) := by decide +kernel
theorem dX8_push_54 : decode cX8_push 54 = .ok (.imul, 1) := by decide +kernel
theorem dX8_push_55 : decode cX8_push 55 = .ok (.iload 4, 2) := by decide +kernel
theorem dX8_push_57 : decode cX8_push 57 = .ok (.iadd, 1) := by decide +kernel
theorem dX8_push_58 : decode cX8_push 58 = .ok (.iload 4, 2) := by decide +kernel
theorem dX8_push_60 : decode cX8_push 60 = .ok (.iconst 2, 1) := by decide +kernel
theorem dX8_push_61 : decode cX8_push 61 = .ok (.if_icmp .ne 7, 3) := by decide +kernel
theorem dX8_push_64 : decode cX8_push 64 = .ok (.iload_n 2, 1) := by decide +kernel
theorem dX8_push_65 : decode cX8_push 65 = .ok (.goto 4, 3) := by decide +kernel
theorem dX8_push_68 : decode cX8_push 68 = .ok (.iconst 0, 1) := by decide +kernel
theorem dX8_push_69 : decode cX8_push 69 = .ok (.iastore, 1) := by decide +kernel
theorem dX8_push_70 : decode cX8_push 70 = .ok (.iinc 4 1, 3) := by decide +kernel
theorem dX8_push_73 : decode cX8_push 73 = .ok (.goto (-31), 3) := by decide +kernel
theorem dX8_push_76 : decode cX8_push 76 = .ok (.iload_n 3, 1) := by decide +kernel
theorem dX8_push_77 : decode cX8_push 77 = .ok (.ireturn, 1) := by decide +kernel
theorem dX8_cell_0 : decode cX8_cell 0 = .ok (.aload_n 0, 1) := by decide +kernel
theorem dX8_cell_1 : decode cX8_cell 1 = .ok (.iconst 0, 1) := by decide +kernel
theorem dX8_cell_2 : decode cX8_cell 2 = .ok (.putfield 110, 3) := by decide +kernel
theorem dX8_cell_5 : decode cX8_cell 5 = .ok (.aload_n 0, 1) := by decide +kernel
theorem dX8_cell_6 : decode cX8_cell 6 = .ok (.aload_n 0, 1) := by decide +kernel
theorem dX8_cell_7 : decode cX8_cell 7 = .ok (.iload_n 1, 1) := by decide +kernel
theorem dX8_cell_8 : decode cX8_cell 8 = .ok (.invokevirtual 303, 3) := by decide +kernel
theorem dX8_cell_11 : decode cX8_cell 11 = .ok (.iconst 1, 1) := by decide +kernel
theorem dX8_cell_12 : decode cX8_cell 12 = .ok (.invokevirtual 138, 3) := by decide +kernel
theorem dX8_cell_15 : decode cX8_cell 15 = .ok (.ifCond .eq 5, 3) := by decide +kernel
theorem dX8_cell_18 : decode cX8_cell 18 = .ok (.iconst 0, 1) := by decide +kernel
theorem dX8_cell_19 : decode cX8_cell 19 = .ok (.ireturn, 1) := by decide +kernel
theorem dX8_cell_20 : decode cX8_cell 20 = .ok (.iload_n 2, 1) := by decide +kernel
theorem dX8_cell_21 : decode cX8_cell 21 = .ok (.tableswitch 85 0 7 #[47, 47, 47, 47, 58, 64, 71, 78], 47) := by decide +kernel
theorem dX8_cell_68 : decode cX8_cell 68 = .ok (.aload_n 0, 1) := by decide +kernel
theorem dX8_cell_69 : decode cX8_cell 69 = .ok (.getfield 30, 3) := by decide +kernel
theorem dX8_cell_72 : decode cX8_cell 72 = .ok (.iconst 4, 1) := by decide +kernel
theorem dX8_cell_73 : decode cX8_cell 73 = .ok (.iload_n 1, 1) := by decide +kernel
theorem dX8_cell_74 : decode cX8_cell 74 = .ok (.imul, 1) := by decide +kernel
theorem dX8_cell_75 : decode cX8_cell 75 = .ok (.iload_n 2, 1) := by decide +kernel
theorem dX8_cell_76 : decode cX8_cell 76 = .ok (.iadd, 1) := by decide +kernel
theorem dX8_cell_77 : decode cX8_cell 77 = .ok (.iaload, 1) := by decide +kernel
theorem dX8_cell_78 : decode cX8_cell 78 = .ok (.ireturn, 1) := by decide +kernel
theorem dX8_cell_79 : decode cX8_cell 79 = .ok (.aload_n 0, 1) := by decide +kernel
theorem dX8_cell_80 : decode cX8_cell 80 = .ok (.iload_n 1, 1) := by decide +kernel
theorem dX8_cell_81 : decode cX8_cell 81 = .ok (.invokevirtual 258, 3) := by decide +kernel
theorem dX8_cell_84 : decode cX8_cell 84 = .ok (.ireturn, 1) := by decide +kernel
theorem dX8_cell_85 : decode cX8_cell 85 = .ok (.aload_n 0, 1) := by decide +kernel
theorem dX8_cell_86 : decode cX8_cell 86 = .ok (.getfield 33, 3) := by decide +kernel
theorem dX8_cell_89 : decode cX8_cell 89 = .ok (.iload_n 1, 1) := by decide +kernel
theorem dX8_cell_90 : decode cX8_cell 90 = .ok (.iaload, 1) := by decide +kernel
theorem dX8_cell_91 : decode cX8_cell 91 = .ok (.ireturn, 1) := by decide +kernel
theorem dX8_cell_92 : decode cX8_cell 92 = .ok (.aload_n 0, 1) := by decide +kernel
theorem dX8_cell_93 : decode cX8_cell 93 = .ok (.getfield 36, 3) := by decide +kernel
theorem dX8_cell_96 : decode cX8_cell 96 = .ok (.iload_n 1, 1) := by decide +kernel
theorem dX8_cell_97 : decode cX8_cell 97 = .ok (.iaload, 1) := by decide +kernel
theorem dX8_cell_98 : decode cX8_cell 98 = .ok (.ireturn, 1) := by decide +kernel
theorem dX8_cell_99 : decode cX8_cell 99 = .ok (.aload_n 0, 1) := by decide +kernel
theorem dX8_cell_100 : decode cX8_cell 100 = .ok (.getfield 39, 3) := by decide +kernel
theorem dX8_cell_103 : decode cX8_cell 103 = .ok (.iload_n 1, 1) := by decide +kernel
theorem dX8_cell_104 : decode cX8_cell 104 = .ok (.iaload, 1) := by decide +kernel
theorem dX8_cell_105 : decode cX8_cell 105 = .ok (.ireturn, 1) := by decide +kernel
theorem dX8_cell_106 : decode cX8_cell 106 = .ok (.aload_n 0, 1) := by decide +kernel
theorem dX8_cell_107 : decode cX8_cell 107 = .ok (.iconst 2, 1) := by decide +kernel
theorem dX8_cell_108 : decode cX8_cell 108 = .ok (.putfield 110, 3) := by decide +kernel
theorem dX8_cell_111 : decode cX8_cell 111 = .ok (.iconst 0, 1) := by decide +kernel
theorem dX8_cell_112 : decode cX8_cell 112 = .ok (.ireturn, 1) := by decide +kernel
theorem dX8_link_0 : decode cX8_link 0 = .ok (.aload_n 0, 1) := by decide +kernel
theorem dX8_link_1 : decode cX8_link 1 = .ok (.iconst 0, 1) := by decide +kernel
theorem dX8_link_2 : decode cX8_link 2 = .ok (.putfield 110, 3) := by decide +kernel
theorem dX8_link_5 : decode cX8_link 5 = .ok (.aload_n 0, 1) := by decide +kernel
theorem dX8_link_6 : decode cX8_link 6 = .ok (.aload_n 0, 1) := by decide +kernel
theorem dX8_link_7 : decode cX8_link 7 = .ok (.iload_n 1, 1) := by decide +kernel
theorem dX8_link_8 : decode cX8_link 8 = .ok (.invokevirtual 303, 3) := by decide +kernel
theorem dX8_link_11 : decode cX8_link 11 = .ok (.ifCond .ne 11, 3) := by decide +kernel
theorem dX8_link_14 : decode cX8_link 14 = .ok (.aload_n 0, 1) := by decide +kernel
theorem dX8_link_15 : decode cX8_link 15 = .ok (.iload_n 2, 1) := by decide +kernel
theorem dX8_link_16 : decode cX8_link 16 = .ok (.invokevirtual 303, 3) := by decide +kernel
theorem dX8_link_19 : decode cX8_link 19 = .ok (.ifCond .eq 7, 3) := by decide +kernel
theorem dX8_link_22 : decode cX8_link 22 = .ok (.iconst 1, 1) := by decide +kernel
theorem dX8_link_23 : decode cX8_link 23 = .ok (.goto 4, 3) := by decide +kernel
theorem dX8_link_26 : decode cX8_link 26 = .ok (.iconst 0, 1) := by decide +kernel
theorem dX8_link_27 : decode cX8_link 27 = .ok (.iconst 1, 1) := by decide +kernel
theorem dX8_link_28 : decode cX8_link 28 = .ok (.invokevirtual 138, 3) := by decide +kernel
theorem dX8_link_31 : decode cX8_link 31 = .ok (.ifCond .ne 55, 3) := by decide +kernel
theorem dX8_link_34 : decode cX8_link 34 = .ok (.aload_n 0, 1) := by decide +kernel
theorem dX8_link_35 : decode cX8_link 35 = .ok (.iload_n 1, 1) := by decide +kernel
theorem dX8_link_36 : decode cX8_link 36 = .ok (.iload_n 2, 1) := by decide +kernel
theorem dX8_link_37 : decode cX8_link 37 = .ok (.if_icmp .eq 15, 3) := by decide +kernel
theorem dX8_link_40 : decode cX8_link 40 = .ok (.iload_n 3, 1) := by decide +kernel
theorem dX8_link_41 : decode cX8_link 41 = .ok (.i2l, 1) := by decide +kernel
theorem dX8_link_42 : decode cX8_link 42 = .ok (.lconst 1, 1) := by decide +kernel
theorem dX8_link_43 : decode cX8_link 43 = .ok (.ldc2_w 310, 3) := by decide +kernel
theorem dX8_link_46 : decode cX8_link 46 = .ok (.invokestatic 116, 3) := by decide +kernel
theorem dX8_link_49 : decode cX8_link 49 = .ok (.ifCond .ne 7, 3) := by decide +kernel
theorem dX8_link_52 : decode cX8_link 52 = .ok (.iconst 1, 1) := by decide +kernel
theorem dX8_link_53 : decode cX8_link 53 = .ok (.goto 4, 3) := by decide +kernel
theorem dX8_link_56 : decode cX8_link 56 = .ok (.iconst 0, 1) := by decide +kernel
theorem dX8_link_57 : decode cX8_link 57 = .ok (.iconst 2, 1) := by decide +kernel
theorem dX8_link_58 : decode cX8_link 58 = .ok (.invokevirtual 138, 3) := by decide +kernel
theorem dX8_link_61 : decode cX8_link 61 = .ok (.ifCond .ne 25, 3) := by decide +kernel
theorem dX8_link_64 : decode cX8_link 64 = .ok (.aload_n 0, 1) := by decide +kernel
theorem dX8_link_65 : decode cX8_link 65 = .ok (.aload_n 0, 1) := by decide +kernel
theorem dX8_link_66 : decode cX8_link 66 = .ok (.getfield 312, 3) := by decide +kernel
theorem dX8_link_69 : decode cX8_link 69 = .ok (.bipush 80, 2) := by decide +kernel
theorem dX8_link_71 : decode cX8_link 71 = .ok (.if_icmp .ne 7, 3) := by decide +kernel
theorem dX8_link_74 : decode cX8_link 74 = .ok (.iconst 1, 1) := by decide +kernel
theorem dX8_link_75 : decode cX8_link 75 = .ok (.goto 4, 3) := by decide +kernel
theorem dX8_link_78 : decode cX8_link 78 = .ok (.iconst 0, 1) := by decide +kernel
theorem dX8_link_79 : decode cX8_link 79 = .ok (.iconst 3, 1) := by decide +kernel
theorem dX8_link_80 : decode cX8_link 80 = .ok (.invokevirtual 138, 3) := by decide +kernel
theorem dX8_link_83 : decode cX8_link 83 = .ok (.ifCond .eq 5, 3) := by decide +kernel
theorem dX8_link_86 : decode cX8_link 86 = .ok (.iconst 0, 1) := by decide +kernel
theorem dX8_link_87 : decode cX8_link 87 = .ok (.ireturn, 1) := by decide +kernel
theorem dX8_link_88 : decode cX8_link 88 = .ok (.aload_n 0, 1) := by decide +kernel
theorem dX8_link_89 : decode cX8_link 89 = .ok (.getfield 61, 3) := by decide +kernel
theorem dX8_link_92 : decode cX8_link 92 = .ok (.aload_n 0, 1) := by decide +kernel
theorem dX8_link_93 : decode cX8_link 93 = .ok (.getfield 312, 3) := by decide +kernel
theorem dX8_link_96 : decode cX8_link 96 = .ok (.iload_n 1, 1) := by decide +kernel
theorem dX8_link_97 : decode cX8_link 97 = .ok (.iastore, 1) := by decide +kernel
theorem dX8_link_98 : decode cX8_link 98 = .ok (.aload_n 0, 1) := by decide +kernel
theorem dX8_link_99 : decode cX8_link 99 = .ok (.getfield 64, 3) := by decide +kernel
theorem dX8_link_102 : decode cX8_link 102 = .ok (.aload_n 0, 1) := by decide +kernel
theorem dX8_link_103 : decode cX8_link 103 = .ok (.getfield 312, 3) := by decide +kernel
theorem dX8_link_106 : decode cX8_link 106 = .ok (.iload_n 2, 1) := by decide +kernel
theorem dX8_link_107 : decode cX8_link 107 = .ok (.iastore, 1) := by decide +kernel
theorem dX8_link_108 : decode cX8_link 108 = .ok (.aload_n 0, 1) := by decide +kernel
theorem dX8_link_109 : decode cX8_link 109 = .ok (.getfield 67, 3) := by decide +kernel
theorem dX8_link_112 : decode cX8_link 112 = .ok (.aload_n 0, 1) := by decide +kernel
theorem dX8_link_113 : decode cX8_link 113 = .ok (.getfield 312, 3) := by decide +kernel
theorem dX8_link_116 : decode cX8_link 116 = .ok (.iload_n 3, 1) := by decide +kernel
theorem dX8_link_117 : decode cX8_link 117 = .ok (.iastore, 1) := by decide +kernel
theorem dX8_link_118 : decode cX8_link 118 = .ok (.aload_n 0, 1) := by decide +kernel
theorem dX8_link_119 : decode cX8_link 119 = .ok (.dup, 1) := by decide +kernel
theorem dX8_link_120 : decode cX8_link 120 = .ok (.getfield 312, 3) := by decide +kernel
theorem dX8_link_123 : decode cX8_link 123 = .ok (.iconst 1, 1) := by decide +kernel
theorem dX8_link_124 : decode cX8_link 124 = .ok (.iadd, 1) := by decide +kernel
theorem dX8_link_125 : decode cX8_link 125 = .ok (.putfield 312, 3) := by decide +kernel
theorem dX8_link_128 : decode cX8_link 128 = .ok (.aload_n 0, 1) := by decide +kernel
theorem dX8_link_129 : decode cX8_link 129 = .ok (.getfield 312, 3) := by decide +kernel
theorem dX8_link_132 : decode cX8_link 132 = .ok (.ireturn, 1) := by decide +kernel
theorem dX8_want_0 : decode cX8_want 0 = .ok (.aload_n 0, 1) := by decide +kernel
theorem dX8_want_1 : decode cX8_want 1 = .ok (.iconst 0, 1) := by decide +kernel
theorem dX8_want_2 : decode cX8_want 2 = .ok (.putfield 110, 3) := by decide +kernel
theorem dX8_want_5 : decode cX8_want 5 = .ok (.aload_n 0, 1) := by decide +kernel
theorem dX8_want_6 : decode cX8_want 6 = .ok (.aload_n 0, 1) := by decide +kernel
theorem dX8_want_7 : decode cX8_want 7 = .ok (.iload_n 1, 1) := by decide +kernel
theorem dX8_want_8 : decode cX8_want 8 = .ok (.invokevirtual 303, 3) := by decide +kernel
theorem dX8_want_11 : decode cX8_want 11 = .ok (.iconst 1, 1) := by decide +kernel
theorem dX8_want_12 : decode cX8_want 12 = .ok (.invokevirtual 138, 3) := by decide +kernel
theorem dX8_want_15 : decode cX8_want 15 = .ok (.ifCond .ne 28, 3) := by decide +kernel
theorem dX8_want_18 : decode cX8_want 18 = .ok (.aload_n 0, 1) := by decide +kernel
theorem dX8_want_19 : decode cX8_want 19 = .ok (.iload_n 2, 1) := by decide +kernel
theorem dX8_want_20 : decode cX8_want 20 = .ok (.i2l, 1) := by decide +kernel
theorem dX8_want_21 : decode cX8_want 21 = .ok (.lconst 0, 1) := by decide +kernel
theorem dX8_want_22 : decode cX8_want 22 = .ok (.ldc2_w 308, 3) := by decide +kernel
theorem dX8_want_25 : decode cX8_want 25 = .ok (.invokestatic 116, 3) := by decide +kernel
theorem dX8_want_28 : decode cX8_want 28 = .ok (.ifCond .ne 7, 3) := by decide +kernel
theorem dX8_want_31 : decode cX8_want 31 = .ok (.iconst 1, 1) := by decide +kernel
theorem dX8_want_32 : decode cX8_want 32 = .ok (.goto 4, 3) := by decide +kernel
theorem dX8_want_35 : decode cX8_want 35 = .ok (.iconst 0, 1) := by decide +kernel
theorem dX8_want_36 : decode cX8_want 36 = .ok (.iconst 2, 1) := by decide +kernel
theorem dX8_want_37 : decode cX8_want 37 = .ok (.invokevirtual 138, 3) := by decide +kernel
theorem dX8_want_40 : decode cX8_want 40 = .ok (.ifCond .eq 4, 3) := by decide +kernel
theorem dX8_want_43 : decode cX8_want 43 = .ok (.return_, 1) := by decide +kernel
theorem dX8_want_44 : decode cX8_want 44 = .ok (.aload_n 0, 1) := by decide +kernel
theorem dX8_want_45 : decode cX8_want 45 = .ok (.getfield 36, 3) := by decide +kernel
theorem dX8_want_48 : decode cX8_want 48 = .ok (.iload_n 1, 1) := by decide +kernel
theorem dX8_want_49 : decode cX8_want 49 = .ok (.iload_n 2, 1) := by decide +kernel
theorem dX8_want_50 : decode cX8_want 50 = .ok (.iastore, 1) := by decide +kernel
theorem dX8_want_51 : decode cX8_want 51 = .ok (.return_, 1) := by decide +kernel
theorem dX8_ways_0 : decode cX8_ways 0 = .ok (.iconst 0, 1) := by decide +kernel
theorem dX8_ways_1 : decode cX8_ways 1 = .ok (.istore_n 1, 1) := by decide +kernel
theorem dX8_ways_2 : decode cX8_ways 2 = .ok (.iload_n 1, 1) := by decide +kernel
theorem dX8_ways_3 : decode cX8_ways 3 = .ok (.sipush 1600, 3) := by decide +kernel
theorem dX8_ways_6 : decode cX8_ways 6 = .ok (.if_icmp .ge 40, 3) := by decide +kernel
theorem dX8_ways_9 : decode cX8_ways 9 = .ok (.aload_n 0, 1) := by decide +kernel
theorem dX8_ways_10 : decode cX8_ways 10 = .ok (.getfield 89, 3) := by decide +kernel
theorem dX8_ways_13 : decode cX8_ways 13 = .ok (.iload_n 1, 1) := by decide +kernel
theorem dX8_ways_14 : decode cX8_ways 14 = .ok (.iload_n 1, 1) := by decide +kernel
theorem dX8_ways_15 : decode cX8_ways 15 = .ok (.bipush 40, 2) := by decide +kernel
theorem dX8_ways_17 : decode cX8_ways 17 = .ok (.irem, 1) := by decide +kernel
theorem dX8_ways_18 : decode cX8_ways 18 = .ok (.iload_n 1, 1) := by decide +kernel
theorem dX8_ways_19 : decode cX8_ways 19 = .ok (.bipush 40, 2) := by decide +kernel
theorem dX8_ways_21 : decode cX8_ways 21 = .ok (.idiv, 1) := by decide +kernel
theorem dX8_ways_22 : decode cX8_ways 22 = .ok (.if_icmp .ne 7, 3) := by decide +kernel
theorem dX8_ways_25 : decode cX8_ways 25 = .ok (.lconst 0, 1) := by decide +kernel
theorem dX8_ways_26 : decode cX8_ways 26 = .ok (.goto 6, 3) := by decide +kernel
theorem dX8_ways_29 : decode cX8_ways 29 = .ok (.ldc2_w 315, 3) := by decide +kernel
theorem dX8_ways_32 : decode cX8_ways 32 = .ok (.lastore, 1) := by decide +kernel
theorem dX8_ways_33 : decode cX8_ways 33 = .ok (.aload_n 0, 1) := by decide +kernel
theorem dX8_ways_34 : decode cX8_ways 34 = .ok (.getfield 92, 3) := by decide +kernel
theorem dX8_ways_37 : decode cX8_ways 37 = .ok (.iload_n 1, 1) := by decide +kernel
theorem dX8_ways_38 : decode cX8_ways 38 = .ok (.lconst 0, 1) := by decide +kernel
theorem dX8_ways_39 : decode cX8_ways 39 = .ok (.lastore, 1) := by decide +kernel
theorem dX8_ways_40 : decode cX8_ways 40 = .ok (.iinc 1 1, 3) := by decide +kernel
theorem dX8_ways_43 : decode cX8_ways 43 = .ok (.goto (-41), 3) := by decide +kernel
theorem dX8_ways_46 : decode cX8_ways 46 = .ok (.iconst 0, 1) := by decide +kernel
theorem dX8_ways_47 : decode cX8_ways 47 = .ok (.istore_n 1, 1) := by decide +kernel
theorem dX8_ways_48 : decode cX8_ways 48 = .ok (.iload_n 1, 1) := by decide +kernel
theorem dX8_ways_49 : decode cX8_ways 49 = .ok (.aload_n 0, 1) := by decide +kernel
theorem dX8_ways_50 : decode cX8_ways 50 = .ok (.getfield 312, 3) := by decide +kernel
theorem dX8_ways_53 : decode cX8_ways 53 = .ok (.if_icmp .ge 94, 3) := by decide +kernel
theorem dX8_ways_56 : decode cX8_ways 56 = .ok (.bipush 40, 2) := by decide +kernel
theorem dX8_ways_58 : decode cX8_ways 58 = .ok (.aload_n 0, 1) := by decide +kernel
theorem dX8_ways_59 : decode cX8_ways 59 = .ok (.getfield 61, 3) := by decide +kernel
theorem dX8_ways_62 : decode cX8_ways 62 = .ok (.iload_n 1, 1) := by decide +kernel
theorem dX8_ways_63 : decode cX8_ways 63 = .ok (.iaload, 1) := by decide +kernel
theorem dX8_ways_64 : decode cX8_ways 64 = .ok (.imul, 1) := by decide +kernel
theorem dX8_ways_65 : decode cX8_ways 65 = .ok (.aload_n 0, 1) := by decide +kernel
theorem dX8_ways_66 : decode cX8_ways 66 = .ok (.getfield 64, 3) := by decide +kernel
theorem dX8_ways_69 : decode cX8_ways 69 = .ok (.iload_n 1, 1) := by decide +kernel
theorem dX8_ways_70 : decode cX8_ways 70 = .ok (.iaload, 1) := by decide +kernel
theorem dX8_ways_71 : decode cX8_ways 71 = .ok (.iadd, 1) := by decide +kernel
theorem dX8_ways_72 : decode cX8_ways 72 = .ok (.istore_n 2, 1) := by decide +kernel
theorem dX8_ways_73 : decode cX8_ways 73 = .ok (.bipush 40, 2) := by decide +kernel
theorem dX8_ways_75 : decode cX8_ways 75 = .ok (.aload_n 0, 1) := by decide +kernel
theorem dX8_ways_76 : decode cX8_ways 76 = .ok (.getfield 64, 3) := by decide +kernel
theorem dX8_ways_79 : decode cX8_ways 79 = .ok (.iload_n 1, 1) := by decide +kernel
theorem dX8_ways_80 : decode cX8_ways 80 = .ok (.iaload, 1) := by decide +kernel
theorem dX8_ways_81 : decode cX8_ways 81 = .ok (.imul, 1) := by decide +kernel
theorem dX8_ways_82 : decode cX8_ways 82 = .ok (.aload_n 0, 1) := by decide +kernel
theorem dX8_ways_83 : decode cX8_ways 83 = .ok (.getfield 61, 3) := by decide +kernel
theorem dX8_ways_86 : decode cX8_ways 86 = .ok (.iload_n 1, 1) := by decide +kernel
theorem dX8_ways_87 : decode cX8_ways 87 = .ok (.iaload, 1) := by decide +kernel
theorem dX8_ways_88 : decode cX8_ways 88 = .ok (.iadd, 1) := by decide +kernel
theorem dX8_ways_89 : decode cX8_ways 89 = .ok (.istore_n 3, 1) := by decide +kernel
theorem dX8_ways_90 : decode cX8_ways 90 = .ok (.aload_n 0, 1) := by decide +kernel
theorem dX8_ways_91 : decode cX8_ways 91 = .ok (.getfield 89, 3) := by decide +kernel
theorem dX8_ways_94 : decode cX8_ways 94 = .ok (.iload_n 2, 1) := by decide +kernel
theorem dX8_ways_95 : decode cX8_ways 95 = .ok (.aload_n 0, 1) := by decide +kernel
theorem dX8_ways_96 : decode cX8_ways 96 = .ok (.getfield 67, 3) := by decide +kernel
theorem dX8_ways_99 : decode cX8_ways 99 = .ok (.iload_n 1, 1) := by decide +kernel
theorem dX8_ways_100 : decode cX8_ways 100 = .ok (.iaload, 1) := by decide +kernel
theorem dX8_ways_101 : decode cX8_ways 101 = .ok (.i2l, 1) := by decide +kernel
theorem dX8_ways_102 : decode cX8_ways 102 = .ok (.aload_n 0, 1) := by decide +kernel
theorem dX8_ways_103 : decode cX8_ways 103 = .ok (.getfield 89, 3) := by decide +kernel
theorem dX8_ways_106 : decode cX8_ways 106 = .ok (.iload_n 2, 1) := by decide +kernel
theorem dX8_ways_107 : decode cX8_ways 107 = .ok (.laload, 1) := by decide +kernel
theorem dX8_ways_108 : decode cX8_ways 108 = .ok (.lcmp, 1) := by decide +kernel
theorem dX8_ways_109 : decode cX8_ways 109 = .ok (.ifCond .ge 13, 3) := by decide +kernel
theorem dX8_ways_112 : decode cX8_ways 112 = .ok (.aload_n 0, 1) := by decide +kernel
theorem dX8_ways_113 : decode cX8_ways 113 = .ok (.getfield 67, 3) := by decide +kernel
theorem dX8_ways_116 : decode cX8_ways 116 = .ok (.iload_n 1, 1) := by decide +kernel
theorem dX8_ways_117 : decode cX8_ways 117 = .ok (.iaload, 1) := by decide +kernel
theorem dX8_ways_118 : decode cX8_ways 118 = .ok (.i2l, 1) := by decide +kernel
theorem dX8_ways_119 : decode cX8_ways 119 = .ok (.goto 9, 3) := by decide +kernel
theorem dX8_ways_122 : decode cX8_ways 122 = .ok (.aload_n 0, 1) := by decide +kernel
theorem dX8_ways_123 : decode cX8_ways 123 = .ok (.getfield 89, 3) := by decide +kernel
theorem dX8_ways_126 : decode cX8_ways 126 = .ok (.iload_n 2, 1) := by decide +kernel
theorem dX8_ways_127 : decode cX8_ways 127 = .ok (.laload, 1) := by decide +kernel
theorem dX8_ways_128 : decode cX8_ways 128 = .ok (.lastore, 1) := by decide +kernel
theorem dX8_ways_129 : decode cX8_ways 129 = .ok (.aload_n 0, 1) := by decide +kernel
theorem dX8_ways_130 : decode cX8_ways 130 = .ok (.getfield 89, 3) := by decide +kernel
theorem dX8_ways_133 : decode cX8_ways 133 = .ok (.iload_n 3, 1) := by decide +kernel
theorem dX8_ways_134 : decode cX8_ways 134 = .ok (.aload_n 0, 1) := by decide +kernel
theorem dX8_ways_135 : decode cX8_ways 135 = .ok (.getfield 89, 3) := by decide +kernel
theorem dX8_ways_138 : decode cX8_ways 138 = .ok (.iload_n 2, 1) := by decide +kernel
theorem dX8_ways_139 : decode cX8_ways 139 = .ok (.laload, 1) := by decide +kernel
theorem dX8_ways_140 : decode cX8_ways 140 = .ok (.lastore, 1) := by decide +kernel
theorem dX8_ways_141 : decode cX8_ways 141 = .ok (.iinc 1 1, 3) := by decide +kernel
theorem dX8_ways_144 : decode cX8_ways 144 = .ok (.goto (-96), 3) := by decide +kernel
theorem dX8_ways_147 : decode cX8_ways 147 = .ok (.iconst 0, 1) := by decide +kernel
theorem dX8_ways_148 : decode cX8_ways 148 = .ok (.istore_n 1, 1) := by decide +kernel
theorem dX8_ways_149 : decode cX8_ways 149 = .ok (.iload_n 1, 1) := by decide +kernel
theorem dX8_ways_150 : decode cX8_ways 150 = .ok (.aload_n 0, 1) := by decide +kernel
theorem dX8_ways_151 : decode cX8_ways 151 = .ok (.getfield 123, 3) := by decide +kernel
theorem dX8_ways_154 : decode cX8_ways 154 = .ok (.if_icmp .ge 96, 3) := by decide +kernel
theorem dX8_ways_157 : decode cX8_ways 157 = .ok (.iconst 0, 1) := by decide +kernel
theorem dX8_ways_158 : decode cX8_ways 158 = .ok (.istore_n 2, 1) := by decide +kernel
theorem dX8_ways_159 : decode cX8_ways 159 = .ok (.iload_n 2, 1) := by decide +kernel
theorem dX8_ways_160 : decode cX8_ways 160 = .ok (.aload_n 0, 1) := by decide +kernel
theorem dX8_ways_161 : decode cX8_ways 161 = .ok (.getfield 123, 3) := by decide +kernel
theorem dX8_ways_164 : decode cX8_ways 164 = .ok (.if_icmp .ge 80, 3) := by decide +kernel
theorem dX8_ways_167 : decode cX8_ways 167 = .ok (.iconst 0, 1) := by decide +kernel
theorem dX8_ways_168 : decode cX8_ways 168 = .ok (.istore_n 3, 1) := by decide +kernel
theorem dX8_ways_169 : decode cX8_ways 169 = .ok (.iload_n 3, 1) := by decide +kernel
theorem dX8_ways_170 : decode cX8_ways 170 = .ok (.aload_n 0, 1) := by decide +kernel
theorem dX8_ways_171 : decode cX8_ways 171 = .ok (.getfield 123, 3) := by decide +kernel
theorem dX8_ways_174 : decode cX8_ways 174 = .ok (.if_icmp .ge 64, 3) := by decide +kernel
theorem dX8_ways_177 : decode cX8_ways 177 = .ok (.aload_n 0, 1) := by decide +kernel
theorem dX8_ways_178 : decode cX8_ways 178 = .ok (.getfield 89, 3) := by decide +kernel
theorem dX8_ways_181 : decode cX8_ways 181 = .ok (.bipush 40, 2) := by decide +kernel
theorem dX8_ways_183 : decode cX8_ways 183 = .ok (.iload_n 2, 1) := by decide +kernel
theorem dX8_ways_184 : decode cX8_ways 184 = .ok (.imul, 1) := by decide +kernel
theorem dX8_ways_185 : decode cX8_ways 185 = .ok (.iload_n 1, 1) := by decide +kernel
theorem dX8_ways_186 : decode cX8_ways 186 = .ok (.iadd, 1) := by decide +kernel
theorem dX8_ways_187 : decode cX8_ways 187 = .ok (.laload, 1) := by decide +kernel
theorem dX8_ways_188 : decode cX8_ways 188 = .ok (.aload_n 0, 1) := by decide +kernel
theorem dX8_ways_189 : decode cX8_ways 189 = .ok (.getfield 89, 3) := by decide +kernel
theorem dX8_ways_192 : decode cX8_ways 192 = .ok (.bipush 40, 2) := by decide +kernel
theorem dX8_ways_194 : decode cX8_ways 194 = .ok (.iload_n 1, 1) := by decide +kernel
theorem dX8_ways_195 : decode cX8_ways 195 = .ok (.imul, 1) := by decide +kernel
theorem dX8_ways_196 : decode cX8_ways 196 = .ok (.iload_n 3, 1) := by decide +kernel
theorem dX8_ways_197 : decode cX8_ways 197 = .ok (.iadd, 1) := by decide +kernel
theorem dX8_ways_198 : decode cX8_ways 198 = .ok (.laload, 1) := by decide +kernel
theorem dX8_ways_199 : decode cX8_ways 199 = .ok (.ladd, 1) := by decide +kernel
theorem dX8_ways_200 : decode cX8_ways 200 = .ok (.lstore 4, 2) := by decide +kernel
theorem dX8_ways_202 : decode cX8_ways 202 = .ok (.lload 4, 2) := by decide +kernel
theorem dX8_ways_204 : decode cX8_ways 204 = .ok (.aload_n 0, 1) := by decide +kernel
theorem dX8_ways_205 : decode cX8_ways 205 = .ok (.getfield 89, 3) := by decide +kernel
theorem dX8_ways_208 : decode cX8_ways 208 = .ok (.bipush 40, 2) := by decide +kernel
theorem dX8_ways_210 : decode cX8_ways 210 = .ok (.iload_n 2, 1) := by decide +kernel
theorem dX8_ways_211 : decode cX8_ways 211 = .ok (.imul, 1) := by decide +kernel
theorem dX8_ways_212 : decode cX8_ways 212 = .ok (.iload_n 3, 1) := by decide +kernel
theorem dX8_ways_213 : decode cX8_ways 213 = .ok (.iadd, 1) := by decide +kernel
theorem dX8_ways_214 : decode cX8_ways 214 = .ok (.laload, 1) := by decide +kernel
theorem dX8_ways_215 : decode cX8_ways 215 = .ok (.lcmp, 1) := by decide +kernel
theorem dX8_ways_216 : decode cX8_ways 216 = .ok (.ifCond .ge 16, 3) := by decide +kernel
theorem dX8_ways_219 : decode cX8_ways 219 = .ok (.aload_n 0, 1) := by decide +kernel
theorem dX8_ways_220 : decode cX8_ways 220 = .ok (.getfield 89, 3) := by decide +kernel
theorem dX8_ways_223 : decode cX8_ways 223 = .ok (.bipush 40, 2) := by decide +kernel
theorem dX8_ways_225 : decode cX8_ways 225 = .ok (.iload_n 2, 1) := by decide +kernel
theorem dX8_ways_226 : decode cX8_ways 226 = .ok (.imul, 1) := by decide +kernel
theorem dX8_ways_227 : decode cX8_ways 227 = .ok (.iload_n 3, 1) := by decide +kernel
theorem dX8_ways_228 : decode cX8_ways 228 = .ok (.iadd, 1) := by decide +kernel
theorem dX8_ways_229 : decode cX8_ways 229 = .ok (.lload 4, 2) := by decide +kernel
theorem dX8_ways_231 : decode cX8_ways 231 = .ok (.lastore, 1) := by decide +kernel
theorem dX8_ways_232 : decode cX8_ways 232 = .ok (.iinc 3 1, 3) := by decide +kernel
theorem dX8_ways_235 : decode cX8_ways 235 = .ok (.goto (-66), 3) := by decide +kernel
theorem dX8_ways_238 : decode cX8_ways 238 = .ok (.iinc 2 1, 3) := by decide +kernel
theorem dX8_ways_241 : decode cX8_ways 241 = .ok (.goto (-82), 3) := by decide +kernel
theorem dX8_ways_244 : decode cX8_ways 244 = .ok (.iinc 1 1, 3) := by decide +kernel
theorem dX8_ways_247 : decode cX8_ways 247 = .ok (.goto (-98), 3) := by decide +kernel
theorem dX8_ways_250 : decode cX8_ways 250 = .ok (.return_, 1) := by decide +kernel
theorem dX8_seeks_0 : decode cX8_seeks 0 = .ok (.iconst 0, 1) := by decide +kernel
theorem dX8_seeks_1 : decode cX8_seeks 1 = .ok (.istore_n 1, 1) := by decide +kernel
theorem dX8_seeks_2 : decode cX8_seeks 2 = .ok (.iload_n 1, 1) := by decide +kernel
theorem dX8_seeks_3 : decode cX8_seeks 3 = .ok (.aload_n 0, 1) := by decide +kernel
theorem dX8_seeks_4 : decode cX8_seeks 4 = .ok (.getfield 123, 3) := by decide +kernel
theorem dX8_seeks_7 : decode cX8_seeks 7 = .ok (.if_icmp .ge 62, 3) := by decide +kernel
theorem dX8_seeks_10 : decode cX8_seeks 10 = .ok (.aload_n 0, 1) := by decide +kernel
theorem dX8_seeks_11 : decode cX8_seeks 11 = .ok (.getfield 98, 3) := by decide +kernel
theorem dX8_seeks_14 : decode cX8_seeks 14 = .ok (.iload_n 1, 1) := by decide +kernel
theorem dX8_seeks_15 : decode cX8_seeks 15 = .ok (.aload_n 0, 1) := by decide +kernel
theorem dX8_seeks_16 : decode cX8_seeks 16 = .ok (.getfield 95, 3) := by decide +kernel
theorem dX8_seeks_19 : decode cX8_seeks 19 = .ok (.iload_n 1, 1) := by decide +kernel
theorem dX8_seeks_20 : decode cX8_seeks 20 = .ok (.laload, 1) := by decide +kernel
theorem dX8_seeks_21 : decode cX8_seeks 21 = .ok (.lconst 0, 1) := by decide +kernel
theorem dX8_seeks_22 : decode cX8_seeks 22 = .ok (.lcmp, 1) := by decide +kernel
theorem dX8_seeks_23 : decode cX8_seeks 23 = .ok (.ifCond .le 7, 3) := by decide +kernel
theorem dX8_seeks_26 : decode cX8_seeks 26 = .ok (.lconst 0, 1) := by decide +kernel
theorem dX8_seeks_27 : decode cX8_seeks 27 = .ok (.goto 6, 3) := by decide +kernel
theorem dX8_seeks_30 : decode cX8_seeks 30 = .ok (.ldc2_w 315, 3) := by decide +kernel
theorem dX8_seeks_33 : decode cX8_seeks 33 = .ok (.lastore, 1) := by decide +kernel
theorem dX8_seeks_34 : decode cX8_seeks 34 = .ok (.aload_n 0, 1) := by decide +kernel
theorem dX8_seeks_35 : decode cX8_seeks 35 = .ok (.getfield 98, 3) := by decide +kernel
theorem dX8_seeks_38 : decode cX8_seeks 38 = .ok (.bipush 40, 2) := by decide +kernel
theorem dX8_seeks_40 : decode cX8_seeks 40 = .ok (.iload_n 1, 1) := by decide +kernel
theorem dX8_seeks_41 : decode cX8_seeks 41 = .ok (.iadd, 1) := by decide +kernel
theorem dX8_seeks_42 : decode cX8_seeks 42 = .ok (.ldc2_w 315, 3) := by decide +kernel
theorem dX8_seeks_45 : decode cX8_seeks 45 = .ok (.lastore, 1) := by decide +kernel
theorem dX8_seeks_46 : decode cX8_seeks 46 = .ok (.aload_n 0, 1) := by decide +kernel
theorem dX8_seeks_47 : decode cX8_seeks 47 = .ok (.getfield 101, 3) := by decide +kernel
theorem dX8_seeks_50 : decode cX8_seeks 50 = .ok (.iload_n 1, 1) := by decide +kernel
theorem dX8_seeks_51 : decode cX8_seeks 51 = .ok (.iconst (-1), 1) := by decide +kernel
theorem dX8_seeks_52 : decode cX8_seeks 52 = .ok (.iastore, 1) := by decide +kernel
theorem dX8_seeks_53 : decode cX8_seeks 53 = .ok (.aload_n 0, 1) := by decide +kernel
theorem dX8_seeks_54 : decode cX8_seeks 54 = .ok (.getfield 101, 3) := by decide +kernel
theorem dX8_seeks_57 : decode cX8_seeks 57 = .ok (.bipush 40, 2) := by decide +kernel
theorem dX8_seeks_59 : decode cX8_seeks 59 = .ok (.iload_n 1, 1) := by decide +kernel
theorem dX8_seeks_60 : decode cX8_seeks 60 = .ok (.iadd, 1) := by decide +kernel
theorem dX8_seeks_61 : decode cX8_seeks 61 = .ok (.iconst (-1), 1) := by decide +kernel
theorem dX8_seeks_62 : decode cX8_seeks 62 = .ok (.iastore, 1) := by decide +kernel
theorem dX8_seeks_63 : decode cX8_seeks 63 = .ok (.iinc 1 1, 3) := by decide +kernel
theorem dX8_seeks_66 : decode cX8_seeks 66 = .ok (.goto (-64), 3) := by decide +kernel
theorem dX8_seeks_69 : decode cX8_seeks 69 = .ok (.iconst 1, 1) := by decide +kernel
theorem dX8_seeks_70 : decode cX8_seeks 70 = .ok (.istore_n 1, 1) := by decide +kernel
theorem dX8_seeks_71 : decode cX8_seeks 71 = .ok (.iload_n 1, 1) := by decide +kernel
theorem dX8_seeks_72 : decode cX8_seeks 72 = .ok (.ifCond .eq 245, 3) := by decide +kernel
theorem dX8_seeks_75 : decode cX8_seeks 75 = .ok (.iconst 0, 1) := by decide +kernel
theorem dX8_seeks_76 : decode cX8_seeks 76 = .ok (.istore_n 1, 1) := by decide +kernel
theorem dX8_seeks_77 : decode cX8_seeks 77 = .ok (.iconst 0, 1) := by decide +kernel
theorem dX8_seeks_78 : decode cX8_seeks 78 = .ok (.istore_n 2, 1) := by decide +kernel
theorem dX8_seeks_79 : decode cX8_seeks 79 = .ok (.iload_n 2, 1) := by decide +kernel
theorem dX8_seeks_80 : decode cX8_seeks 80 = .ok (.aload_n 0, 1) := by decide +kernel
theorem dX8_seeks_81 : decode cX8_seeks 81 = .ok (.getfield 123, 3) := by decide +kernel
theorem dX8_seeks_84 : decode cX8_seeks 84 = .ok (.if_icmp .ge 230, 3) := by decide +kernel
theorem dX8_seeks_87 : decode cX8_seeks 87 = .ok (.iconst 0, 1) := by decide +kernel
theorem dX8_seeks_88 : decode cX8_seeks 88 = .ok (.istore_n 3, 1) := by decide +kernel
theorem dX8_seeks_89 : decode cX8_seeks 89 = .ok (.iload_n 3, 1) := by decide +kernel
theorem dX8_seeks_90 : decode cX8_seeks 90 = .ok (.aload_n 0, 1) := by decide +kernel
theorem dX8_seeks_91 : decode cX8_seeks 91 = .ok (.getfield 123, 3) := by decide +kernel
theorem dX8_seeks_94 : decode cX8_seeks 94 = .ok (.if_icmp .ge 214, 3) := by decide +kernel
theorem dX8_seeks_97 : decode cX8_seeks 97 = .ok (.aload_n 0, 1) := by decide +kernel
theorem dX8_seeks_98 : decode cX8_seeks 98 = .ok (.getfield 104, 3) := by decide +kernel
theorem dX8_seeks_101 : decode cX8_seeks 101 = .ok (.iload_n 2, 1) := by decide +kernel
theorem dX8_seeks_102 : decode cX8_seeks 102 = .ok (.baload, 1) := by decide +kernel
theorem dX8_seeks_103 : decode cX8_seeks 103 = .ok (.ifCond .eq 199, 3) := by decide +kernel
theorem dX8_seeks_106 : decode cX8_seeks 106 = .ok (.aload_n 0, 1) := by decide +kernel
theorem dX8_seeks_107 : decode cX8_seeks 107 = .ok (.getfield 107, 3) := by decide +kernel
theorem dX8_seeks_110 : decode cX8_seeks 110 = .ok (.iload_n 3, 1) := by decide +kernel
theorem dX8_seeks_111 : decode cX8_seeks 111 = .ok (.baload, 1) := by decide +kernel
theorem dX8_seeks_112 : decode cX8_seeks 112 = .ok (.ifCond .ne 6, 3) := by decide +kernel
theorem dX8_seeks_115 : decode cX8_seeks 115 = .ok (.goto 187, 3) := by decide +kernel
theorem dX8_seeks_118 : decode cX8_seeks 118 = .ok (.bipush 40, 2) := by decide +kernel
theorem dX8_seeks_120 : decode cX8_seeks 120 = .ok (.iload_n 2, 1) := by decide +kernel
theorem dX8_seeks_121 : decode cX8_seeks 121 = .ok (.imul, 1) := by decide +kernel
theorem dX8_seeks_122 : decode cX8_seeks 122 = .ok (.iload_n 3, 1) := by decide +kernel
theorem dX8_seeks_123 : decode cX8_seeks 123 = .ok (.iadd, 1) := by decide +kernel
theorem dX8_seeks_124 : decode cX8_seeks 124 = .ok (.istore 4, 2) := by decide +kernel
theorem dX8_seeks_126 : decode cX8_seeks 126 = .ok (.aload_n 0, 1) := by decide +kernel
theorem dX8_seeks_127 : decode cX8_seeks 127 = .ok (.getfield 98, 3) := by decide +kernel
theorem dX8_seeks_130 : decode cX8_seeks 130 = .ok (.iload_n 2, 1) := by decide +kernel
theorem dX8_seeks_131 : decode cX8_seeks 131 = .ok (.laload, 1) := by decide +kernel
theorem dX8_seeks_132 : decode cX8_seeks 132 = .ok (.ldc2_w 315, 3) := by decide +kernel
theorem dX8_seeks_135 : decode cX8_seeks 135 = .ok (.lcmp, 1) := by decide +kernel
theorem dX8_seeks_136 : decode cX8_seeks 136 = .ok (.ifCond .ge 79, 3) := by decide +kernel
theorem dX8_seeks_139 : decode cX8_seeks 139 = .ok (.aload_n 0, 1) := by decide +kernel
theorem dX8_seeks_140 : decode cX8_seeks 140 = .ok (.getfield 89, 3) := by decide +kernel
theorem dX8_seeks_143 : decode cX8_seeks 143 = .ok (.iload 4, 2) := by decide +kernel
theorem dX8_seeks_145 : decode cX8_seeks 145 = .ok (.laload, 1) := by decide +kernel
theorem dX8_seeks_146 : decode cX8_seeks 146 = .ok (.ldc2_w 315, 3) := by decide +kernel
theorem dX8_seeks_149 : decode cX8_seeks 149 = .ok (.lcmp, 1) := by decide +kernel
theorem dX8_seeks_150 : decode cX8_seeks 150 = .ok (.ifCond .ge 65, 3) := by decide +kernel
theorem dX8_seeks_153 : decode cX8_seeks 153 = .ok (.aload_n 0, 1) := by decide +kernel
theorem dX8_seeks_154 : decode cX8_seeks 154 = .ok (.getfield 98, 3) := by decide +kernel
theorem dX8_seeks_157 : decode cX8_seeks 157 = .ok (.iload_n 2, 1) := by decide +kernel
theorem dX8_seeks_158 : decode cX8_seeks 158 = .ok (.laload, 1) := by decide +kernel
theorem dX8_seeks_159 : decode cX8_seeks 159 = .ok (.aload_n 0, 1) := by decide +kernel
theorem dX8_seeks_160 : decode cX8_seeks 160 = .ok (.getfield 89, 3) := by decide +kernel
theorem dX8_seeks_163 : decode cX8_seeks 163 = .ok (.iload 4, 2) := by decide +kernel
theorem dX8_seeks_165 : decode cX8_seeks 165 = .ok (.laload, 1) := by decide +kernel
theorem dX8_seeks_166 : decode cX8_seeks 166 = .ok (.ladd, 1) := by decide +kernel
theorem dX8_seeks_167 : decode cX8_seeks 167 = .ok (.aload_n 0, 1) := by decide +kernel
theorem dX8_seeks_168 : decode cX8_seeks 168 = .ok (.getfield 98, 3) := by decide +kernel
theorem dX8_seeks_171 : decode cX8_seeks 171 = .ok (.bipush 40, 2) := by decide +kernel
theorem dX8_seeks_173 : decode cX8_seeks 173 = .ok (.iload_n 3, 1) := by decide +kernel
theorem dX8_seeks_174 : decode cX8_seeks 174 = .ok (.iadd, 1) := by decide +kernel
theorem dX8_seeks_175 : decode cX8_seeks 175 = .ok (.laload, 1) := by decide +kernel
theorem dX8_seeks_176 : decode cX8_seeks 176 = .ok (.lcmp, 1) := by decide +kernel
theorem dX8_seeks_177 : decode cX8_seeks 177 = .ok (.ifCond .ge 38, 3) := by decide +kernel
theorem dX8_seeks_180 : decode cX8_seeks 180 = .ok (.aload_n 0, 1) := by decide +kernel
theorem dX8_seeks_181 : decode cX8_seeks 181 = .ok (.getfield 98, 3) := by decide +kernel
theorem dX8_seeks_184 : decode cX8_seeks 184 = .ok (.bipush 40, 2) := by decide +kernel
theorem dX8_seeks_186 : decode cX8_seeks 186 = .ok (.iload_n 3, 1) := by decide +kernel
theorem dX8_seeks_187 : decode cX8_seeks 187 = .ok (.iadd, 1) := by decide +kernel
theorem dX8_seeks_188 : decode cX8_seeks 188 = .ok (.aload_n 0, 1) := by decide +kernel
theorem dX8_seeks_189 : decode cX8_seeks 189 = .ok (.getfield 98, 3) := by decide +kernel
theorem dX8_seeks_192 : decode cX8_seeks 192 = .ok (.iload_n 2, 1) := by decide +kernel
theorem dX8_seeks_193 : decode cX8_seeks 193 = .ok (.laload, 1) := by decide +kernel
theorem dX8_seeks_194 : decode cX8_seeks 194 = .ok (.aload_n 0, 1) := by decide +kernel
theorem dX8_seeks_195 : decode cX8_seeks 195 = .ok (.getfield 89, 3) := by decide +kernel
theorem dX8_seeks_198 : decode cX8_seeks 198 = .ok (.iload 4, 2) := by decide +kernel
theorem dX8_seeks_200 : decode cX8_seeks 200 = .ok (.laload, 1) := by decide +kernel
theorem dX8_seeks_201 : decode cX8_seeks 201 = .ok (.ladd, 1) := by decide +kernel
theorem dX8_seeks_202 : decode cX8_seeks 202 = .ok (.lastore, 1) := by decide +kernel
theorem dX8_seeks_203 : decode cX8_seeks 203 = .ok (.aload_n 0, 1) := by decide +kernel
theorem dX8_seeks_204 : decode cX8_seeks 204 = .ok (.getfield 101, 3) := by decide +kernel
theorem dX8_seeks_207 : decode cX8_seeks 207 = .ok (.bipush 40, 2) := by decide +kernel
theorem dX8_seeks_209 : decode cX8_seeks 209 = .ok (.iload_n 3, 1) := by decide +kernel
theorem dX8_seeks_210 : decode cX8_seeks 210 = .ok (.iadd, 1) := by decide +kernel
theorem dX8_seeks_211 : decode cX8_seeks 211 = .ok (.iload_n 2, 1) := by decide +kernel
theorem dX8_seeks_212 : decode cX8_seeks 212 = .ok (.iastore, 1) := by decide +kernel
theorem dX8_seeks_213 : decode cX8_seeks 213 = .ok (.iconst 1, 1) := by decide +kernel
theorem dX8_seeks_214 : decode cX8_seeks 214 = .ok (.istore_n 1, 1) := by decide +kernel
theorem dX8_seeks_215 : decode cX8_seeks 215 = .ok (.aload_n 0, 1) := by decide +kernel
theorem dX8_seeks_216 : decode cX8_seeks 216 = .ok (.getfield 92, 3) := by decide +kernel
theorem dX8_seeks_219 : decode cX8_seeks 219 = .ok (.iload 4, 2) := by decide +kernel
theorem dX8_seeks_221 : decode cX8_seeks 221 = .ok (.laload, 1) := by decide +kernel
theorem dX8_seeks_222 : decode cX8_seeks 222 = .ok (.lconst 0, 1) := by decide +kernel
theorem dX8_seeks_223 : decode cX8_seeks 223 = .ok (.lcmp, 1) := by decide +kernel
theorem dX8_seeks_224 : decode cX8_seeks 224 = .ok (.ifCond .le 78, 3) := by decide +kernel
theorem dX8_seeks_227 : decode cX8_seeks 227 = .ok (.aload_n 0, 1) := by decide +kernel
theorem dX8_seeks_228 : decode cX8_seeks 228 = .ok (.getfield 98, 3) := by decide +kernel
theorem dX8_seeks_231 : decode cX8_seeks 231 = .ok (.bipush 40, 2) := by decide +kernel
theorem dX8_seeks_233 : decode cX8_seeks 233 = .ok (.iload_n 3, 1) := by decide +kernel
theorem dX8_seeks_234 : decode cX8_seeks 234 = .ok (.iadd, 1) := by decide +kernel
theorem dX8_seeks_235 : decode cX8_seeks 235 = .ok (.laload, 1) := by decide +kernel
theorem dX8_seeks_236 : decode cX8_seeks 236 = .ok (.ldc2_w 315, 3) := by decide +kernel
theorem dX8_seeks_239 : decode cX8_seeks 239 = .ok (.lcmp, 1) := by decide +kernel
theorem dX8_seeks_240 : decode cX8_seeks 240 = .ok (.ifCond .ge 62, 3) := by decide +kernel
theorem dX8_seeks_243 : decode cX8_seeks 243 = .ok (.aload_n 0, 1) := by decide +kernel
theorem dX8_seeks_244 : decode cX8_seeks 244 = .ok (.getfield 98, 3) := by decide +kernel
theorem dX8_seeks_247 : decode cX8_seeks 247 = .ok (.bipush 40, 2) := by decide +kernel
theorem dX8_seeks_249 : decode cX8_seeks 249 = .ok (.iload_n 3, 1) := by decide +kernel
theorem dX8_seeks_250 : decode cX8_seeks 250 = .ok (.iadd, 1) := by decide +kernel
theorem dX8_seeks_251 : decode cX8_seeks 251 = .ok (.laload, 1) := by decide +kernel
theorem dX8_seeks_252 : decode cX8_seeks 252 = .ok (.aload_n 0, 1) := by decide +kernel
theorem dX8_seeks_253 : decode cX8_seeks 253 = .ok (.getfield 89, 3) := by decide +kernel
theorem dX8_seeks_256 : decode cX8_seeks 256 = .ok (.iload 4, 2) := by decide +kernel
theorem dX8_seeks_258 : decode cX8_seeks 258 = .ok (.laload, 1) := by decide +kernel
theorem dX8_seeks_259 : decode cX8_seeks 259 = .ok (.lsub, 1) := by decide +kernel
theorem dX8_seeks_260 : decode cX8_seeks 260 = .ok (.aload_n 0, 1) := by decide +kernel
theorem dX8_seeks_261 : decode cX8_seeks 261 = .ok (.getfield 98, 3) := by decide +kernel
theorem dX8_seeks_264 : decode cX8_seeks 264 = .ok (.iload_n 2, 1) := by decide +kernel
theorem dX8_seeks_265 : decode cX8_seeks 265 = .ok (.laload, 1) := by decide +kernel
theorem dX8_seeks_266 : decode cX8_seeks 266 = .ok (.lcmp, 1) := by decide +kernel
theorem dX8_seeks_267 : decode cX8_seeks 267 = .ok (.ifCond .ge 35, 3) := by decide +kernel
theorem dX8_seeks_270 : decode cX8_seeks 270 = .ok (.aload_n 0, 1) := by decide +kernel
theorem dX8_seeks_271 : decode cX8_seeks 271 = .ok (.getfield 98, 3) := by decide +kernel
theorem dX8_seeks_274 : decode cX8_seeks 274 = .ok (.iload_n 2, 1) := by decide +kernel
theorem dX8_seeks_275 : decode cX8_seeks 275 = .ok (.aload_n 0, 1) := by decide +kernel
theorem dX8_seeks_276 : decode cX8_seeks 276 = .ok (.getfield 98, 3) := by decide +kernel
theorem dX8_seeks_279 : decode cX8_seeks 279 = .ok (.bipush 40, 2) := by decide +kernel
theorem dX8_seeks_281 : decode cX8_seeks 281 = .ok (.iload_n 3, 1) := by decide +kernel
theorem dX8_seeks_282 : decode cX8_seeks 282 = .ok (.iadd, 1) := by decide +kernel
theorem dX8_seeks_283 : decode cX8_seeks 283 = .ok (.laload, 1) := by decide +kernel
theorem dX8_seeks_284 : decode cX8_seeks 284 = .ok (.aload_n 0, 1) := by decide +kernel
theorem dX8_seeks_285 : decode cX8_seeks 285 = .ok (.getfield 89, 3) := by decide +kernel
theorem dX8_seeks_288 : decode cX8_seeks 288 = .ok (.iload 4, 2) := by decide +kernel
theorem dX8_seeks_290 : decode cX8_seeks 290 = .ok (.laload, 1) := by decide +kernel
theorem dX8_seeks_291 : decode cX8_seeks 291 = .ok (.lsub, 1) := by decide +kernel
theorem dX8_seeks_292 : decode cX8_seeks 292 = .ok (.lastore, 1) := by decide +kernel
theorem dX8_seeks_293 : decode cX8_seeks 293 = .ok (.aload_n 0, 1) := by decide +kernel
theorem dX8_seeks_294 : decode cX8_seeks 294 = .ok (.getfield 101, 3) := by decide +kernel
theorem dX8_seeks_297 : decode cX8_seeks 297 = .ok (.iload_n 2, 1) := by decide +kernel
theorem dX8_seeks_298 : decode cX8_seeks 298 = .ok (.iload_n 3, 1) := by decide +kernel
theorem dX8_seeks_299 : decode cX8_seeks 299 = .ok (.iastore, 1) := by decide +kernel
theorem dX8_seeks_300 : decode cX8_seeks 300 = .ok (.iconst 1, 1) := by decide +kernel
theorem dX8_seeks_301 : decode cX8_seeks 301 = .ok (.istore_n 1, 1) := by decide +kernel
theorem dX8_seeks_302 : decode cX8_seeks 302 = .ok (.iinc 3 1, 3) := by decide +kernel
theorem dX8_seeks_305 : decode cX8_seeks 305 = .ok (.goto (-216), 3) := by decide +kernel
theorem dX8_seeks_308 : decode cX8_seeks 308 = .ok (.iinc 2 1, 3) := by decide +kernel
theorem dX8_seeks_311 : decode cX8_seeks 311 = .ok (.goto (-232), 3) := by decide +kernel
theorem dX8_seeks_314 : decode cX8_seeks 314 = .ok (.goto (-243), 3) := by decide +kernel
theorem dX8_seeks_317 : decode cX8_seeks 317 = .ok (.iconst (-1), 1) := by decide +kernel
theorem dX8_seeks_318 : decode cX8_seeks 318 = .ok (.istore_n 2, 1) := by decide +kernel
theorem dX8_seeks_319 : decode cX8_seeks 319 = .ok (.iconst 0, 1) := by decide +kernel
theorem dX8_seeks_320 : decode cX8_seeks 320 = .ok (.istore_n 3, 1) := by decide +kernel
theorem dX8_seeks_321 : decode cX8_seeks 321 = .ok (.iload_n 3, 1) := by decide +kernel
theorem dX8_seeks_322 : decode cX8_seeks 322 = .ok (.aload_n 0, 1) := by decide +kernel
theorem dX8_seeks_323 : decode cX8_seeks 323 = .ok (.getfield 123, 3) := by decide +kernel
theorem dX8_seeks_326 : decode cX8_seeks 326 = .ok (.if_icmp .ge 64, 3) := by decide +kernel
theorem dX8_seeks_329 : decode cX8_seeks 329 = .ok (.aload_n 0, 1) := by decide +kernel
theorem dX8_seeks_330 : decode cX8_seeks 330 = .ok (.getfield 95, 3) := by decide +kernel
theorem dX8_seeks_333 : decode cX8_seeks 333 = .ok (.iload_n 3, 1) := by decide +kernel
theorem dX8_seeks_334 : decode cX8_seeks 334 = .ok (.laload, 1) := by decide +kernel
theorem dX8_seeks_335 : decode cX8_seeks 335 = .ok (.lconst 0, 1) := by decide +kernel
theorem dX8_seeks_336 : decode cX8_seeks 336 = .ok (.lcmp, 1) := by decide +kernel
theorem dX8_seeks_337 : decode cX8_seeks 337 = .ok (.ifCond .ge 47, 3) := by decide +kernel
theorem dX8_seeks_340 : decode cX8_seeks 340 = .ok (.aload_n 0, 1) := by decide +kernel
theorem dX8_seeks_341 : decode cX8_seeks 341 = .ok (.getfield 98, 3) := by decide +kernel
theorem dX8_seeks_344 : decode cX8_seeks 344 = .ok (.bipush 40, 2) := by decide +kernel
theorem dX8_seeks_346 : decode cX8_seeks 346 = .ok (.iload_n 3, 1) := by decide +kernel
theorem dX8_seeks_347 : decode cX8_seeks 347 = .ok (.iadd, 1) := by decide +kernel
theorem dX8_seeks_348 : decode cX8_seeks 348 = .ok (.laload, 1) := by decide +kernel
theorem dX8_seeks_349 : decode cX8_seeks 349 = .ok (.ldc2_w 315, 3) := by decide +kernel
theorem dX8_seeks_352 : decode cX8_seeks 352 = .ok (.lcmp, 1) := by decide +kernel
theorem dX8_seeks_353 : decode cX8_seeks 353 = .ok (.ifCond .ge 31, 3) := by decide +kernel
theorem dX8_seeks_356 : decode cX8_seeks 356 = .ok (.iload_n 2, 1) := by decide +kernel
theorem dX8_seeks_357 : decode cX8_seeks 357 = .ok (.ifCond .lt 25, 3) := by decide +kernel
theorem dX8_seeks_360 : decode cX8_seeks 360 = .ok (.aload_n 0, 1) := by decide +kernel
theorem dX8_seeks_361 : decode cX8_seeks 361 = .ok (.getfield 98, 3) := by decide +kernel
theorem dX8_seeks_364 : decode cX8_seeks 364 = .ok (.bipush 40, 2) := by decide +kernel
theorem dX8_seeks_366 : decode cX8_seeks 366 = .ok (.iload_n 3, 1) := by decide +kernel
theorem dX8_seeks_367 : decode cX8_seeks 367 = .ok (.iadd, 1) := by decide +kernel
theorem dX8_seeks_368 : decode cX8_seeks 368 = .ok (.laload, 1) := by decide +kernel
theorem dX8_seeks_369 : decode cX8_seeks 369 = .ok (.aload_n 0, 1) := by decide +kernel
theorem dX8_seeks_370 : decode cX8_seeks 370 = .ok (.getfield 98, 3) := by decide +kernel
theorem dX8_seeks_373 : decode cX8_seeks 373 = .ok (.bipush 40, 2) := by decide +kernel
theorem dX8_seeks_375 : decode cX8_seeks 375 = .ok (.iload_n 2, 1) := by decide +kernel
theorem dX8_seeks_376 : decode cX8_seeks 376 = .ok (.iadd, 1) := by decide +kernel
theorem dX8_seeks_377 : decode cX8_seeks 377 = .ok (.laload, 1) := by decide +kernel
theorem dX8_seeks_378 : decode cX8_seeks 378 = .ok (.lcmp, 1) := by decide +kernel
theorem dX8_seeks_379 : decode cX8_seeks 379 = .ok (.ifCond .ge 5, 3) := by decide +kernel
theorem dX8_seeks_382 : decode cX8_seeks 382 = .ok (.iload_n 3, 1) := by decide +kernel
theorem dX8_seeks_383 : decode cX8_seeks 383 = .ok (.istore_n 2, 1) := by decide +kernel
theorem dX8_seeks_384 : decode cX8_seeks 384 = .ok (.iinc 3 1, 3) := by decide +kernel
theorem dX8_seeks_387 : decode cX8_seeks 387 = .ok (.goto (-66), 3) := by decide +kernel
theorem dX8_seeks_390 : decode cX8_seeks 390 = .ok (.iload_n 2, 1) := by decide +kernel
theorem dX8_seeks_391 : decode cX8_seeks 391 = .ok (.ireturn, 1) := by decide +kernel
theorem dX8_carries_0 : decode cX8_carries 0 = .ok (.aload_n 0, 1) := by decide +kernel
theorem dX8_carries_1 : decode cX8_carries 1 = .ok (.getfield 95, 3) := by decide +kernel
theorem dX8_carries_4 : decode cX8_carries 4 = .ok (.iload_n 1, 1) := by decide +kernel
theorem dX8_carries_5 : decode cX8_carries 5 = .ok (.laload, 1) := by decide +kernel
theorem dX8_carries_6 : decode cX8_carries 6 = .ok (.lneg, 1) := by decide +kernel
theorem dX8_carries_7 : decode cX8_carries 7 = .ok (.lstore_n 2, 1) := by decide +kernel
theorem dX8_carries_8 : decode cX8_carries 8 = .ok (.iload_n 1, 1) := by decide +kernel
theorem dX8_carries_9 : decode cX8_carries 9 = .ok (.istore 4, 2) := by decide +kernel
theorem dX8_carries_11 : decode cX8_carries 11 = .ok (.aload_n 0, 1) := by decide +kernel
theorem dX8_carries_12 : decode cX8_carries 12 = .ok (.getfield 101, 3) := by decide +kernel
theorem dX8_carries_15 : decode cX8_carries 15 = .ok (.bipush 40, 2) := by decide +kernel
theorem dX8_carries_17 : decode cX8_carries 17 = .ok (.iload 4, 2) := by decide +kernel
theorem dX8_carries_19 : decode cX8_carries 19 = .ok (.iadd, 1) := by decide +kernel
theorem dX8_carries_20 : decode cX8_carries 20 = .ok (.iaload, 1) := by decide +kernel
theorem dX8_carries_21 : decode cX8_carries 21 = .ok (.istore 5, 2) := by decide +kernel
theorem dX8_carries_23 : decode cX8_carries 23 = .ok (.aload_n 0, 1) := by decide +kernel
theorem dX8_carries_24 : decode cX8_carries 24 = .ok (.getfield 101, 3) := by decide +kernel
theorem dX8_carries_27 : decode cX8_carries 27 = .ok (.iload 5, 2) := by decide +kernel
theorem dX8_carries_29 : decode cX8_carries 29 = .ok (.iaload, 1) := by decide +kernel
theorem dX8_carries_30 : decode cX8_carries 30 = .ok (.ifCond .lt 45, 3) := by decide +kernel
theorem dX8_carries_33 : decode cX8_carries 33 = .ok (.aload_n 0, 1) := by decide +kernel
theorem dX8_carries_34 : decode cX8_carries 34 = .ok (.getfield 101, 3) := by decide +kernel
theorem dX8_carries_37 : decode cX8_carries 37 = .ok (.iload 5, 2) := by decide +kernel
theorem dX8_carries_39 : decode cX8_carries 39 = .ok (.iaload, 1) := by decide +kernel
theorem dX8_carries_40 : decode cX8_carries 40 = .ok (.istore 4, 2) := by decide +kernel
theorem dX8_carries_42 : decode cX8_carries 42 = .ok (.lload_n 2, 1) := by decide +kernel
theorem dX8_carries_43 : decode cX8_carries 43 = .ok (.aload_n 0, 1) := by decide +kernel
theorem dX8_carries_44 : decode cX8_carries 44 = .ok (.getfield 92, 3) := by decide +kernel
theorem dX8_carries_47 : decode cX8_carries 47 = .ok (.bipush 40, 2) := by decide +kernel
theorem dX8_carries_49 : decode cX8_carries 49 = .ok (.iload 5, 2) := by decide +kernel
theorem dX8_carries_51 : decode cX8_carries 51 = .ok (.imul, 1) := by decide +kernel
theorem dX8_carries_52 : decode cX8_carries 52 = .ok (.iload 4, 2) := by decide +kernel
theorem dX8_carries_54 : decode cX8_carries 54 = .ok (.iadd, 1) := by decide +kernel
theorem dX8_carries_55 : decode cX8_carries 55 = .ok (.laload, 1) := by decide +kernel
theorem dX8_carries_56 : decode cX8_carries 56 = .ok (.invokestatic 317, 3) := by decide +kernel
theorem dX8_carries_59 : decode cX8_carries 59 = .ok (.lstore_n 2, 1) := by decide +kernel
theorem dX8_carries_60 : decode cX8_carries 60 = .ok (.aload_n 0, 1) := by decide +kernel
theorem dX8_carries_61 : decode cX8_carries 61 = .ok (.getfield 101, 3) := by decide +kernel
theorem dX8_carries_64 : decode cX8_carries 64 = .ok (.bipush 40, 2) := by decide +kernel
theorem dX8_carries_66 : decode cX8_carries 66 = .ok (.iload 4, 2) := by decide +kernel
theorem dX8_carries_68 : decode cX8_carries 68 = .ok (.iadd, 1) := by decide +kernel
theorem dX8_carries_69 : decode cX8_carries 69 = .ok (.iaload, 1) := by decide +kernel
theorem dX8_carries_70 : decode cX8_carries 70 = .ok (.istore 5, 2) := by decide +kernel
theorem dX8_carries_72 : decode cX8_carries 72 = .ok (.goto (-49), 3) := by decide +kernel
theorem dX8_carries_75 : decode cX8_carries 75 = .ok (.lload_n 2, 1) := by decide +kernel
theorem dX8_carries_76 : decode cX8_carries 76 = .ok (.aload_n 0, 1) := by decide +kernel
theorem dX8_carries_77 : decode cX8_carries 77 = .ok (.getfield 95, 3) := by decide +kernel
theorem dX8_carries_80 : decode cX8_carries 80 = .ok (.iload 5, 2) := by decide +kernel
theorem dX8_carries_82 : decode cX8_carries 82 = .ok (.laload, 1) := by decide +kernel
theorem dX8_carries_83 : decode cX8_carries 83 = .ok (.invokestatic 317, 3) := by decide +kernel
theorem dX8_carries_86 : decode cX8_carries 86 = .ok (.lstore_n 2, 1) := by decide +kernel
theorem dX8_carries_87 : decode cX8_carries 87 = .ok (.aload_n 0, 1) := by decide +kernel
theorem dX8_carries_88 : decode cX8_carries 88 = .ok (.getfield 95, 3) := by decide +kernel
theorem dX8_carries_91 : decode cX8_carries 91 = .ok (.iload 5, 2) := by decide +kernel
theorem dX8_carries_93 : decode cX8_carries 93 = .ok (.dup2, 1) := by decide +kernel
theorem dX8_carries_94 : decode cX8_carries 94 = .ok (.laload, 1) := by decide +kernel
theorem dX8_carries_95 : decode cX8_carries 95 = .ok (.lload_n 2, 1) := by decide +kernel
theorem dX8_carries_96 : decode cX8_carries 96 = .ok (.lsub, 1) := by decide +kernel
theorem dX8_carries_97 : decode cX8_carries 97 = .ok (.lastore, 1) := by decide +kernel
theorem dX8_carries_98 : decode cX8_carries 98 = .ok (.aload_n 0, 1) := by decide +kernel
theorem dX8_carries_99 : decode cX8_carries 99 = .ok (.getfield 95, 3) := by decide +kernel
theorem dX8_carries_102 : decode cX8_carries 102 = .ok (.iload_n 1, 1) := by decide +kernel
theorem dX8_carries_103 : decode cX8_carries 103 = .ok (.dup2, 1) := by decide +kernel
theorem dX8_carries_104 : decode cX8_carries 104 = .ok (.laload, 1) := by decide +kernel
theorem dX8_carries_105 : decode cX8_carries 105 = .ok (.lload_n 2, 1) := by decide +kernel
theorem dX8_carries_106 : decode cX8_carries 106 = .ok (.ladd, 1) := by decide +kernel
theorem dX8_carries_107 : decode cX8_carries 107 = .ok (.lastore, 1) := by decide +kernel
theorem dX8_carries_108 : decode cX8_carries 108 = .ok (.lload_n 2, 1) := by decide +kernel
theorem dX8_carries_109 : decode cX8_carries 109 = .ok (.aload_n 0, 1) := by decide +kernel
theorem dX8_carries_110 : decode cX8_carries 110 = .ok (.getfield 98, 3) := by decide +kernel
theorem dX8_carries_113 : decode cX8_carries 113 = .ok (.bipush 40, 2) := by decide +kernel
theorem dX8_carries_115 : decode cX8_carries 115 = .ok (.iload_n 1, 1) := by decide +kernel
theorem dX8_carries_116 : decode cX8_carries 116 = .ok (.iadd, 1) := by decide +kernel
theorem dX8_carries_117 : decode cX8_carries 117 = .ok (.laload, 1) := by decide +kernel
theorem dX8_carries_118 : decode cX8_carries 118 = .ok (.lmul, 1) := by decide +kernel
theorem dX8_carries_119 : decode cX8_carries 119 = .ok (.lstore 6, 2) := by decide +kernel
theorem dX8_carries_121 : decode cX8_carries 121 = .ok (.iload_n 1, 1) := by decide +kernel
theorem dX8_carries_122 : decode cX8_carries 122 = .ok (.istore 4, 2) := by decide +kernel
theorem dX8_carries_124 : decode cX8_carries 124 = .ok (.aload_n 0, 1) := by decide +kernel
theorem dX8_carries_125 : decode cX8_carries 125 = .ok (.getfield 101, 3) := by decide +kernel
theorem dX8_carries_128 : decode cX8_carries 128 = .ok (.bipush 40, 2) := by decide +kernel
theorem dX8_carries_130 : decode cX8_carries 130 = .ok (.iload 4, 2) := by decide +kernel
theorem dX8_carries_132 : decode cX8_carries 132 = .ok (.iadd, 1) := by decide +kernel
theorem dX8_carries_133 : decode cX8_carries 133 = .ok (.iaload, 1) := by decide +kernel
theorem dX8_carries_134 : decode cX8_carries 134 = .ok (.istore 5, 2) := by decide +kernel
theorem dX8_carries_136 : decode cX8_carries 136 = .ok (.aload_n 0, 1) := by decide +kernel
theorem dX8_carries_137 : decode cX8_carries 137 = .ok (.getfield 92, 3) := by decide +kernel
theorem dX8_carries_140 : decode cX8_carries 140 = .ok (.bipush 40, 2) := by decide +kernel
theorem dX8_carries_142 : decode cX8_carries 142 = .ok (.iload 5, 2) := by decide +kernel
theorem dX8_carries_144 : decode cX8_carries 144 = .ok (.imul, 1) := by decide +kernel
theorem dX8_carries_145 : decode cX8_carries 145 = .ok (.iload 4, 2) := by decide +kernel
theorem dX8_carries_147 : decode cX8_carries 147 = .ok (.iadd, 1) := by decide +kernel
theorem dX8_carries_148 : decode cX8_carries 148 = .ok (.dup2, 1) := by decide +kernel
theorem dX8_carries_149 : decode cX8_carries 149 = .ok (.laload, 1) := by decide +kernel
theorem dX8_carries_150 : decode cX8_carries 150 = .ok (.lload_n 2, 1) := by decide +kernel
theorem dX8_carries_151 : decode cX8_carries 151 = .ok (.ladd, 1) := by decide +kernel
theorem dX8_carries_152 : decode cX8_carries 152 = .ok (.lastore, 1) := by decide +kernel
theorem dX8_carries_153 : decode cX8_carries 153 = .ok (.aload_n 0, 1) := by decide +kernel
theorem dX8_carries_154 : decode cX8_carries 154 = .ok (.getfield 101, 3) := by decide +kernel
theorem dX8_carries_157 : decode cX8_carries 157 = .ok (.iload 5, 2) := by decide +kernel
theorem dX8_carries_159 : decode cX8_carries 159 = .ok (.iaload, 1) := by decide +kernel
theorem dX8_carries_160 : decode cX8_carries 160 = .ok (.ifCond .lt 61, 3) := by decide +kernel
theorem dX8_carries_163 : decode cX8_carries 163 = .ok (.aload_n 0, 1) := by decide +kernel
theorem dX8_carries_164 : decode cX8_carries 164 = .ok (.getfield 101, 3) := by decide +kernel
theorem dX8_carries_167 : decode cX8_carries 167 = .ok (.iload 5, 2) := by decide +kernel
theorem dX8_carries_169 : decode cX8_carries 169 = .ok (.iaload, 1) := by decide +kernel
theorem dX8_carries_170 : decode cX8_carries 170 = .ok (.istore 4, 2) := by decide +kernel
theorem dX8_carries_172 : decode cX8_carries 172 = .ok (.aload_n 0, 1) := by decide +kernel
theorem dX8_carries_173 : decode cX8_carries 173 = .ok (.getfield 92, 3) := by decide +kernel
theorem dX8_carries_176 : decode cX8_carries 176 = .ok (.bipush 40, 2) := by decide +kernel
theorem dX8_carries_178 : decode cX8_carries 178 = .ok (.iload 5, 2) := by decide +kernel
theorem dX8_carries_180 : decode cX8_carries 180 = .ok (.imul, 1) := by decide +kernel
theorem dX8_carries_181 : decode cX8_carries 181 = .ok (.iload 4, 2) := by decide +kernel
theorem dX8_carries_183 : decode cX8_carries 183 = .ok (.iadd, 1) := by decide +kernel
theorem dX8_carries_184 : decode cX8_carries 184 = .ok (.dup2, 1) := by decide +kernel
theorem dX8_carries_185 : decode cX8_carries 185 = .ok (.laload, 1) := by decide +kernel
theorem dX8_carries_186 : decode cX8_carries 186 = .ok (.lload_n 2, 1) := by decide +kernel
theorem dX8_carries_187 : decode cX8_carries 187 = .ok (.lsub, 1) := by decide +kernel
theorem dX8_carries_188 : decode cX8_carries 188 = .ok (.lastore, 1) := by decide +kernel
theorem dX8_carries_189 : decode cX8_carries 189 = .ok (.aload_n 0, 1) := by decide +kernel
theorem dX8_carries_190 : decode cX8_carries 190 = .ok (.getfield 101, 3) := by decide +kernel
theorem dX8_carries_193 : decode cX8_carries 193 = .ok (.bipush 40, 2) := by decide +kernel
theorem dX8_carries_195 : decode cX8_carries 195 = .ok (.iload 4, 2) := by decide +kernel
theorem dX8_carries_197 : decode cX8_carries 197 = .ok (.iadd, 1) := by decide +kernel
theorem dX8_carries_198 : decode cX8_carries 198 = .ok (.iaload, 1) := by decide +kernel
theorem dX8_carries_199 : decode cX8_carries 199 = .ok (.istore 5, 2) := by decide +kernel
theorem dX8_carries_201 : decode cX8_carries 201 = .ok (.aload_n 0, 1) := by decide +kernel
theorem dX8_carries_202 : decode cX8_carries 202 = .ok (.getfield 92, 3) := by decide +kernel
theorem dX8_carries_205 : decode cX8_carries 205 = .ok (.bipush 40, 2) := by decide +kernel
theorem dX8_carries_207 : decode cX8_carries 207 = .ok (.iload 5, 2) := by decide +kernel
theorem dX8_carries_209 : decode cX8_carries 209 = .ok (.imul, 1) := by decide +kernel
theorem dX8_carries_210 : decode cX8_carries 210 = .ok (.iload 4, 2) := by decide +kernel
theorem dX8_carries_212 : decode cX8_carries 212 = .ok (.iadd, 1) := by decide +kernel
theorem dX8_carries_213 : decode cX8_carries 213 = .ok (.dup2, 1) := by decide +kernel
theorem dX8_carries_214 : decode cX8_carries 214 = .ok (.laload, 1) := by decide +kernel
theorem dX8_carries_215 : decode cX8_carries 215 = .ok (.lload_n 2, 1) := by decide +kernel
theorem dX8_carries_216 : decode cX8_carries 216 = .ok (.ladd, 1) := by decide +kernel
theorem dX8_carries_217 : decode cX8_carries 217 = .ok (.lastore, 1) := by decide +kernel
theorem dX8_carries_218 : decode cX8_carries 218 = .ok (.goto (-65), 3) := by decide +kernel
theorem dX8_carries_221 : decode cX8_carries 221 = .ok (.lload 6, 2) := by decide +kernel
theorem dX8_carries_223 : decode cX8_carries 223 = .ok (.lreturn, 1) := by decide +kernel
theorem dX8_least_0 : decode cX8_least 0 = .ok (.aload_n 0, 1) := by decide +kernel
theorem dX8_least_1 : decode cX8_least 1 = .ok (.iconst 0, 1) := by decide +kernel
theorem dX8_least_2 : decode cX8_least 2 = .ok (.putfield 110, 3) := by decide +kernel
theorem dX8_least_5 : decode cX8_least 5 = .ok (.aload_n 0, 1) := by decide +kernel
theorem dX8_least_6 : decode cX8_least 6 = .ok (.invokevirtual 323, 3) := by decide +kernel
theorem dX8_least_9 : decode cX8_least 9 = .ok (.lconst 0, 1) := by decide +kernel
theorem dX8_least_10 : decode cX8_least 10 = .ok (.lstore_n 1, 1) := by decide +kernel
theorem dX8_least_11 : decode cX8_least 11 = .ok (.iconst 0, 1) := by decide +kernel
theorem dX8_least_12 : decode cX8_least 12 = .ok (.istore_n 3, 1) := by decide +kernel
theorem dX8_least_13 : decode cX8_least 13 = .ok (.iload_n 3, 1) := by decide +kernel
theorem dX8_least_14 : decode cX8_least 14 = .ok (.aload_n 0, 1) := by decide +kernel
theorem dX8_least_15 : decode cX8_least 15 = .ok (.getfield 123, 3) := by decide +kernel
theorem dX8_least_18 : decode cX8_least 18 = .ok (.if_icmp .ge 89, 3) := by decide +kernel
theorem dX8_least_21 : decode cX8_least 21 = .ok (.aload_n 0, 1) := by decide +kernel
theorem dX8_least_22 : decode cX8_least 22 = .ok (.getfield 95, 3) := by decide +kernel
theorem dX8_least_25 : decode cX8_least 25 = .ok (.iload_n 3, 1) := by decide +kernel
theorem dX8_least_26 : decode cX8_least 26 = .ok (.aload_n 0, 1) := by decide +kernel
theorem dX8_least_27 : decode cX8_least 27 = .ok (.iload_n 3, 1) := by decide +kernel
theorem dX8_least_28 : decode cX8_least 28 = .ok (.invokevirtual 258, 3) := by decide +kernel
theorem dX8_least_31 : decode cX8_least 31 = .ok (.aload_n 0, 1) := by decide +kernel
theorem dX8_least_32 : decode cX8_least 32 = .ok (.getfield 36, 3) := by decide +kernel
theorem dX8_least_35 : decode cX8_least 35 = .ok (.iload_n 3, 1) := by decide +kernel
theorem dX8_least_36 : decode cX8_least 36 = .ok (.iaload, 1) := by decide +kernel
theorem dX8_least_37 : decode cX8_least 37 = .ok (.isub, 1) := by decide +kernel
theorem dX8_least_38 : decode cX8_least 38 = .ok (.i2l, 1) := by decide +kernel
theorem dX8_least_39 : decode cX8_least 39 = .ok (.lastore, 1) := by decide +kernel
theorem dX8_least_40 : decode cX8_least 40 = .ok (.aload_n 0, 1) := by decide +kernel
theorem dX8_least_41 : decode cX8_least 41 = .ok (.getfield 104, 3) := by decide +kernel
theorem dX8_least_44 : decode cX8_least 44 = .ok (.iload_n 3, 1) := by decide +kernel
theorem dX8_least_45 : decode cX8_least 45 = .ok (.aload_n 0, 1) := by decide +kernel
theorem dX8_least_46 : decode cX8_least 46 = .ok (.getfield 95, 3) := by decide +kernel
theorem dX8_least_49 : decode cX8_least 49 = .ok (.iload_n 3, 1) := by decide +kernel
theorem dX8_least_50 : decode cX8_least 50 = .ok (.laload, 1) := by decide +kernel
theorem dX8_least_51 : decode cX8_least 51 = .ok (.lconst 0, 1) := by decide +kernel
theorem dX8_least_52 : decode cX8_least 52 = .ok (.lcmp, 1) := by decide +kernel
theorem dX8_least_53 : decode cX8_least 53 = .ok (.ifCond .le 7, 3) := by decide +kernel
theorem dX8_least_56 : decode cX8_least 56 = .ok (.iconst 1, 1) := by decide +kernel
theorem dX8_least_57 : decode cX8_least 57 = .ok (.goto 4, 3) := by decide +kernel
theorem dX8_least_60 : decode cX8_least 60 = .ok (.iconst 0, 1) := by decide +kernel
theorem dX8_least_61 : decode cX8_least 61 = .ok (.bastore, 1) := by decide +kernel
theorem dX8_least_62 : decode cX8_least 62 = .ok (.aload_n 0, 1) := by decide +kernel
theorem dX8_least_63 : decode cX8_least 63 = .ok (.getfield 107, 3) := by decide +kernel
theorem dX8_least_66 : decode cX8_least 66 = .ok (.iload_n 3, 1) := by decide +kernel
theorem dX8_least_67 : decode cX8_least 67 = .ok (.aload_n 0, 1) := by decide +kernel
theorem dX8_least_68 : decode cX8_least 68 = .ok (.getfield 95, 3) := by decide +kernel
theorem dX8_least_71 : decode cX8_least 71 = .ok (.iload_n 3, 1) := by decide +kernel
theorem dX8_least_72 : decode cX8_least 72 = .ok (.laload, 1) := by decide +kernel
theorem dX8_least_73 : decode cX8_least 73 = .ok (.lconst 0, 1) := by decide +kernel
theorem dX8_least_74 : decode cX8_least 74 = .ok (.lcmp, 1) := by decide +kernel
theorem dX8_least_75 : decode cX8_least 75 = .ok (.ifCond .ge 7, 3) := by decide +kernel
theorem dX8_least_78 : decode cX8_least 78 = .ok (.iconst 1, 1) := by decide +kernel
theorem dX8_least_79 : decode cX8_least 79 = .ok (.goto 4, 3) := by decide +kernel
theorem dX8_least_82 : decode cX8_least 82 = .ok (.iconst 0, 1) := by decide +kernel
theorem dX8_least_83 : decode cX8_least 83 = .ok (.bastore, 1) := by decide +kernel
theorem dX8_least_84 : decode cX8_least 84 = .ok (.lload_n 1, 1) := by decide +kernel
theorem dX8_least_85 : decode cX8_least 85 = .ok (.aload_n 0, 1) := by decide +kernel
theorem dX8_least_86 : decode cX8_least 86 = .ok (.getfield 107, 3) := by decide +kernel
theorem dX8_least_89 : decode cX8_least 89 = .ok (.iload_n 3, 1) := by decide +kernel
theorem dX8_least_90 : decode cX8_least 90 = .ok (.baload, 1) := by decide +kernel
theorem dX8_least_91 : decode cX8_least 91 = .ok (.ifCond .eq 7, 3) := by decide +kernel
theorem dX8_least_94 : decode cX8_least 94 = .ok (.lconst 1, 1) := by decide +kernel
theorem dX8_least_95 : decode cX8_least 95 = .ok (.goto 4, 3) := by decide +kernel
theorem dX8_least_98 : decode cX8_least 98 = .ok (.lconst 0, 1) := by decide +kernel
theorem dX8_least_99 : decode cX8_least 99 = .ok (.ladd, 1) := by decide +kernel
theorem dX8_least_100 : decode cX8_least 100 = .ok (.lstore_n 1, 1) := by decide +kernel
theorem dX8_least_101 : decode cX8_least 101 = .ok (.iinc 3 1, 3) := by decide +kernel
theorem dX8_least_104 : decode cX8_least 104 = .ok (.goto (-91), 3) := by decide +kernel
theorem dX8_least_107 : decode cX8_least 107 = .ok (.lload_n 1, 1) := by decide +kernel
theorem dX8_least_108 : decode cX8_least 108 = .ok (.lconst 0, 1) := by decide +kernel
theorem dX8_least_109 : decode cX8_least 109 = .ok (.lcmp, 1) := by decide +kernel
theorem dX8_least_110 : decode cX8_least 110 = .ok (.ifCond .ne 5, 3) := by decide +kernel
theorem dX8_least_113 : decode cX8_least 113 = .ok (.lconst 0, 1) := by decide +kernel
theorem dX8_least_114 : decode cX8_least 114 = .ok (.lreturn, 1) := by decide +kernel
theorem dX8_least_115 : decode cX8_least 115 = .ok (.lconst 0, 1) := by decide +kernel
theorem dX8_least_116 : decode cX8_least 116 = .ok (.lstore_n 3, 1) := by decide +kernel
theorem dX8_least_117 : decode cX8_least 117 = .ok (.aload_n 0, 1) := by decide +kernel
theorem dX8_least_118 : decode cX8_least 118 = .ok (.invokevirtual 326, 3) := by decide +kernel
theorem dX8_least_121 : decode cX8_least 121 = .ok (.istore 5, 2) := by decide +kernel
theorem dX8_least_123 : decode cX8_least 123 = .ok (.iload 5, 2) := by decide +kernel
theorem dX8_least_125 : decode cX8_least 125 = .ok (.ifCond .lt 21, 3) := by decide +kernel
theorem dX8_least_128 : decode cX8_least 128 = .ok (.lload_n 3, 1) := by decide +kernel
theorem dX8_least_129 : decode cX8_least 129 = .ok (.aload_n 0, 1) := by decide +kernel
theorem dX8_least_130 : decode cX8_least 130 = .ok (.iload 5, 2) := by decide +kernel
theorem dX8_least_132 : decode cX8_least 132 = .ok (.invokevirtual 329, 3) := by decide +kernel
theorem dX8_least_135 : decode cX8_least 135 = .ok (.ladd, 1) := by decide +kernel
theorem dX8_least_136 : decode cX8_least 136 = .ok (.lstore_n 3, 1) := by decide +kernel
theorem dX8_least_137 : decode cX8_least 137 = .ok (.aload_n 0, 1) := by decide +kernel
theorem dX8_least_138 : decode cX8_least 138 = .ok (.invokevirtual 326, 3) := by decide +kernel
theorem dX8_least_141 : decode cX8_least 141 = .ok (.istore 5, 2) := by decide +kernel
theorem dX8_least_143 : decode cX8_least 143 = .ok (.goto (-20), 3) := by decide +kernel
theorem dX8_least_146 : decode cX8_least 146 = .ok (.iconst 0, 1) := by decide +kernel
theorem dX8_least_147 : decode cX8_least 147 = .ok (.istore 5, 2) := by decide +kernel
theorem dX8_least_149 : decode cX8_least 149 = .ok (.iload 5, 2) := by decide +kernel
theorem dX8_least_151 : decode cX8_least 151 = .ok (.aload_n 0, 1) := by decide +kernel
theorem dX8_least_152 : decode cX8_least 152 = .ok (.getfield 123, 3) := by decide +kernel
theorem dX8_least_155 : decode cX8_least 155 = .ok (.if_icmp .ge 25, 3) := by decide +kernel
theorem dX8_least_158 : decode cX8_least 158 = .ok (.aload_n 0, 1) := by decide +kernel
theorem dX8_least_159 : decode cX8_least 159 = .ok (.getfield 95, 3) := by decide +kernel
theorem dX8_least_162 : decode cX8_least 162 = .ok (.iload 5, 2) := by decide +kernel
theorem dX8_least_164 : decode cX8_least 164 = .ok (.laload, 1) := by decide +kernel
theorem dX8_least_165 : decode cX8_least 165 = .ok (.lconst 0, 1) := by decide +kernel
theorem dX8_least_166 : decode cX8_least 166 = .ok (.lcmp, 1) := by decide +kernel
theorem dX8_least_167 : decode cX8_least 167 = .ok (.ifCond .ge 7, 3) := by decide +kernel
theorem dX8_least_170 : decode cX8_least 170 = .ok (.ldc2_w 333, 3) := by decide +kernel
theorem dX8_least_173 : decode cX8_least 173 = .ok (.lreturn, 1) := by decide +kernel
theorem dX8_least_174 : decode cX8_least 174 = .ok (.iinc 5 1, 3) := by decide +kernel
theorem dX8_least_177 : decode cX8_least 177 = .ok (.goto (-28), 3) := by decide +kernel
theorem dX8_least_180 : decode cX8_least 180 = .ok (.lload_n 3, 1) := by decide +kernel
theorem dX8_least_181 : decode cX8_least 181 = .ok (.lreturn, 1) := by decide +kernel
theorem dX8_price_0 : decode cX8_price 0 = .ok (.aload_n 0, 1) := by decide +kernel
theorem dX8_price_1 : decode cX8_price 1 = .ok (.iconst 0, 1) := by decide +kernel
theorem dX8_price_2 : decode cX8_price 2 = .ok (.putfield 110, 3) := by decide +kernel
theorem dX8_price_5 : decode cX8_price 5 = .ok (.aload_n 0, 1) := by decide +kernel
theorem dX8_price_6 : decode cX8_price 6 = .ok (.aload_n 0, 1) := by decide +kernel
theorem dX8_price_7 : decode cX8_price 7 = .ok (.iload_n 1, 1) := by decide +kernel
theorem dX8_price_8 : decode cX8_price 8 = .ok (.invokevirtual 303, 3) := by decide +kernel
theorem dX8_price_11 : decode cX8_price 11 = .ok (.iconst 1, 1) := by decide +kernel
theorem dX8_price_12 : decode cX8_price 12 = .ok (.invokevirtual 138, 3) := by decide +kernel
theorem dX8_price_15 : decode cX8_price 15 = .ok (.ifCond .ne 30, 3) := by decide +kernel
theorem dX8_price_18 : decode cX8_price 18 = .ok (.aload_n 0, 1) := by decide +kernel
theorem dX8_price_19 : decode cX8_price 19 = .ok (.iload_n 2, 1) := by decide +kernel
theorem dX8_price_20 : decode cX8_price 20 = .ok (.i2l, 1) := by decide +kernel
theorem dX8_price_21 : decode cX8_price 21 = .ok (.ldc2_w 335, 3) := by decide +kernel
theorem dX8_price_24 : decode cX8_price 24 = .ok (.ldc2_w 337, 3) := by decide +kernel
theorem dX8_price_27 : decode cX8_price 27 = .ok (.invokestatic 116, 3) := by decide +kernel
theorem dX8_price_30 : decode cX8_price 30 = .ok (.ifCond .ne 7, 3) := by decide +kernel
theorem dX8_price_33 : decode cX8_price 33 = .ok (.iconst 1, 1) := by decide +kernel
theorem dX8_price_34 : decode cX8_price 34 = .ok (.goto 4, 3) := by decide +kernel
theorem dX8_price_37 : decode cX8_price 37 = .ok (.iconst 0, 1) := by decide +kernel
theorem dX8_price_38 : decode cX8_price 38 = .ok (.iconst 2, 1) := by decide +kernel
theorem dX8_price_39 : decode cX8_price 39 = .ok (.invokevirtual 138, 3) := by decide +kernel
theorem dX8_price_42 : decode cX8_price 42 = .ok (.ifCond .eq 4, 3) := by decide +kernel
theorem dX8_price_45 : decode cX8_price 45 = .ok (.return_, 1) := by decide +kernel
theorem dX8_price_46 : decode cX8_price 46 = .ok (.aload_n 0, 1) := by decide +kernel
theorem dX8_price_47 : decode cX8_price 47 = .ok (.getfield 39, 3) := by decide +kernel
theorem dX8_price_50 : decode cX8_price 50 = .ok (.iload_n 1, 1) := by decide +kernel
theorem dX8_price_51 : decode cX8_price 51 = .ok (.iload_n 2, 1) := by decide +kernel
theorem dX8_price_52 : decode cX8_price 52 = .ok (.iastore, 1) := by decide +kernel
theorem dX8_price_53 : decode cX8_price 53 = .ok (.return_, 1) := by decide +kernel
theorem dX8_judge_0 : decode cX8_judge 0 = .ok (.aload_n 0, 1) := by decide +kernel
theorem dX8_judge_1 : decode cX8_judge 1 = .ok (.iconst 0, 1) := by decide +kernel
theorem dX8_judge_2 : decode cX8_judge 2 = .ok (.putfield 110, 3) := by decide +kernel
theorem dX8_judge_5 : decode cX8_judge 5 = .ok (.iconst 1, 1) := by decide +kernel
theorem dX8_judge_6 : decode cX8_judge 6 = .ok (.istore_n 1, 1) := by decide +kernel
theorem dX8_judge_7 : decode cX8_judge 7 = .ok (.iconst 0, 1) := by decide +kernel
theorem dX8_judge_8 : decode cX8_judge 8 = .ok (.istore_n 2, 1) := by decide +kernel
theorem dX8_judge_9 : decode cX8_judge 9 = .ok (.iload_n 2, 1) := by decide +kernel
theorem dX8_judge_10 : decode cX8_judge 10 = .ok (.aload_n 0, 1) := by decide +kernel
theorem dX8_judge_11 : decode cX8_judge 11 = .ok (.getfield 312, 3) := by decide +kernel
theorem dX8_judge_14 : decode cX8_judge 14 = .ok (.if_icmp .ge 54, 3) := by decide +kernel
theorem dX8_judge_17 : decode cX8_judge 17 = .ok (.iload_n 1, 1) := by decide +kernel
theorem dX8_judge_18 : decode cX8_judge 18 = .ok (.ifCond .eq 42, 3) := by decide +kernel
theorem dX8_judge_21 : decode cX8_judge 21 = .ok (.aload_n 0, 1) := by decide +kernel
theorem dX8_judge_22 : decode cX8_judge 22 = .ok (.getfield 39, 3) := by decide +kernel
theorem dX8_judge_25 : decode cX8_judge 25 = .ok (.aload_n 0, 1) := by decide +kernel
theorem dX8_judge_26 : decode cX8_judge 26 = .ok (.getfield 61, 3) := by decide +kernel
theorem dX8_judge_29 : decode cX8_judge 29 = .ok (.iload_n 2, 1) := by decide +kernel
theorem dX8_judge_30 : decode cX8_judge 30 = .ok (.iaload, 1) := by decide +kernel
theorem dX8_judge_31 : decode cX8_judge 31 = .ok (.iaload, 1) := by decide +kernel
theorem dX8_judge_32 : decode cX8_judge 32 = .ok (.aload_n 0, 1) := by decide +kernel
theorem dX8_judge_33 : decode cX8_judge 33 = .ok (.getfield 39, 3) := by decide +kernel
theorem dX8_judge_36 : decode cX8_judge 36 = .ok (.aload_n 0, 1) := by decide +kernel
theorem dX8_judge_37 : decode cX8_judge 37 = .ok (.getfield 64, 3) := by decide +kernel
theorem dX8_judge_40 : decode cX8_judge 40 = .ok (.iload_n 2, 1) := by decide +kernel
theorem dX8_judge_41 : decode cX8_judge 41 = .ok (.iaload, 1) := by decide +kernel
theorem dX8_judge_42 : decode cX8_judge 42 = .ok (.iaload, 1) := by decide +kernel
theorem dX8_judge_43 : decode cX8_judge 43 = .ok (.isub, 1) := by decide +kernel
theorem dX8_judge_44 : decode cX8_judge 44 = .ok (.invokestatic 339, 3) := by decide +kernel
theorem dX8_judge_47 : decode cX8_judge 47 = .ok (.aload_n 0, 1) := by decide +kernel
theorem dX8_judge_48 : decode cX8_judge 48 = .ok (.getfield 67, 3) := by decide +kernel
theorem dX8_judge_51 : decode cX8_judge 51 = .ok (.iload_n 2, 1) := by decide +kernel
theorem dX8_judge_52 : decode cX8_judge 52 = .ok (.iaload, 1) := by decide +kernel
theorem dX8_judge_53 : decode cX8_judge 53 = .ok (.if_icmp .gt 7, 3) := by decide +kernel
theorem dX8_judge_56 : decode cX8_judge 56 = .ok (.iconst 1, 1) := by decide +kernel
theorem dX8_judge_57 : decode cX8_judge 57 = .ok (.goto 4, 3) := by decide +kernel
theorem dX8_judge_60 : decode cX8_judge 60 = .ok (.iconst 0, 1) := by decide +kernel
theorem dX8_judge_61 : decode cX8_judge 61 = .ok (.istore_n 1, 1) := by decide +kernel
theorem dX8_judge_62 : decode cX8_judge 62 = .ok (.iinc 2 1, 3) := by decide +kernel
theorem dX8_judge_65 : decode cX8_judge 65 = .ok (.goto (-56), 3) := by decide +kernel
theorem dX8_judge_68 : decode cX8_judge 68 = .ok (.aload_n 0, 1) := by decide +kernel
theorem dX8_judge_69 : decode cX8_judge 69 = .ok (.iload_n 1, 1) := by decide +kernel
theorem dX8_judge_70 : decode cX8_judge 70 = .ok (.ifCond .ne 7, 3) := by decide +kernel
theorem dX8_judge_73 : decode cX8_judge 73 = .ok (.iconst 1, 1) := by decide +kernel
theorem dX8_judge_74 : decode cX8_judge 74 = .ok (.goto 4, 3) := by decide +kernel
theorem dX8_judge_77 : decode cX8_judge 77 = .ok (.iconst 0, 1) := by decide +kernel
theorem dX8_judge_78 : decode cX8_judge 78 = .ok (.iconst 1, 1) := by decide +kernel
theorem dX8_judge_79 : decode cX8_judge 79 = .ok (.invokevirtual 138, 3) := by decide +kernel
theorem dX8_judge_82 : decode cX8_judge 82 = .ok (.ifCond .eq 5, 3) := by decide +kernel
theorem dX8_judge_85 : decode cX8_judge 85 = .ok (.lconst 0, 1) := by decide +kernel
theorem dX8_judge_86 : decode cX8_judge 86 = .ok (.lreturn, 1) := by decide +kernel
theorem dX8_judge_87 : decode cX8_judge 87 = .ok (.lconst 0, 1) := by decide +kernel
theorem dX8_judge_88 : decode cX8_judge 88 = .ok (.lstore_n 2, 1) := by decide +kernel
theorem dX8_judge_89 : decode cX8_judge 89 = .ok (.iconst 0, 1) := by decide +kernel
theorem dX8_judge_90 : decode cX8_judge 90 = .ok (.istore 4, 2) := by decide +kernel
theorem dX8_judge_92 : decode cX8_judge 92 = .ok (.iload 4, 2) := by decide +kernel
theorem dX8_judge_94 : decode cX8_judge 94 = .ok (.aload_n 0, 1) := by decide +kernel
theorem dX8_judge_95 : decode cX8_judge 95 = .ok (.getfield 123, 3) := by decide +kernel
theorem dX8_judge_98 : decode cX8_judge 98 = .ok (.if_icmp .ge 61, 3) := by decide +kernel
theorem dX8_judge_101 : decode cX8_judge 101 = .ok (.aload_n 0, 1) := by decide +kernel
theorem dX8_judge_102 : decode cX8_judge 102 = .ok (.iload 4, 2) := by decide +kernel
theorem dX8_judge_104 : decode cX8_judge 104 = .ok (.invokevirtual 258, 3) := by decide +kernel
theorem dX8_judge_107 : decode cX8_judge 107 = .ok (.aload_n 0, 1) := by decide +kernel
theorem dX8_judge_108 : decode cX8_judge 108 = .ok (.getfield 36, 3) := by decide +kernel
theorem dX8_judge_111 : decode cX8_judge 111 = .ok (.iload 4, 2) := by decide +kernel
theorem dX8_judge_113 : decode cX8_judge 113 = .ok (.iaload, 1) := by decide +kernel
theorem dX8_judge_114 : decode cX8_judge 114 = .ok (.isub, 1) := by decide +kernel
theorem dX8_judge_115 : decode cX8_judge 115 = .ok (.i2l, 1) := by decide +kernel
theorem dX8_judge_116 : decode cX8_judge 116 = .ok (.lstore 5, 2) := by decide +kernel
theorem dX8_judge_118 : decode cX8_judge 118 = .ok (.lload_n 2, 1) := by decide +kernel
theorem dX8_judge_119 : decode cX8_judge 119 = .ok (.lload 5, 2) := by decide +kernel
theorem dX8_judge_121 : decode cX8_judge 121 = .ok (.lconst 0, 1) := by decide +kernel
theorem dX8_judge_122 : decode cX8_judge 122 = .ok (.lcmp, 1) := by decide +kernel
theorem dX8_judge_123 : decode cX8_judge 123 = .ok (.ifCond .lt 13, 3) := by decide +kernel
theorem dX8_judge_126 : decode cX8_judge 126 = .ok (.aload_n 0, 1) := by decide +kernel
theorem dX8_judge_127 : decode cX8_judge 127 = .ok (.getfield 39, 3) := by decide +kernel
theorem dX8_judge_130 : decode cX8_judge 130 = .ok (.iload 4, 2) := by decide +kernel
theorem dX8_judge_132 : decode cX8_judge 132 = .ok (.iaload, 1) := by decide +kernel
theorem dX8_judge_133 : decode cX8_judge 133 = .ok (.ifCond .le 17, 3) := by decide +kernel
theorem dX8_judge_136 : decode cX8_judge 136 = .ok (.lload 5, 2) := by decide +kernel
theorem dX8_judge_138 : decode cX8_judge 138 = .ok (.aload_n 0, 1) := by decide +kernel
theorem dX8_judge_139 : decode cX8_judge 139 = .ok (.getfield 39, 3) := by decide +kernel
theorem dX8_judge_142 : decode cX8_judge 142 = .ok (.iload 4, 2) := by decide +kernel
theorem dX8_judge_144 : decode cX8_judge 144 = .ok (.iaload, 1) := by decide +kernel
theorem dX8_judge_145 : decode cX8_judge 145 = .ok (.i2l, 1) := by decide +kernel
theorem dX8_judge_146 : decode cX8_judge 146 = .ok (.lmul, 1) := by decide +kernel
theorem dX8_judge_147 : decode cX8_judge 147 = .ok (.goto 4, 3) := by decide +kernel
theorem dX8_judge_150 : decode cX8_judge 150 = .ok (.lconst 0, 1) := by decide +kernel
theorem dX8_judge_151 : decode cX8_judge 151 = .ok (.lsub, 1) := by decide +kernel
theorem dX8_judge_152 : decode cX8_judge 152 = .ok (.lstore_n 2, 1) := by decide +kernel
theorem dX8_judge_153 : decode cX8_judge 153 = .ok (.iinc 4 1, 3) := by decide +kernel
theorem dX8_judge_156 : decode cX8_judge 156 = .ok (.goto (-64), 3) := by decide +kernel
theorem dX8_judge_159 : decode cX8_judge 159 = .ok (.lload_n 2, 1) := by decide +kernel
theorem dX8_judge_160 : decode cX8_judge 160 = .ok (.lreturn, 1) := by decide +kernel
theorem dX8_count_0 : decode cX8_count 0 = .ok (.aload_n 0, 1) := by decide +kernel
theorem dX8_count_1 : decode cX8_count 1 = .ok (.iconst 0, 1) := by decide +kernel
theorem dX8_count_2 : decode cX8_count 2 = .ok (.putfield 110, 3) := by decide +kernel
theorem dX8_count_5 : decode cX8_count 5 = .ok (.iload_n 1, 1) := by decide +kernel
theorem dX8_count_6 : decode cX8_count 6 = .ok (.tableswitch 164 0 11 #[62, 68, 74, 80, 86, 92, 98, 104, 111, 118, 125, 157], 62) := by decide +kernel
theorem dX8_count_68 : decode cX8_count 68 = .ok (.aload_n 0, 1) := by decide +kernel
theorem dX8_count_69 : decode cX8_count 69 = .ok (.getfield 113, 3) := by decide +kernel
theorem dX8_count_72 : decode cX8_count 72 = .ok (.i2l, 1) := by decide +kernel
theorem dX8_count_73 : decode cX8_count 73 = .ok (.lreturn, 1) := by decide +kernel
theorem dX8_count_74 : decode cX8_count 74 = .ok (.aload_n 0, 1) := by decide +kernel
theorem dX8_count_75 : decode cX8_count 75 = .ok (.getfield 120, 3) := by decide +kernel
theorem dX8_count_78 : decode cX8_count 78 = .ok (.i2l, 1) := by decide +kernel
theorem dX8_count_79 : decode cX8_count 79 = .ok (.lreturn, 1) := by decide +kernel
theorem dX8_count_80 : decode cX8_count 80 = .ok (.aload_n 0, 1) := by decide +kernel
theorem dX8_count_81 : decode cX8_count 81 = .ok (.getfield 123, 3) := by decide +kernel
theorem dX8_count_84 : decode cX8_count 84 = .ok (.i2l, 1) := by decide +kernel
theorem dX8_count_85 : decode cX8_count 85 = .ok (.lreturn, 1) := by decide +kernel
theorem dX8_count_86 : decode cX8_count 86 = .ok (.aload_n 0, 1) := by decide +kernel
theorem dX8_count_87 : decode cX8_count 87 = .ok (.getfield 126, 3) := by decide +kernel
theorem dX8_count_90 : decode cX8_count 90 = .ok (.i2l, 1) := by decide +kernel
theorem dX8_count_91 : decode cX8_count 91 = .ok (.lreturn, 1) := by decide +kernel
theorem dX8_count_92 : decode cX8_count 92 = .ok (.aload_n 0, 1) := by decide +kernel
theorem dX8_count_93 : decode cX8_count 93 = .ok (.getfield 255, 3) := by decide +kernel
theorem dX8_count_96 : decode cX8_count 96 = .ok (.i2l, 1) := by decide +kernel
theorem dX8_count_97 : decode cX8_count 97 = .ok (.lreturn, 1) := by decide +kernel
theorem dX8_count_98 : decode cX8_count 98 = .ok (.aload_n 0, 1) := by decide +kernel
theorem dX8_count_99 : decode cX8_count 99 = .ok (.getfield 312, 3) := by decide +kernel
theorem dX8_count_102 : decode cX8_count 102 = .ok (.i2l, 1) := by decide +kernel
theorem dX8_count_103 : decode cX8_count 103 = .ok (.lreturn, 1) := by decide +kernel
theorem dX8_count_104 : decode cX8_count 104 = .ok (.aload_n 0, 1) := by decide +kernel
theorem dX8_count_105 : decode cX8_count 105 = .ok (.getfield 150, 3) := by decide +kernel
theorem dX8_count_108 : decode cX8_count 108 = .ok (.i2l, 1) := by decide +kernel
theorem dX8_count_109 : decode cX8_count 109 = .ok (.lreturn, 1) := by decide +kernel
theorem dX8_count_110 : decode cX8_count 110 = .ok (.aload_n 0, 1) := by decide +kernel
theorem dX8_count_111 : decode cX8_count 111 = .ok (.getfield 70, 3) := by decide +kernel
theorem dX8_count_114 : decode cX8_count 114 = .ok (.iconst 0, 1) := by decide +kernel
theorem dX8_count_115 : decode cX8_count 115 = .ok (.laload, 1) := by decide +kernel
theorem dX8_count_116 : decode cX8_count 116 = .ok (.lreturn, 1) := by decide +kernel
theorem dX8_count_117 : decode cX8_count 117 = .ok (.aload_n 0, 1) := by decide +kernel
theorem dX8_count_118 : decode cX8_count 118 = .ok (.getfield 70, 3) := by decide +kernel
theorem dX8_count_121 : decode cX8_count 121 = .ok (.iconst 1, 1) := by decide +kernel
theorem dX8_count_122 : decode cX8_count 122 = .ok (.laload, 1) := by decide +kernel
theorem dX8_count_123 : decode cX8_count 123 = .ok (.lreturn, 1) := by decide +kernel
theorem dX8_count_124 : decode cX8_count 124 = .ok (.aload_n 0, 1) := by decide +kernel
theorem dX8_count_125 : decode cX8_count 125 = .ok (.getfield 70, 3) := by decide +kernel
theorem dX8_count_128 : decode cX8_count 128 = .ok (.iconst 2, 1) := by decide +kernel
theorem dX8_count_129 : decode cX8_count 129 = .ok (.laload, 1) := by decide +kernel
theorem dX8_count_130 : decode cX8_count 130 = .ok (.lreturn, 1) := by decide +kernel
theorem dX8_count_131 : decode cX8_count 131 = .ok (.lconst 0, 1) := by decide +kernel
theorem dX8_count_132 : decode cX8_count 132 = .ok (.lstore_n 2, 1) := by decide +kernel
theorem dX8_count_133 : decode cX8_count 133 = .ok (.iconst 0, 1) := by decide +kernel
theorem dX8_count_134 : decode cX8_count 134 = .ok (.istore 4, 2) := by decide +kernel
theorem dX8_count_136 : decode cX8_count 136 = .ok (.iload 4, 2) := by decide +kernel
theorem dX8_count_138 : decode cX8_count 138 = .ok (.aload_n 0, 1) := by decide +kernel
theorem dX8_count_139 : decode cX8_count 139 = .ok (.getfield 123, 3) := by decide +kernel
theorem dX8_count_142 : decode cX8_count 142 = .ok (.if_icmp .ge 19, 3) := by decide +kernel
theorem dX8_count_145 : decode cX8_count 145 = .ok (.lload_n 2, 1) := by decide +kernel
theorem dX8_count_146 : decode cX8_count 146 = .ok (.aload_n 0, 1) := by decide +kernel
theorem dX8_count_147 : decode cX8_count 147 = .ok (.iload 4, 2) := by decide +kernel
theorem dX8_count_149 : decode cX8_count 149 = .ok (.invokevirtual 258, 3) := by decide +kernel
theorem dX8_count_152 : decode cX8_count 152 = .ok (.i2l, 1) := by decide +kernel
theorem dX8_count_153 : decode cX8_count 153 = .ok (.ladd, 1) := by decide +kernel
theorem dX8_count_154 : decode cX8_count 154 = .ok (.lstore_n 2, 1) := by decide +kernel
theorem dX8_count_155 : decode cX8_count 155 = .ok (.iinc 4 1, 3) := by decide +kernel
theorem dX8_count_158 : decode cX8_count 158 = .ok (.goto (-22), 3) := by decide +kernel
theorem dX8_count_161 : decode cX8_count 161 = .ok (.lload_n 2, 1) := by decide +kernel
theorem dX8_count_162 : decode cX8_count 162 = .ok (.lreturn, 1) := by decide +kernel
theorem dX8_count_163 : decode cX8_count 163 = .ok (.aload_n 0, 1) := by decide +kernel
theorem dX8_count_164 : decode cX8_count 164 = .ok (.getfield 70, 3) := by decide +kernel
theorem dX8_count_167 : decode cX8_count 167 = .ok (.iconst 4, 1) := by decide +kernel
theorem dX8_count_168 : decode cX8_count 168 = .ok (.laload, 1) := by decide +kernel
theorem dX8_count_169 : decode cX8_count 169 = .ok (.lreturn, 1) := by decide +kernel
theorem dX8_count_170 : decode cX8_count 170 = .ok (.ldc2_w 333, 3) := by decide +kernel
theorem dX8_count_173 : decode cX8_count 173 = .ok (.lreturn, 1) := by decide +kernel
