theorem dX0_init_0 : decode cX0_init 0 = .ok (.aload_n 0, 1) := by decide +kernel
theorem dX0_init_1 : decode cX0_init 1 = .ok (.invokespecial 1, 3) := by decide +kernel
theorem dX0_init_4 : decode cX0_init 4 = .ok (.aload_n 0, 1) := by decide +kernel
theorem dX0_init_5 : decode cX0_init 5 = .ok (.iload_n 1, 1) := by decide +kernel
theorem dX0_init_6 : decode cX0_init 6 = .ok (.putfield 7, 3) := by decide +kernel
theorem dX0_init_9 : decode cX0_init 9 = .ok (.aload_n 0, 1) := by decide +kernel
theorem dX0_init_10 : decode cX0_init 10 = .ok (.iload_n 2, 1) := by decide +kernel
theorem dX0_init_11 : decode cX0_init 11 = .ok (.putfield 13, 3) := by decide +kernel
theorem dX0_init_14 : decode cX0_init 14 = .ok (.aload_n 0, 1) := by decide +kernel
theorem dX0_init_15 : decode cX0_init 15 = .ok (.iload_n 3, 1) := by decide +kernel
theorem dX0_init_16 : decode cX0_init 16 = .ok (.putfield 16, 3) := by decide +kernel
theorem dX0_init_19 : decode cX0_init 19 = .ok (.aload_n 0, 1) := by decide +kernel
theorem dX0_init_20 : decode cX0_init 20 = .ok (.iload 4, 2) := by decide +kernel
theorem dX0_init_22 : decode cX0_init 22 = .ok (.putfield 19, 3) := by decide +kernel
theorem dX0_init_25 : decode cX0_init 25 = .ok (.return_, 1) := by decide +kernel
theorem dX1_init_0 : decode cX1_init 0 = .ok (.aload_n 0, 1) := by decide +kernel
theorem dX1_init_1 : decode cX1_init 1 = .ok (.invokespecial 3, 3) := by decide +kernel
theorem dX1_init_4 : decode cX1_init 4 = .ok (.aload_n 0, 1) := by decide +kernel
theorem dX1_init_5 : decode cX1_init 5 = .ok (.iconst 3, 1) := by decide +kernel
theorem dX1_init_6 : decode cX1_init 6 = .ok (.newarray .int, 2) := by decide +kernel
theorem dX1_init_8 : decode cX1_init 8 = .ok (.putfield 9, 3) := by decide +kernel
theorem dX1_init_11 : decode cX1_init 11 = .ok (.aload_n 0, 1) := by decide +kernel
theorem dX1_init_12 : decode cX1_init 12 = .ok (.iconst 3, 1) := by decide +kernel
theorem dX1_init_13 : decode cX1_init 13 = .ok (.newarray .int, 2) := by decide +kernel
theorem dX1_init_15 : decode cX1_init 15 = .ok (.putfield 15, 3) := by decide +kernel
theorem dX1_init_18 : decode cX1_init 18 = .ok (.aload_n 0, 1) := by decide +kernel
theorem dX1_init_19 : decode cX1_init 19 = .ok (.iconst 3, 1) := by decide +kernel
theorem dX1_init_20 : decode cX1_init 20 = .ok (.newarray .int, 2) := by decide +kernel
theorem dX1_init_22 : decode cX1_init 22 = .ok (.putfield 18, 3) := by decide +kernel
theorem dX1_init_25 : decode cX1_init 25 = .ok (.aload_n 0, 1) := by decide +kernel
theorem dX1_init_26 : decode cX1_init 26 = .ok (.iconst 3, 1) := by decide +kernel
theorem dX1_init_27 : decode cX1_init 27 = .ok (.newarray .int, 2) := by decide +kernel
theorem dX1_init_29 : decode cX1_init 29 = .ok (.putfield 21, 3) := by decide +kernel
theorem dX1_init_32 : decode cX1_init 32 = .ok (.aload_n 0, 1) := by decide +kernel
theorem dX1_init_33 : decode cX1_init 33 = .ok (.iconst 0, 1) := by decide +kernel
theorem dX1_init_34 : decode cX1_init 34 = .ok (.putfield 24, 3) := by decide +kernel
theorem dX1_init_37 : decode cX1_init 37 = .ok (.aload_n 0, 1) := by decide +kernel
theorem dX1_init_38 : decode cX1_init 38 = .ok (.iconst 0, 1) := by decide +kernel
theorem dX1_init_39 : decode cX1_init 39 = .ok (.putfield 28, 3) := by decide +kernel
theorem dX1_init_42 : decode cX1_init 42 = .ok (.aload_n 0, 1) := by decide +kernel
theorem dX1_init_43 : decode cX1_init 43 = .ok (.iconst 0, 1) := by decide +kernel
theorem dX1_init_44 : decode cX1_init 44 = .ok (.putfield 31, 3) := by decide +kernel
theorem dX1_init_47 : decode cX1_init 47 = .ok (.aload_n 0, 1) := by decide +kernel
theorem dX1_init_48 : decode cX1_init 48 = .ok (.iconst 0, 1) := by decide +kernel
theorem dX1_init_49 : decode cX1_init 49 = .ok (.putfield 35, 3) := by decide +kernel
theorem dX1_init_52 : decode cX1_init 52 = .ok (.aload_n 0, 1) := by decide +kernel
theorem dX1_init_53 : decode cX1_init 53 = .ok (.iconst (-1), 1) := by decide +kernel
theorem dX1_init_54 : decode cX1_init 54 = .ok (.putfield 38, 3) := by decide +kernel
theorem dX1_init_57 : decode cX1_init 57 = .ok (.aload_n 0, 1) := by decide +kernel
theorem dX1_init_58 : decode cX1_init 58 = .ok (.aload_n 1, 1) := by decide +kernel
theorem dX1_init_59 : decode cX1_init 59 = .ok (.putfield 41, 3) := by decide +kernel
theorem dX1_init_62 : decode cX1_init 62 = .ok (.aload_n 0, 1) := by decide +kernel
theorem dX1_init_63 : decode cX1_init 63 = .ok (.new 45, 3) := by decide +kernel
theorem dX1_init_66 : decode cX1_init 66 = .ok (.dup, 1) := by decide +kernel
theorem dX1_init_67 : decode cX1_init 67 = .ok (.aload_n 1, 1) := by decide +kernel
theorem dX1_init_68 : decode cX1_init 68 = .ok (.invokespecial 47, 3) := by decide +kernel
theorem dX1_init_71 : decode cX1_init 71 = .ok (.putfield 50, 3) := by decide +kernel
theorem dX1_init_74 : decode cX1_init 74 = .ok (.return_, 1) := by decide +kernel
theorem dX1_fail_0 : decode cX1_fail 0 = .ok (.aload_n 0, 1) := by decide +kernel
theorem dX1_fail_1 : decode cX1_fail 1 = .ok (.iload_n 2, 1) := by decide +kernel
theorem dX1_fail_2 : decode cX1_fail 2 = .ok (.putfield 38, 3) := by decide +kernel
theorem dX1_fail_5 : decode cX1_fail 5 = .ok (.iload_n 1, 1) := by decide +kernel
theorem dX1_fail_6 : decode cX1_fail 6 = .ok (.ireturn, 1) := by decide +kernel
theorem dX1_formError_0 : decode cX1_formError 0 = .ok (.aload_n 0, 1) := by decide +kernel
theorem dX1_formError_1 : decode cX1_formError 1 = .ok (.iconst (-1), 1) := by decide +kernel
theorem dX1_formError_2 : decode cX1_formError 2 = .ok (.putfield 38, 3) := by decide +kernel
theorem dX1_formError_5 : decode cX1_formError 5 = .ok (.aload_n 0, 1) := by decide +kernel
theorem dX1_formError_6 : decode cX1_formError 6 = .ok (.invokevirtual 54, 3) := by decide +kernel
theorem dX1_formError_9 : decode cX1_formError 9 = .ok (.ifCond .eq 7, 3) := by decide +kernel
theorem dX1_formError_12 : decode cX1_formError 12 = .ok (.iconst 0, 1) := by decide +kernel
theorem dX1_formError_13 : decode cX1_formError 13 = .ok (.goto 15, 3) := by decide +kernel
theorem dX1_formError_16 : decode cX1_formError 16 = .ok (.aload_n 0, 1) := by decide +kernel
theorem dX1_formError_17 : decode cX1_formError 17 = .ok (.iconst 1, 1) := by decide +kernel
theorem dX1_formError_18 : decode cX1_formError 18 = .ok (.aload_n 0, 1) := by decide +kernel
theorem dX1_formError_19 : decode cX1_formError 19 = .ok (.getfield 50, 3) := by decide +kernel
theorem dX1_formError_22 : decode cX1_formError 22 = .ok (.getfield 58, 3) := by decide +kernel
theorem dX1_formError_25 : decode cX1_formError 25 = .ok (.invokevirtual 61, 3) := by decide +kernel
theorem dX1_formError_28 : decode cX1_formError 28 = .ok (.ireturn, 1) := by decide +kernel
theorem dX1_isWellFormed_0 : decode cX1_isWellFormed 0 = .ok (.iconst 0, 1) := by decide +kernel
theorem dX1_isWellFormed_1 : decode cX1_isWellFormed 1 = .ok (.istore_n 1, 1) := by decide +kernel
theorem dX1_isWellFormed_2 : decode cX1_isWellFormed 2 = .ok (.iconst 0, 1) := by decide +kernel
theorem dX1_isWellFormed_3 : decode cX1_isWellFormed 3 = .ok (.istore_n 2, 1) := by decide +kernel
theorem dX1_isWellFormed_4 : decode cX1_isWellFormed 4 = .ok (.aload_n 0, 1) := by decide +kernel
theorem dX1_isWellFormed_5 : decode cX1_isWellFormed 5 = .ok (.getfield 50, 3) := by decide +kernel
theorem dX1_isWellFormed_8 : decode cX1_isWellFormed 8 = .ok (.iconst 0, 1) := by decide +kernel
theorem dX1_isWellFormed_9 : decode cX1_isWellFormed 9 = .ok (.invokevirtual 65, 3) := by decide +kernel
theorem dX1_isWellFormed_12 : decode cX1_isWellFormed 12 = .ok (.iconst 0, 1) := by decide +kernel
theorem dX1_isWellFormed_13 : decode cX1_isWellFormed 13 = .ok (.istore_n 3, 1) := by decide +kernel
theorem dX1_isWellFormed_14 : decode cX1_isWellFormed 14 = .ok (.iload_n 3, 1) := by decide +kernel
theorem dX1_isWellFormed_15 : decode cX1_isWellFormed 15 = .ok (.aload_n 0, 1) := by decide +kernel
theorem dX1_isWellFormed_16 : decode cX1_isWellFormed 16 = .ok (.getfield 41, 3) := by decide +kernel
theorem dX1_isWellFormed_19 : decode cX1_isWellFormed 19 = .ok (.getfield 69, 3) := by decide +kernel
theorem dX1_isWellFormed_22 : decode cX1_isWellFormed 22 = .ok (.if_icmp .gt 137, 3) := by decide +kernel
theorem dX1_isWellFormed_25 : decode cX1_isWellFormed 25 = .ok (.aload_n 0, 1) := by decide +kernel
theorem dX1_isWellFormed_26 : decode cX1_isWellFormed 26 = .ok (.getfield 50, 3) := by decide +kernel
theorem dX1_isWellFormed_29 : decode cX1_isWellFormed 29 = .ok (.invokevirtual 74, 3) := by decide +kernel
theorem dX1_isWellFormed_32 : decode cX1_isWellFormed 32 = .ok (.iload_n 2, 1) := by decide +kernel
theorem dX1_isWellFormed_33 : decode cX1_isWellFormed 33 = .ok (.ifCond .eq 21, 3) := by decide +kernel
theorem dX1_isWellFormed_36 : decode cX1_isWellFormed 36 = .ok (.iload_n 1, 1) := by decide +kernel
theorem dX1_isWellFormed_37 : decode cX1_isWellFormed 37 = .ok (.ifCond .ne 17, 3) := by decide +kernel
theorem dX1_isWellFormed_40 : decode cX1_isWellFormed 40 = .ok (.aload_n 0, 1) := by decide +kernel
theorem dX1_isWellFormed_41 : decode cX1_isWellFormed 41 = .ok (.getfield 50, 3) := by decide +kernel
theorem dX1_isWellFormed_44 : decode cX1_isWellFormed 44 = .ok (.getfield 77, 3) := by decide +kernel
theorem dX1_isWellFormed_47 : decode cX1_isWellFormed 47 = .ok (.bipush 46, 2) := by decide +kernel
theorem dX1_isWellFormed_49 : decode cX1_isWellFormed 49 = .ok (.if_icmp .ne 5, 3) := by decide +kernel
theorem dX1_isWellFormed_52 : decode cX1_isWellFormed 52 = .ok (.iconst 1, 1) := by decide +kernel
theorem dX1_isWellFormed_53 : decode cX1_isWellFormed 53 = .ok (.ireturn, 1) := by decide +kernel
theorem dX1_isWellFormed_54 : decode cX1_isWellFormed 54 = .ok (.iload_n 2, 1) := by decide +kernel
theorem dX1_isWellFormed_55 : decode cX1_isWellFormed 55 = .ok (.ifCond .eq 25, 3) := by decide +kernel
theorem dX1_isWellFormed_58 : decode cX1_isWellFormed 58 = .ok (.iload_n 1, 1) := by decide +kernel
theorem dX1_isWellFormed_59 : decode cX1_isWellFormed 59 = .ok (.ifCond .le 21, 3) := by decide +kernel
theorem dX1_isWellFormed_62 : decode cX1_isWellFormed 62 = .ok (.aload_n 0, 1) := by decide +kernel
theorem dX1_isWellFormed_63 : decode cX1_isWellFormed 63 = .ok (.getfield 50, 3) := by decide +kernel
theorem dX1_isWellFormed_66 : decode cX1_isWellFormed 66 = .ok (.getfield 77, 3) := by decide +kernel
theorem dX1_isWellFormed_69 : decode cX1_isWellFormed 69 = .ok (.bipush 125, 2) := by decide +kernel
theorem dX1_isWellFormed_71 : decode cX1_isWellFormed 71 = .ok (.if_icmp .ne 9, 3) := by decide +kernel
theorem dX1_isWellFormed_74 : decode cX1_isWellFormed 74 = .ok (.iinc 1 (-1), 3) := by decide +kernel
theorem dX1_isWellFormed_77 : decode cX1_isWellFormed 77 = .ok (.goto 76, 3) := by decide +kernel
theorem dX1_isWellFormed_80 : decode cX1_isWellFormed 80 = .ok (.aload_n 0, 1) := by decide +kernel
theorem dX1_isWellFormed_81 : decode cX1_isWellFormed 81 = .ok (.getfield 50, 3) := by decide +kernel
theorem dX1_isWellFormed_84 : decode cX1_isWellFormed 84 = .ok (.getfield 77, 3) := by decide +kernel
theorem dX1_isWellFormed_87 : decode cX1_isWellFormed 87 = .ok (.bipush 115, 2) := by decide +kernel
theorem dX1_isWellFormed_89 : decode cX1_isWellFormed 89 = .ok (.if_icmp .eq 5, 3) := by decide +kernel
theorem dX1_isWellFormed_92 : decode cX1_isWellFormed 92 = .ok (.iconst 0, 1) := by decide +kernel
theorem dX1_isWellFormed_93 : decode cX1_isWellFormed 93 = .ok (.ireturn, 1) := by decide +kernel
theorem dX1_isWellFormed_94 : decode cX1_isWellFormed 94 = .ok (.aload_n 0, 1) := by decide +kernel
theorem dX1_isWellFormed_95 : decode cX1_isWellFormed 95 = .ok (.getfield 50, 3) := by decide +kernel
theorem dX1_isWellFormed_98 : decode cX1_isWellFormed 98 = .ok (.getfield 80, 3) := by decide +kernel
theorem dX1_isWellFormed_101 : decode cX1_isWellFormed 101 = .ok (.bipush 8, 2) := by decide +kernel
theorem dX1_isWellFormed_103 : decode cX1_isWellFormed 103 = .ok (.if_icmp .ne 7, 3) := by decide +kernel
theorem dX1_isWellFormed_106 : decode cX1_isWellFormed 106 = .ok (.iconst 1, 1) := by decide +kernel
theorem dX1_isWellFormed_107 : decode cX1_isWellFormed 107 = .ok (.goto 4, 3) := by decide +kernel
theorem dX1_isWellFormed_110 : decode cX1_isWellFormed 110 = .ok (.iconst 0, 1) := by decide +kernel
theorem dX1_isWellFormed_111 : decode cX1_isWellFormed 111 = .ok (.istore 4, 2) := by decide +kernel
theorem dX1_isWellFormed_113 : decode cX1_isWellFormed 113 = .ok (.aload_n 0, 1) := by decide +kernel
theorem dX1_isWellFormed_114 : decode cX1_isWellFormed 114 = .ok (.aload_n 0, 1) := by decide +kernel
theorem dX1_isWellFormed_115 : decode cX1_isWellFormed 115 = .ok (.getfield 50, 3) := by decide +kernel
theorem dX1_isWellFormed_118 : decode cX1_isWellFormed 118 = .ok (.getfield 80, 3) := by decide +kernel
theorem dX1_isWellFormed_121 : decode cX1_isWellFormed 121 = .ok (.invokevirtual 83, 3) := by decide +kernel
theorem dX1_isWellFormed_124 : decode cX1_isWellFormed 124 = .ok (.ifCond .ne 5, 3) := by decide +kernel
theorem dX1_isWellFormed_127 : decode cX1_isWellFormed 127 = .ok (.iconst 0, 1) := by decide +kernel
theorem dX1_isWellFormed_128 : decode cX1_isWellFormed 128 = .ok (.ireturn, 1) := by decide +kernel
theorem dX1_isWellFormed_129 : decode cX1_isWellFormed 129 = .ok (.iload_n 1, 1) := by decide +kernel
theorem dX1_isWellFormed_130 : decode cX1_isWellFormed 130 = .ok (.iload 4, 2) := by decide +kernel
theorem dX1_isWellFormed_132 : decode cX1_isWellFormed 132 = .ok (.ifCond .eq 7, 3) := by decide +kernel
theorem dX1_isWellFormed_135 : decode cX1_isWellFormed 135 = .ok (.iconst 1, 1) := by decide +kernel
theorem dX1_isWellFormed_136 : decode cX1_isWellFormed 136 = .ok (.goto 4, 3) := by decide +kernel
theorem dX1_isWellFormed_139 : decode cX1_isWellFormed 139 = .ok (.iconst 0, 1) := by decide +kernel
theorem dX1_isWellFormed_140 : decode cX1_isWellFormed 140 = .ok (.iadd, 1) := by decide +kernel
theorem dX1_isWellFormed_141 : decode cX1_isWellFormed 141 = .ok (.istore_n 1, 1) := by decide +kernel
theorem dX1_isWellFormed_142 : decode cX1_isWellFormed 142 = .ok (.iload 4, 2) := by decide +kernel
theorem dX1_isWellFormed_144 : decode cX1_isWellFormed 144 = .ok (.ifCond .ne 7, 3) := by decide +kernel
theorem dX1_isWellFormed_147 : decode cX1_isWellFormed 147 = .ok (.iconst 1, 1) := by decide +kernel
theorem dX1_isWellFormed_148 : decode cX1_isWellFormed 148 = .ok (.goto 4, 3) := by decide +kernel
theorem dX1_isWellFormed_151 : decode cX1_isWellFormed 151 = .ok (.iconst 0, 1) := by decide +kernel
theorem dX1_isWellFormed_152 : decode cX1_isWellFormed 152 = .ok (.istore_n 2, 1) := by decide +kernel
theorem dX1_isWellFormed_153 : decode cX1_isWellFormed 153 = .ok (.iinc 3 1, 3) := by decide +kernel
theorem dX1_isWellFormed_156 : decode cX1_isWellFormed 156 = .ok (.goto (-142), 3) := by decide +kernel
theorem dX1_isWellFormed_159 : decode cX1_isWellFormed 159 = .ok (.iconst 0, 1) := by decide +kernel
theorem dX1_isWellFormed_160 : decode cX1_isWellFormed 160 = .ok (.ireturn, 1) := by decide +kernel
theorem dX1_hasRestOf_0 : decode cX1_hasRestOf 0 = .ok (.iload_n 1, 1) := by decide +kernel
theorem dX1_hasRestOf_1 : decode cX1_hasRestOf 1 = .ok (.invokestatic 87, 3) := by decide +kernel
theorem dX1_hasRestOf_4 : decode cX1_hasRestOf 4 = .ok (.astore_n 2, 1) := by decide +kernel
theorem dX1_hasRestOf_5 : decode cX1_hasRestOf 5 = .ok (.iconst 0, 1) := by decide +kernel
theorem dX1_hasRestOf_6 : decode cX1_hasRestOf 6 = .ok (.istore_n 3, 1) := by decide +kernel
theorem dX1_hasRestOf_7 : decode cX1_hasRestOf 7 = .ok (.iload_n 3, 1) := by decide +kernel
theorem dX1_hasRestOf_8 : decode cX1_hasRestOf 8 = .ok (.aload_n 2, 1) := by decide +kernel
theorem dX1_hasRestOf_9 : decode cX1_hasRestOf 9 = .ok (.invokevirtual 91, 3) := by decide +kernel
theorem dX1_hasRestOf_12 : decode cX1_hasRestOf 12 = .ok (.if_icmp .ge 33, 3) := by decide +kernel
theorem dX1_hasRestOf_15 : decode cX1_hasRestOf 15 = .ok (.aload_n 0, 1) := by decide +kernel
theorem dX1_hasRestOf_16 : decode cX1_hasRestOf 16 = .ok (.getfield 50, 3) := by decide +kernel
theorem dX1_hasRestOf_19 : decode cX1_hasRestOf 19 = .ok (.invokevirtual 74, 3) := by decide +kernel
theorem dX1_hasRestOf_22 : decode cX1_hasRestOf 22 = .ok (.aload_n 0, 1) := by decide +kernel
theorem dX1_hasRestOf_23 : decode cX1_hasRestOf 23 = .ok (.getfield 50, 3) := by decide +kernel
theorem dX1_hasRestOf_26 : decode cX1_hasRestOf 26 = .ok (.getfield 77, 3) := by decide +kernel
theorem dX1_hasRestOf_29 : decode cX1_hasRestOf 29 = .ok (.aload_n 2, 1) := by decide +kernel
theorem dX1_hasRestOf_30 : decode cX1_hasRestOf 30 = .ok (.iload_n 3, 1) := by decide +kernel
theorem dX1_hasRestOf_31 : decode cX1_hasRestOf 31 = .ok (.invokevirtual 96, 3) := by decide +kernel
theorem dX1_hasRestOf_34 : decode cX1_hasRestOf 34 = .ok (.if_icmp .eq 5, 3) := by decide +kernel
theorem dX1_hasRestOf_37 : decode cX1_hasRestOf 37 = .ok (.iconst 0, 1) := by decide +kernel
theorem dX1_hasRestOf_38 : decode cX1_hasRestOf 38 = .ok (.ireturn, 1) := by decide +kernel
theorem dX1_hasRestOf_39 : decode cX1_hasRestOf 39 = .ok (.iinc 3 1, 3) := by decide +kernel
theorem dX1_hasRestOf_42 : decode cX1_hasRestOf 42 = .ok (.goto (-35), 3) := by decide +kernel
theorem dX1_hasRestOf_45 : decode cX1_hasRestOf 45 = .ok (.iconst 1, 1) := by decide +kernel
theorem dX1_hasRestOf_46 : decode cX1_hasRestOf 46 = .ok (.ireturn, 1) := by decide +kernel
theorem dX1_formOf_0 : decode cX1_formOf 0 = .ok (.iload_n 0, 1) := by decide +kernel
theorem dX1_formOf_1 : decode cX1_formOf 1 = .ok (.tableswitch 69 0 8 #[51, 54, 57, 69, 69, 60, 69, 63, 66], 51) := by decide +kernel
theorem dX1_formOf_52 : decode cX1_formOf 52 = .ok (.ldc 100, 2) := by decide +kernel
theorem dX1_formOf_54 : decode cX1_formOf 54 = .ok (.areturn, 1) := by decide +kernel
theorem dX1_formOf_55 : decode cX1_formOf 55 = .ok (.ldc 100, 2) := by decide +kernel
theorem dX1_formOf_57 : decode cX1_formOf 57 = .ok (.areturn, 1) := by decide +kernel
theorem dX1_formOf_58 : decode cX1_formOf 58 = .ok (.ldc 102, 2) := by decide +kernel
theorem dX1_formOf_60 : decode cX1_formOf 60 = .ok (.areturn, 1) := by decide +kernel
theorem dX1_formOf_61 : decode cX1_formOf 61 = .ok (.ldc 104, 2) := by decide +kernel
theorem dX1_formOf_63 : decode cX1_formOf 63 = .ok (.areturn, 1) := by decide +kernel
theorem dX1_formOf_64 : decode cX1_formOf 64 = .ok (.ldc 106, 2) := by decide +kernel
theorem dX1_formOf_66 : decode cX1_formOf 66 = .ok (.areturn, 1) := by decide +kernel
theorem dX1_formOf_67 : decode cX1_formOf 67 = .ok (.ldc 108, 2) := by decide +kernel
theorem dX1_formOf_69 : decode cX1_formOf 69 = .ok (.areturn, 1) := by decide +kernel
theorem dX1_formOf_70 : decode cX1_formOf 70 = .ok (.ldc 110, 2) := by decide +kernel
theorem dX1_formOf_72 : decode cX1_formOf 72 = .ok (.areturn, 1) := by decide +kernel
theorem dX1_goThrough_0 : decode cX1_goThrough 0 = .ok (.aload_n 0, 1) := by decide +kernel
theorem dX1_goThrough_1 : decode cX1_goThrough 1 = .ok (.iconst 0, 1) := by decide +kernel
theorem dX1_goThrough_2 : decode cX1_goThrough 2 = .ok (.putfield 24, 3) := by decide +kernel
theorem dX1_goThrough_5 : decode cX1_goThrough 5 = .ok (.aload_n 0, 1) := by decide +kernel
theorem dX1_goThrough_6 : decode cX1_goThrough 6 = .ok (.iconst 0, 1) := by decide +kernel
theorem dX1_goThrough_7 : decode cX1_goThrough 7 = .ok (.putfield 28, 3) := by decide +kernel
theorem dX1_goThrough_10 : decode cX1_goThrough 10 = .ok (.aload_n 0, 1) := by decide +kernel
theorem dX1_goThrough_11 : decode cX1_goThrough 11 = .ok (.iconst 0, 1) := by decide +kernel
theorem dX1_goThrough_12 : decode cX1_goThrough 12 = .ok (.putfield 31, 3) := by decide +kernel
theorem dX1_goThrough_15 : decode cX1_goThrough 15 = .ok (.aload_n 0, 1) := by decide +kernel
theorem dX1_goThrough_16 : decode cX1_goThrough 16 = .ok (.iconst 0, 1) := by decide +kernel
theorem dX1_goThrough_17 : decode cX1_goThrough 17 = .ok (.putfield 35, 3) := by decide +kernel
theorem dX1_goThrough_20 : decode cX1_goThrough 20 = .ok (.aload_n 0, 1) := by decide +kernel
theorem dX1_goThrough_21 : decode cX1_goThrough 21 = .ok (.getfield 50, 3) := by decide +kernel
theorem dX1_goThrough_24 : decode cX1_goThrough 24 = .ok (.iconst 0, 1) := by decide +kernel
theorem dX1_goThrough_25 : decode cX1_goThrough 25 = .ok (.invokevirtual 65, 3) := by decide +kernel
theorem dX1_goThrough_28 : decode cX1_goThrough 28 = .ok (.iconst 0, 1) := by decide +kernel
theorem dX1_goThrough_29 : decode cX1_goThrough 29 = .ok (.istore_n 2, 1) := by decide +kernel
theorem dX1_goThrough_30 : decode cX1_goThrough 30 = .ok (.iload_n 2, 1) := by decide +kernel
theorem dX1_goThrough_31 : decode cX1_goThrough 31 = .ok (.ldc 112, 2) := by decide +kernel
theorem dX1_goThrough_33 : decode cX1_goThrough 33 = .ok (.if_icmp .ge 90, 3) := by decide +kernel
theorem dX1_goThrough_36 : decode cX1_goThrough 36 = .ok (.aload_n 0, 1) := by decide +kernel
theorem dX1_goThrough_37 : decode cX1_goThrough 37 = .ok (.getfield 50, 3) := by decide +kernel
theorem dX1_goThrough_40 : decode cX1_goThrough 40 = .ok (.invokevirtual 74, 3) := by decide +kernel
theorem dX1_goThrough_43 : decode cX1_goThrough 43 = .ok (.aload_n 0, 1) := by decide +kernel
theorem dX1_goThrough_44 : decode cX1_goThrough 44 = .ok (.getfield 50, 3) := by decide +kernel
theorem dX1_goThrough_47 : decode cX1_goThrough 47 = .ok (.getfield 77, 3) := by decide +kernel
theorem dX1_goThrough_50 : decode cX1_goThrough 50 = .ok (.bipush 46, 2) := by decide +kernel
theorem dX1_goThrough_52 : decode cX1_goThrough 52 = .ok (.if_icmp .ne 34, 3) := by decide +kernel
theorem dX1_goThrough_55 : decode cX1_goThrough 55 = .ok (.aload_n 0, 1) := by decide +kernel
theorem dX1_goThrough_56 : decode cX1_goThrough 56 = .ok (.getfield 31, 3) := by decide +kernel
theorem dX1_goThrough_59 : decode cX1_goThrough 59 = .ok (.ifCond .ne 10, 3) := by decide +kernel
theorem dX1_goThrough_62 : decode cX1_goThrough 62 = .ok (.aload_n 0, 1) := by decide +kernel
theorem dX1_goThrough_63 : decode cX1_goThrough 63 = .ok (.getfield 28, 3) := by decide +kernel
theorem dX1_goThrough_66 : decode cX1_goThrough 66 = .ok (.ifCond .eq 18, 3) := by decide +kernel
theorem dX1_goThrough_69 : decode cX1_goThrough 69 = .ok (.aload_n 0, 1) := by decide +kernel
theorem dX1_goThrough_70 : decode cX1_goThrough 70 = .ok (.iconst 3, 1) := by decide +kernel
theorem dX1_goThrough_71 : decode cX1_goThrough 71 = .ok (.aload_n 0, 1) := by decide +kernel
theorem dX1_goThrough_72 : decode cX1_goThrough 72 = .ok (.getfield 41, 3) := by decide +kernel
theorem dX1_goThrough_75 : decode cX1_goThrough 75 = .ok (.getfield 69, 3) := by decide +kernel
theorem dX1_goThrough_78 : decode cX1_goThrough 78 = .ok (.invokevirtual 61, 3) := by decide +kernel
theorem dX1_goThrough_81 : decode cX1_goThrough 81 = .ok (.goto 4, 3) := by decide +kernel
theorem dX1_goThrough_84 : decode cX1_goThrough 84 = .ok (.iconst 0, 1) := by decide +kernel
theorem dX1_goThrough_85 : decode cX1_goThrough 85 = .ok (.ireturn, 1) := by decide +kernel
theorem dX1_goThrough_86 : decode cX1_goThrough 86 = .ok (.aload_n 0, 1) := by decide +kernel
theorem dX1_goThrough_87 : decode cX1_goThrough 87 = .ok (.getfield 50, 3) := by decide +kernel
theorem dX1_goThrough_90 : decode cX1_goThrough 90 = .ok (.getfield 77, 3) := by decide +kernel
theorem dX1_goThrough_93 : decode cX1_goThrough 93 = .ok (.bipush 125, 2) := by decide +kernel
theorem dX1_goThrough_95 : decode cX1_goThrough 95 = .ok (.if_icmp .ne 10, 3) := by decide +kernel
theorem dX1_goThrough_98 : decode cX1_goThrough 98 = .ok (.aload_n 0, 1) := by decide +kernel
theorem dX1_goThrough_99 : decode cX1_goThrough 99 = .ok (.invokevirtual 113, 3) := by decide +kernel
theorem dX1_goThrough_102 : decode cX1_goThrough 102 = .ok (.goto 15, 3) := by decide +kernel
theorem dX1_goThrough_105 : decode cX1_goThrough 105 = .ok (.aload_n 0, 1) := by decide +kernel
theorem dX1_goThrough_106 : decode cX1_goThrough 106 = .ok (.aload_n 1, 1) := by decide +kernel
theorem dX1_goThrough_107 : decode cX1_goThrough 107 = .ok (.invokevirtual 116, 3) := by decide +kernel
theorem dX1_goThrough_110 : decode cX1_goThrough 110 = .ok (.istore_n 3, 1) := by decide +kernel
theorem dX1_goThrough_111 : decode cX1_goThrough 111 = .ok (.iload_n 3, 1) := by decide +kernel
theorem dX1_goThrough_112 : decode cX1_goThrough 112 = .ok (.ifCond .eq 5, 3) := by decide +kernel
theorem dX1_goThrough_115 : decode cX1_goThrough 115 = .ok (.iload_n 3, 1) := by decide +kernel
theorem dX1_goThrough_116 : decode cX1_goThrough 116 = .ok (.ireturn, 1) := by decide +kernel
theorem dX1_goThrough_117 : decode cX1_goThrough 117 = .ok (.iinc 2 1, 3) := by decide +kernel
theorem dX1_goThrough_120 : decode cX1_goThrough 120 = .ok (.goto (-90), 3) := by decide +kernel
theorem dX1_goThrough_123 : decode cX1_goThrough 123 = .ok (.aload_n 0, 1) := by decide +kernel
theorem dX1_goThrough_124 : decode cX1_goThrough 124 = .ok (.iconst 4, 1) := by decide +kernel
theorem dX1_goThrough_125 : decode cX1_goThrough 125 = .ok (.aload_n 0, 1) := by decide +kernel
theorem dX1_goThrough_126 : decode cX1_goThrough 126 = .ok (.getfield 50, 3) := by decide +kernel
theorem dX1_goThrough_129 : decode cX1_goThrough 129 = .ok (.getfield 58, 3) := by decide +kernel
theorem dX1_goThrough_132 : decode cX1_goThrough 132 = .ok (.invokevirtual 61, 3) := by decide +kernel
theorem dX1_goThrough_135 : decode cX1_goThrough 135 = .ok (.ireturn, 1) := by decide +kernel
theorem dX1_doStep_0 : decode cX1_doStep 0 = .ok (.aload_n 0, 1) := by decide +kernel
theorem dX1_doStep_1 : decode cX1_doStep 1 = .ok (.getfield 50, 3) := by decide +kernel
theorem dX1_doStep_4 : decode cX1_doStep 4 = .ok (.getfield 80, 3) := by decide +kernel
theorem dX1_doStep_7 : decode cX1_doStep 7 = .ok (.istore_n 2, 1) := by decide +kernel
theorem dX1_doStep_8 : decode cX1_doStep 8 = .ok (.aload_n 0, 1) := by decide +kernel
theorem dX1_doStep_9 : decode cX1_doStep 9 = .ok (.getfield 50, 3) := by decide +kernel
theorem dX1_doStep_12 : decode cX1_doStep 12 = .ok (.getfield 58, 3) := by decide +kernel
theorem dX1_doStep_15 : decode cX1_doStep 15 = .ok (.istore_n 3, 1) := by decide +kernel
theorem dX1_doStep_16 : decode cX1_doStep 16 = .ok (.aload_n 0, 1) := by decide +kernel
theorem dX1_doStep_17 : decode cX1_doStep 17 = .ok (.iload_n 2, 1) := by decide +kernel
theorem dX1_doStep_18 : decode cX1_doStep 18 = .ok (.invokevirtual 120, 3) := by decide +kernel
theorem dX1_doStep_21 : decode cX1_doStep 21 = .ok (.aload_n 0, 1) := by decide +kernel
theorem dX1_doStep_22 : decode cX1_doStep 22 = .ok (.iload_n 2, 1) := by decide +kernel
theorem dX1_doStep_23 : decode cX1_doStep 23 = .ok (.aload_n 1, 1) := by decide +kernel
theorem dX1_doStep_24 : decode cX1_doStep 24 = .ok (.invokevirtual 123, 3) := by decide +kernel
theorem dX1_doStep_27 : decode cX1_doStep 27 = .ok (.istore 4, 2) := by decide +kernel
theorem dX1_doStep_29 : decode cX1_doStep 29 = .ok (.iload 4, 2) := by decide +kernel
theorem dX1_doStep_31 : decode cX1_doStep 31 = .ok (.ifCond .eq 11, 3) := by decide +kernel
theorem dX1_doStep_34 : decode cX1_doStep 34 = .ok (.aload_n 0, 1) := by decide +kernel
theorem dX1_doStep_35 : decode cX1_doStep 35 = .ok (.iload 4, 2) := by decide +kernel
theorem dX1_doStep_37 : decode cX1_doStep 37 = .ok (.iload_n 3, 1) := by decide +kernel
theorem dX1_doStep_38 : decode cX1_doStep 38 = .ok (.invokevirtual 61, 3) := by decide +kernel
theorem dX1_doStep_41 : decode cX1_doStep 41 = .ok (.ireturn, 1) := by decide +kernel
theorem dX1_doStep_42 : decode cX1_doStep 42 = .ok (.aload_n 0, 1) := by decide +kernel
theorem dX1_doStep_43 : decode cX1_doStep 43 = .ok (.iload_n 2, 1) := by decide +kernel
theorem dX1_doStep_44 : decode cX1_doStep 44 = .ok (.invokevirtual 127, 3) := by decide +kernel
theorem dX1_doStep_47 : decode cX1_doStep 47 = .ok (.istore 5, 2) := by decide +kernel
theorem dX1_doStep_49 : decode cX1_doStep 49 = .ok (.iload 5, 2) := by decide +kernel
theorem dX1_doStep_51 : decode cX1_doStep 51 = .ok (.ifCond .lt 16, 3) := by decide +kernel
theorem dX1_doStep_54 : decode cX1_doStep 54 = .ok (.aload_n 0, 1) := by decide +kernel
theorem dX1_doStep_55 : decode cX1_doStep 55 = .ok (.iconst 2, 1) := by decide +kernel
theorem dX1_doStep_56 : decode cX1_doStep 56 = .ok (.aload_n 0, 1) := by decide +kernel
theorem dX1_doStep_57 : decode cX1_doStep 57 = .ok (.getfield 21, 3) := by decide +kernel
theorem dX1_doStep_60 : decode cX1_doStep 60 = .ok (.iload 5, 2) := by decide +kernel
theorem dX1_doStep_62 : decode cX1_doStep 62 = .ok (.iaload, 1) := by decide +kernel
theorem dX1_doStep_63 : decode cX1_doStep 63 = .ok (.invokevirtual 61, 3) := by decide +kernel
theorem dX1_doStep_66 : decode cX1_doStep 66 = .ok (.ireturn, 1) := by decide +kernel
theorem dX1_doStep_67 : decode cX1_doStep 67 = .ok (.iload_n 2, 1) := by decide +kernel
theorem dX1_doStep_68 : decode cX1_doStep 68 = .ok (.bipush 8, 2) := by decide +kernel
theorem dX1_doStep_70 : decode cX1_doStep 70 = .ok (.if_icmp .ne 10, 3) := by decide +kernel
theorem dX1_doStep_73 : decode cX1_doStep 73 = .ok (.aload_n 0, 1) := by decide +kernel
theorem dX1_doStep_74 : decode cX1_doStep 74 = .ok (.invokevirtual 131, 3) := by decide +kernel
theorem dX1_doStep_77 : decode cX1_doStep 77 = .ok (.goto 38, 3) := by decide +kernel
theorem dX1_doStep_80 : decode cX1_doStep 80 = .ok (.aload_n 0, 1) := by decide +kernel
theorem dX1_doStep_81 : decode cX1_doStep 81 = .ok (.iload_n 2, 1) := by decide +kernel
theorem dX1_doStep_82 : decode cX1_doStep 82 = .ok (.invokevirtual 134, 3) := by decide +kernel
theorem dX1_doStep_85 : decode cX1_doStep 85 = .ok (.aload_n 1, 1) := by decide +kernel
theorem dX1_doStep_86 : decode cX1_doStep 86 = .ok (.new 137, 3) := by decide +kernel
theorem dX1_doStep_89 : decode cX1_doStep 89 = .ok (.dup, 1) := by decide +kernel
theorem dX1_doStep_90 : decode cX1_doStep 90 = .ok (.iload_n 2, 1) := by decide +kernel
theorem dX1_doStep_91 : decode cX1_doStep 91 = .ok (.aload_n 0, 1) := by decide +kernel
theorem dX1_doStep_92 : decode cX1_doStep 92 = .ok (.getfield 18, 3) := by decide +kernel
theorem dX1_doStep_95 : decode cX1_doStep 95 = .ok (.iconst 0, 1) := by decide +kernel
theorem dX1_doStep_96 : decode cX1_doStep 96 = .ok (.iaload, 1) := by decide +kernel
theorem dX1_doStep_97 : decode cX1_doStep 97 = .ok (.aload_n 0, 1) := by decide +kernel
theorem dX1_doStep_98 : decode cX1_doStep 98 = .ok (.getfield 18, 3) := by decide +kernel
theorem dX1_doStep_101 : decode cX1_doStep 101 = .ok (.iconst 1, 1) := by decide +kernel
theorem dX1_doStep_102 : decode cX1_doStep 102 = .ok (.iaload, 1) := by decide +kernel
theorem dX1_doStep_103 : decode cX1_doStep 103 = .ok (.aload_n 0, 1) := by decide +kernel
theorem dX1_doStep_104 : decode cX1_doStep 104 = .ok (.getfield 18, 3) := by decide +kernel
theorem dX1_doStep_107 : decode cX1_doStep 107 = .ok (.iconst 2, 1) := by decide +kernel
theorem dX1_doStep_108 : decode cX1_doStep 108 = .ok (.iaload, 1) := by decide +kernel
theorem dX1_doStep_109 : decode cX1_doStep 109 = .ok (.invokespecial 139, 3) := by decide +kernel
theorem dX1_doStep_112 : decode cX1_doStep 112 = .ok (.invokevirtual 142, 3) := by decide +kernel
theorem dX1_doStep_115 : decode cX1_doStep 115 = .ok (.iconst 0, 1) := by decide +kernel
theorem dX1_doStep_116 : decode cX1_doStep 116 = .ok (.ireturn, 1) := by decide +kernel
theorem dX1_readValues_0 : decode cX1_readValues 0 = .ok (.iload_n 1, 1) := by decide +kernel
theorem dX1_readValues_1 : decode cX1_readValues 1 = .ok (.invokestatic 87, 3) := by decide +kernel
theorem dX1_readValues_4 : decode cX1_readValues 4 = .ok (.invokevirtual 91, 3) := by decide +kernel
theorem dX1_readValues_7 : decode cX1_readValues 7 = .ok (.istore_n 2, 1) := by decide +kernel
theorem dX1_readValues_8 : decode cX1_readValues 8 = .ok (.aload_n 0, 1) := by decide +kernel
theorem dX1_readValues_9 : decode cX1_readValues 9 = .ok (.getfield 18, 3) := by decide +kernel
theorem dX1_readValues_12 : decode cX1_readValues 12 = .ok (.iconst 0, 1) := by decide +kernel
theorem dX1_readValues_13 : decode cX1_readValues 13 = .ok (.invokestatic 148, 3) := by decide +kernel
theorem dX1_readValues_16 : decode cX1_readValues 16 = .ok (.iconst 0, 1) := by decide +kernel
theorem dX1_readValues_17 : decode cX1_readValues 17 = .ok (.istore_n 3, 1) := by decide +kernel
theorem dX1_readValues_18 : decode cX1_readValues 18 = .ok (.iload_n 3, 1) := by decide +kernel
theorem dX1_readValues_19 : decode cX1_readValues 19 = .ok (.iload_n 2, 1) := by decide +kernel
theorem dX1_readValues_20 : decode cX1_readValues 20 = .ok (.if_icmp .ge 47, 3) := by decide +kernel
theorem dX1_readValues_23 : decode cX1_readValues 23 = .ok (.aload_n 0, 1) := by decide +kernel
theorem dX1_readValues_24 : decode cX1_readValues 24 = .ok (.getfield 50, 3) := by decide +kernel
theorem dX1_readValues_27 : decode cX1_readValues 27 = .ok (.invokevirtual 74, 3) := by decide +kernel
theorem dX1_readValues_30 : decode cX1_readValues 30 = .ok (.iload_n 3, 1) := by decide +kernel
theorem dX1_readValues_31 : decode cX1_readValues 31 = .ok (.iconst 3, 1) := by decide +kernel
theorem dX1_readValues_32 : decode cX1_readValues 32 = .ok (.if_icmp .ge 29, 3) := by decide +kernel
theorem dX1_readValues_35 : decode cX1_readValues 35 = .ok (.aload_n 0, 1) := by decide +kernel
theorem dX1_readValues_36 : decode cX1_readValues 36 = .ok (.getfield 18, 3) := by decide +kernel
theorem dX1_readValues_39 : decode cX1_readValues 39 = .ok (.iload_n 3, 1) := by decide +kernel
theorem dX1_readValues_40 : decode cX1_readValues 40 = .ok (.aload_n 0, 1) := by decide +kernel
theorem dX1_readValues_41 : decode cX1_readValues 41 = .ok (.getfield 50, 3) := by decide +kernel
theorem dX1_readValues_44 : decode cX1_readValues 44 = .ok (.getfield 80, 3) := by decide +kernel
theorem dX1_readValues_47 : decode cX1_readValues 47 = .ok (.iastore, 1) := by decide +kernel
theorem dX1_readValues_48 : decode cX1_readValues 48 = .ok (.aload_n 0, 1) := by decide +kernel
theorem dX1_readValues_49 : decode cX1_readValues 49 = .ok (.getfield 21, 3) := by decide +kernel
theorem dX1_readValues_52 : decode cX1_readValues 52 = .ok (.iload_n 3, 1) := by decide +kernel
theorem dX1_readValues_53 : decode cX1_readValues 53 = .ok (.aload_n 0, 1) := by decide +kernel
theorem dX1_readValues_54 : decode cX1_readValues 54 = .ok (.getfield 50, 3) := by decide +kernel
theorem dX1_readValues_57 : decode cX1_readValues 57 = .ok (.getfield 58, 3) := by decide +kernel
theorem dX1_readValues_60 : decode cX1_readValues 60 = .ok (.iastore, 1) := by decide +kernel
theorem dX1_readValues_61 : decode cX1_readValues 61 = .ok (.iinc 3 1, 3) := by decide +kernel
theorem dX1_readValues_64 : decode cX1_readValues 64 = .ok (.goto (-46), 3) := by decide +kernel
theorem dX1_readValues_67 : decode cX1_readValues 67 = .ok (.return_, 1) := by decide +kernel
theorem dX1_errorAtWord_0 : decode cX1_errorAtWord 0 = .ok (.iload_n 1, 1) := by decide +kernel
theorem dX1_errorAtWord_1 : decode cX1_errorAtWord 1 = .ok (.bipush 8, 2) := by decide +kernel
theorem dX1_errorAtWord_3 : decode cX1_errorAtWord 3 = .ok (.if_icmp .ne 17, 3) := by decide +kernel
theorem dX1_errorAtWord_6 : decode cX1_errorAtWord 6 = .ok (.aload_n 0, 1) := by decide +kernel
theorem dX1_errorAtWord_7 : decode cX1_errorAtWord 7 = .ok (.getfield 24, 3) := by decide +kernel
theorem dX1_errorAtWord_10 : decode cX1_errorAtWord 10 = .ok (.iconst 3, 1) := by decide +kernel
theorem dX1_errorAtWord_11 : decode cX1_errorAtWord 11 = .ok (.if_icmp .lt 7, 3) := by decide +kernel
theorem dX1_errorAtWord_14 : decode cX1_errorAtWord 14 = .ok (.iconst 4, 1) := by decide +kernel
theorem dX1_errorAtWord_15 : decode cX1_errorAtWord 15 = .ok (.goto 4, 3) := by decide +kernel
theorem dX1_errorAtWord_18 : decode cX1_errorAtWord 18 = .ok (.iconst 0, 1) := by decide +kernel
theorem dX1_errorAtWord_19 : decode cX1_errorAtWord 19 = .ok (.ireturn, 1) := by decide +kernel
theorem dX1_errorAtWord_20 : decode cX1_errorAtWord 20 = .ok (.aload_n 0, 1) := by decide +kernel
theorem dX1_errorAtWord_21 : decode cX1_errorAtWord 21 = .ok (.iload_n 1, 1) := by decide +kernel
theorem dX1_errorAtWord_22 : decode cX1_errorAtWord 22 = .ok (.invokevirtual 154, 3) := by decide +kernel
theorem dX1_errorAtWord_25 : decode cX1_errorAtWord 25 = .ok (.ifCond .eq 5, 3) := by decide +kernel
theorem dX1_errorAtWord_28 : decode cX1_errorAtWord 28 = .ok (.iconst 3, 1) := by decide +kernel
theorem dX1_errorAtWord_29 : decode cX1_errorAtWord 29 = .ok (.ireturn, 1) := by decide +kernel
theorem dX1_errorAtWord_30 : decode cX1_errorAtWord 30 = .ok (.aload_n 2, 1) := by decide +kernel
theorem dX1_errorAtWord_31 : decode cX1_errorAtWord 31 = .ok (.getfield 157, 3) := by decide +kernel
theorem dX1_errorAtWord_34 : decode cX1_errorAtWord 34 = .ok (.bipush 60, 2) := by decide +kernel
theorem dX1_errorAtWord_36 : decode cX1_errorAtWord 36 = .ok (.if_icmp .lt 7, 3) := by decide +kernel
theorem dX1_errorAtWord_39 : decode cX1_errorAtWord 39 = .ok (.iconst 4, 1) := by decide +kernel
theorem dX1_errorAtWord_40 : decode cX1_errorAtWord 40 = .ok (.goto 4, 3) := by decide +kernel
theorem dX1_errorAtWord_43 : decode cX1_errorAtWord 43 = .ok (.iconst 0, 1) := by decide +kernel
theorem dX1_errorAtWord_44 : decode cX1_errorAtWord 44 = .ok (.ireturn, 1) := by decide +kernel
theorem dX1_isOutOfTurn_0 : decode cX1_isOutOfTurn 0 = .ok (.aload_n 0, 1) := by decide +kernel
theorem dX1_isOutOfTurn_1 : decode cX1_isOutOfTurn 1 = .ok (.getfield 28, 3) := by decide +kernel
theorem dX1_isOutOfTurn_4 : decode cX1_isOutOfTurn 4 = .ok (.iconst 1, 1) := by decide +kernel
theorem dX1_isOutOfTurn_5 : decode cX1_isOutOfTurn 5 = .ok (.aload_n 0, 1) := by decide +kernel
theorem dX1_isOutOfTurn_6 : decode cX1_isOutOfTurn 6 = .ok (.getfield 18, 3) := by decide +kernel
theorem dX1_isOutOfTurn_9 : decode cX1_isOutOfTurn 9 = .ok (.iconst 0, 1) := by decide +kernel
theorem dX1_isOutOfTurn_10 : decode cX1_isOutOfTurn 10 = .ok (.iaload, 1) := by decide +kernel
theorem dX1_isOutOfTurn_11 : decode cX1_isOutOfTurn 11 = .ok (.ishl, 1) := by decide +kernel
theorem dX1_isOutOfTurn_12 : decode cX1_isOutOfTurn 12 = .ok (.iand, 1) := by decide +kernel
theorem dX1_isOutOfTurn_13 : decode cX1_isOutOfTurn 13 = .ok (.ifCond .eq 7, 3) := by decide +kernel
theorem dX1_isOutOfTurn_16 : decode cX1_isOutOfTurn 16 = .ok (.iconst 1, 1) := by decide +kernel
theorem dX1_isOutOfTurn_17 : decode cX1_isOutOfTurn 17 = .ok (.goto 4, 3) := by decide +kernel
theorem dX1_isOutOfTurn_20 : decode cX1_isOutOfTurn 20 = .ok (.iconst 0, 1) := by decide +kernel
theorem dX1_isOutOfTurn_21 : decode cX1_isOutOfTurn 21 = .ok (.istore_n 2, 1) := by decide +kernel
theorem dX1_isOutOfTurn_22 : decode cX1_isOutOfTurn 22 = .ok (.iload_n 1, 1) := by decide +kernel
theorem dX1_isOutOfTurn_23 : decode cX1_isOutOfTurn 23 = .ok (.tableswitch 102 0 7 #[45, 47, 57, 102, 102, 102, 62, 82], 45) := by decide +kernel
theorem dX1_isOutOfTurn_68 : decode cX1_isOutOfTurn 68 = .ok (.iload_n 2, 1) := by decide +kernel
theorem dX1_isOutOfTurn_69 : decode cX1_isOutOfTurn 69 = .ok (.ireturn, 1) := by decide +kernel
theorem dX1_isOutOfTurn_70 : decode cX1_isOutOfTurn 70 = .ok (.iload_n 2, 1) := by decide +kernel
theorem dX1_isOutOfTurn_71 : decode cX1_isOutOfTurn 71 = .ok (.ifCond .ne 7, 3) := by decide +kernel
theorem dX1_isOutOfTurn_74 : decode cX1_isOutOfTurn 74 = .ok (.iconst 1, 1) := by decide +kernel
theorem dX1_isOutOfTurn_75 : decode cX1_isOutOfTurn 75 = .ok (.goto 4, 3) := by decide +kernel
theorem dX1_isOutOfTurn_78 : decode cX1_isOutOfTurn 78 = .ok (.iconst 0, 1) := by decide +kernel
theorem dX1_isOutOfTurn_79 : decode cX1_isOutOfTurn 79 = .ok (.ireturn, 1) := by decide +kernel
theorem dX1_isOutOfTurn_80 : decode cX1_isOutOfTurn 80 = .ok (.aload_n 0, 1) := by decide +kernel
theorem dX1_isOutOfTurn_81 : decode cX1_isOutOfTurn 81 = .ok (.getfield 31, 3) := by decide +kernel
theorem dX1_isOutOfTurn_84 : decode cX1_isOutOfTurn 84 = .ok (.ireturn, 1) := by decide +kernel
theorem dX1_isOutOfTurn_85 : decode cX1_isOutOfTurn 85 = .ok (.aload_n 0, 1) := by decide +kernel
theorem dX1_isOutOfTurn_86 : decode cX1_isOutOfTurn 86 = .ok (.getfield 31, 3) := by decide +kernel
theorem dX1_isOutOfTurn_89 : decode cX1_isOutOfTurn 89 = .ok (.ifCond .eq 10, 3) := by decide +kernel
theorem dX1_isOutOfTurn_92 : decode cX1_isOutOfTurn 92 = .ok (.aload_n 0, 1) := by decide +kernel
theorem dX1_isOutOfTurn_93 : decode cX1_isOutOfTurn 93 = .ok (.getfield 28, 3) := by decide +kernel
theorem dX1_isOutOfTurn_96 : decode cX1_isOutOfTurn 96 = .ok (.ifCond .ne 7, 3) := by decide +kernel
theorem dX1_isOutOfTurn_99 : decode cX1_isOutOfTurn 99 = .ok (.iconst 1, 1) := by decide +kernel
theorem dX1_isOutOfTurn_100 : decode cX1_isOutOfTurn 100 = .ok (.goto 4, 3) := by decide +kernel
theorem dX1_isOutOfTurn_103 : decode cX1_isOutOfTurn 103 = .ok (.iconst 0, 1) := by decide +kernel
theorem dX1_isOutOfTurn_104 : decode cX1_isOutOfTurn 104 = .ok (.ireturn, 1) := by decide +kernel
theorem dX1_isOutOfTurn_105 : decode cX1_isOutOfTurn 105 = .ok (.aload_n 0, 1) := by decide +kernel
theorem dX1_isOutOfTurn_106 : decode cX1_isOutOfTurn 106 = .ok (.getfield 31, 3) := by decide +kernel
theorem dX1_isOutOfTurn_109 : decode cX1_isOutOfTurn 109 = .ok (.ifCond .eq 10, 3) := by decide +kernel
theorem dX1_isOutOfTurn_112 : decode cX1_isOutOfTurn 112 = .ok (.aload_n 0, 1) := by decide +kernel
theorem dX1_isOutOfTurn_113 : decode cX1_isOutOfTurn 113 = .ok (.getfield 35, 3) := by decide +kernel
theorem dX1_isOutOfTurn_116 : decode cX1_isOutOfTurn 116 = .ok (.ifCond .ne 7, 3) := by decide +kernel
theorem dX1_isOutOfTurn_119 : decode cX1_isOutOfTurn 119 = .ok (.iconst 1, 1) := by decide +kernel
theorem dX1_isOutOfTurn_120 : decode cX1_isOutOfTurn 120 = .ok (.goto 4, 3) := by decide +kernel
theorem dX1_isOutOfTurn_123 : decode cX1_isOutOfTurn 123 = .ok (.iconst 0, 1) := by decide +kernel
theorem dX1_isOutOfTurn_124 : decode cX1_isOutOfTurn 124 = .ok (.ireturn, 1) := by decide +kernel
theorem dX1_isOutOfTurn_125 : decode cX1_isOutOfTurn 125 = .ok (.aload_n 0, 1) := by decide +kernel
theorem dX1_isOutOfTurn_126 : decode cX1_isOutOfTurn 126 = .ok (.getfield 31, 3) := by decide +kernel
theorem dX1_isOutOfTurn_129 : decode cX1_isOutOfTurn 129 = .ok (.ifCond .ne 7, 3) := by decide +kernel
theorem dX1_isOutOfTurn_132 : decode cX1_isOutOfTurn 132 = .ok (.iconst 1, 1) := by decide +kernel
theorem dX1_isOutOfTurn_133 : decode cX1_isOutOfTurn 133 = .ok (.goto 4, 3) := by decide +kernel
theorem dX1_isOutOfTurn_136 : decode cX1_isOutOfTurn 136 = .ok (.iconst 0, 1) := by decide +kernel
theorem dX1_isOutOfTurn_137 : decode cX1_isOutOfTurn 137 = .ok (.ireturn, 1) := by decide +kernel
theorem dX1_wrongNumber_0 : decode cX1_wrongNumber 0 = .ok (.iload_n 1, 1) := by decide +kernel
theorem dX1_wrongNumber_1 : decode cX1_wrongNumber 1 = .ok (.invokestatic 87, 3) := by decide +kernel
theorem dX1_wrongNumber_4 : decode cX1_wrongNumber 4 = .ok (.astore_n 2, 1) := by decide +kernel
theorem dX1_wrongNumber_5 : decode cX1_wrongNumber 5 = .ok (.iconst 0, 1) := by decide +kernel
theorem dX1_wrongNumber_6 : decode cX1_wrongNumber 6 = .ok (.istore_n 3, 1) := by decide +kernel
theorem dX1_wrongNumber_7 : decode cX1_wrongNumber 7 = .ok (.iload_n 3, 1) := by decide +kernel
theorem dX1_wrongNumber_8 : decode cX1_wrongNumber 8 = .ok (.aload_n 2, 1) := by decide +kernel
theorem dX1_wrongNumber_9 : decode cX1_wrongNumber 9 = .ok (.invokevirtual 91, 3) := by decide +kernel
theorem dX1_wrongNumber_12 : decode cX1_wrongNumber 12 = .ok (.if_icmp .ge 39, 3) := by decide +kernel
theorem dX1_wrongNumber_15 : decode cX1_wrongNumber 15 = .ok (.iload_n 3, 1) := by decide +kernel
theorem dX1_wrongNumber_16 : decode cX1_wrongNumber 16 = .ok (.iconst 3, 1) := by decide +kernel
theorem dX1_wrongNumber_17 : decode cX1_wrongNumber 17 = .ok (.if_icmp .ge 34, 3) := by decide +kernel
theorem dX1_wrongNumber_20 : decode cX1_wrongNumber 20 = .ok (.aload_n 2, 1) := by decide +kernel
theorem dX1_wrongNumber_21 : decode cX1_wrongNumber 21 = .ok (.iload_n 3, 1) := by decide +kernel
theorem dX1_wrongNumber_22 : decode cX1_wrongNumber 22 = .ok (.invokevirtual 96, 3) := by decide +kernel
theorem dX1_wrongNumber_25 : decode cX1_wrongNumber 25 = .ok (.bipush 110, 2) := by decide +kernel
theorem dX1_wrongNumber_27 : decode cX1_wrongNumber 27 = .ok (.if_icmp .ne 18, 3) := by decide +kernel
theorem dX1_wrongNumber_30 : decode cX1_wrongNumber 30 = .ok (.iload_n 1, 1) := by decide +kernel
theorem dX1_wrongNumber_31 : decode cX1_wrongNumber 31 = .ok (.aload_n 0, 1) := by decide +kernel
theorem dX1_wrongNumber_32 : decode cX1_wrongNumber 32 = .ok (.getfield 18, 3) := by decide +kernel
theorem dX1_wrongNumber_35 : decode cX1_wrongNumber 35 = .ok (.iload_n 3, 1) := by decide +kernel
theorem dX1_wrongNumber_36 : decode cX1_wrongNumber 36 = .ok (.iaload, 1) := by decide +kernel
theorem dX1_wrongNumber_37 : decode cX1_wrongNumber 37 = .ok (.invokestatic 160, 3) := by decide +kernel
theorem dX1_wrongNumber_40 : decode cX1_wrongNumber 40 = .ok (.ifCond .ne 5, 3) := by decide +kernel
theorem dX1_wrongNumber_43 : decode cX1_wrongNumber 43 = .ok (.iload_n 3, 1) := by decide +kernel
theorem dX1_wrongNumber_44 : decode cX1_wrongNumber 44 = .ok (.ireturn, 1) := by decide +kernel
theorem dX1_wrongNumber_45 : decode cX1_wrongNumber 45 = .ok (.iinc 3 1, 3) := by decide +kernel
theorem dX1_wrongNumber_48 : decode cX1_wrongNumber 48 = .ok (.goto (-41), 3) := by decide +kernel
theorem dX1_wrongNumber_51 : decode cX1_wrongNumber 51 = .ok (.iconst (-1), 1) := by decide +kernel
theorem dX1_wrongNumber_52 : decode cX1_wrongNumber 52 = .ok (.ireturn, 1) := by decide +kernel
theorem dX1_isAllowed_0 : decode cX1_isAllowed 0 = .ok (.iload_n 0, 1) := by decide +kernel
theorem dX1_isAllowed_1 : decode cX1_isAllowed 1 = .ok (.lookupswitch 87 #[(2, 52), (5, 71), (8, 35)], 35) := by decide +kernel
theorem dX1_isAllowed_36 : decode cX1_isAllowed 36 = .ok (.iload_n 1, 1) := by decide +kernel
theorem dX1_isAllowed_37 : decode cX1_isAllowed 37 = .ok (.iconst 1, 1) := by decide +kernel
theorem dX1_isAllowed_38 : decode cX1_isAllowed 38 = .ok (.if_icmp .lt 13, 3) := by decide +kernel
theorem dX1_isAllowed_41 : decode cX1_isAllowed 41 = .ok (.iload_n 1, 1) := by decide +kernel
theorem dX1_isAllowed_42 : decode cX1_isAllowed 42 = .ok (.bipush 9, 2) := by decide +kernel
theorem dX1_isAllowed_44 : decode cX1_isAllowed 44 = .ok (.if_icmp .gt 7, 3) := by decide +kernel
theorem dX1_isAllowed_47 : decode cX1_isAllowed 47 = .ok (.iconst 1, 1) := by decide +kernel
theorem dX1_isAllowed_48 : decode cX1_isAllowed 48 = .ok (.goto 4, 3) := by decide +kernel
theorem dX1_isAllowed_51 : decode cX1_isAllowed 51 = .ok (.iconst 0, 1) := by decide +kernel
theorem dX1_isAllowed_52 : decode cX1_isAllowed 52 = .ok (.ireturn, 1) := by decide +kernel
theorem dX1_isAllowed_53 : decode cX1_isAllowed 53 = .ok (.iload_n 1, 1) := by decide +kernel
theorem dX1_isAllowed_54 : decode cX1_isAllowed 54 = .ok (.bipush 10, 2) := by decide +kernel
theorem dX1_isAllowed_56 : decode cX1_isAllowed 56 = .ok (.if_icmp .lt 14, 3) := by decide +kernel
theorem dX1_isAllowed_59 : decode cX1_isAllowed 59 = .ok (.iload_n 1, 1) := by decide +kernel
theorem dX1_isAllowed_60 : decode cX1_isAllowed 60 = .ok (.sipush 200, 3) := by decide +kernel
theorem dX1_isAllowed_63 : decode cX1_isAllowed 63 = .ok (.if_icmp .gt 7, 3) := by decide +kernel
theorem dX1_isAllowed_66 : decode cX1_isAllowed 66 = .ok (.iconst 1, 1) := by decide +kernel
theorem dX1_isAllowed_67 : decode cX1_isAllowed 67 = .ok (.goto 4, 3) := by decide +kernel
theorem dX1_isAllowed_70 : decode cX1_isAllowed 70 = .ok (.iconst 0, 1) := by decide +kernel
theorem dX1_isAllowed_71 : decode cX1_isAllowed 71 = .ok (.ireturn, 1) := by decide +kernel
theorem dX1_isAllowed_72 : decode cX1_isAllowed 72 = .ok (.iload_n 1, 1) := by decide +kernel
theorem dX1_isAllowed_73 : decode cX1_isAllowed 73 = .ok (.ifCond .lt 13, 3) := by decide +kernel
theorem dX1_isAllowed_76 : decode cX1_isAllowed 76 = .ok (.iload_n 1, 1) := by decide +kernel
theorem dX1_isAllowed_77 : decode cX1_isAllowed 77 = .ok (.bipush 40, 2) := by decide +kernel
theorem dX1_isAllowed_79 : decode cX1_isAllowed 79 = .ok (.if_icmp .gt 7, 3) := by decide +kernel
theorem dX1_isAllowed_82 : decode cX1_isAllowed 82 = .ok (.iconst 1, 1) := by decide +kernel
theorem dX1_isAllowed_83 : decode cX1_isAllowed 83 = .ok (.goto 4, 3) := by decide +kernel
theorem dX1_isAllowed_86 : decode cX1_isAllowed 86 = .ok (.iconst 0, 1) := by decide +kernel
theorem dX1_isAllowed_87 : decode cX1_isAllowed 87 = .ok (.ireturn, 1) := by decide +kernel
theorem dX1_isAllowed_88 : decode cX1_isAllowed 88 = .ok (.iload_n 1, 1) := by decide +kernel
theorem dX1_isAllowed_89 : decode cX1_isAllowed 89 = .ok (.iconst 1, 1) := by decide +kernel
theorem dX1_isAllowed_90 : decode cX1_isAllowed 90 = .ok (.if_icmp .lt 13, 3) := by decide +kernel
theorem dX1_isAllowed_93 : decode cX1_isAllowed 93 = .ok (.iload_n 1, 1) := by decide +kernel
theorem dX1_isAllowed_94 : decode cX1_isAllowed 94 = .ok (.bipush 30, 2) := by decide +kernel
theorem dX1_isAllowed_96 : decode cX1_isAllowed 96 = .ok (.if_icmp .gt 7, 3) := by decide +kernel
theorem dX1_isAllowed_99 : decode cX1_isAllowed 99 = .ok (.iconst 1, 1) := by decide +kernel
theorem dX1_isAllowed_100 : decode cX1_isAllowed 100 = .ok (.goto 4, 3) := by decide +kernel
theorem dX1_isAllowed_103 : decode cX1_isAllowed 103 = .ok (.iconst 0, 1) := by decide +kernel
theorem dX1_isAllowed_104 : decode cX1_isAllowed 104 = .ok (.ireturn, 1) := by decide +kernel
theorem dX1_follow_0 : decode cX1_follow 0 = .ok (.iload_n 1, 1) := by decide +kernel
theorem dX1_follow_1 : decode cX1_follow 1 = .ok (.ifCond .ne 23, 3) := by decide +kernel
theorem dX1_follow_4 : decode cX1_follow 4 = .ok (.aload_n 0, 1) := by decide +kernel
theorem dX1_follow_5 : decode cX1_follow 5 = .ok (.dup, 1) := by decide +kernel
theorem dX1_follow_6 : decode cX1_follow 6 = .ok (.getfield 28, 3) := by decide +kernel
theorem dX1_follow_9 : decode cX1_follow 9 = .ok (.iconst 1, 1) := by decide +kernel
theorem dX1_follow_10 : decode cX1_follow 10 = .ok (.aload_n 0, 1) := by decide +kernel
theorem dX1_follow_11 : decode cX1_follow 11 = .ok (.getfield 18, 3) := by decide +kernel
theorem dX1_follow_14 : decode cX1_follow 14 = .ok (.iconst 0, 1) := by decide +kernel
theorem dX1_follow_15 : decode cX1_follow 15 = .ok (.iaload, 1) := by decide +kernel
theorem dX1_follow_16 : decode cX1_follow 16 = .ok (.ishl, 1) := by decide +kernel
theorem dX1_follow_17 : decode cX1_follow 17 = .ok (.ior, 1) := by decide +kernel
theorem dX1_follow_18 : decode cX1_follow 18 = .ok (.putfield 28, 3) := by decide +kernel
theorem dX1_follow_21 : decode cX1_follow 21 = .ok (.goto 72, 3) := by decide +kernel
theorem dX1_follow_24 : decode cX1_follow 24 = .ok (.iload_n 1, 1) := by decide +kernel
theorem dX1_follow_25 : decode cX1_follow 25 = .ok (.iconst 1, 1) := by decide +kernel
theorem dX1_follow_26 : decode cX1_follow 26 = .ok (.if_icmp .ne 25, 3) := by decide +kernel
theorem dX1_follow_29 : decode cX1_follow 29 = .ok (.aload_n 0, 1) := by decide +kernel
theorem dX1_follow_30 : decode cX1_follow 30 = .ok (.dup, 1) := by decide +kernel
theorem dX1_follow_31 : decode cX1_follow 31 = .ok (.getfield 28, 3) := by decide +kernel
theorem dX1_follow_34 : decode cX1_follow 34 = .ok (.iconst 1, 1) := by decide +kernel
theorem dX1_follow_35 : decode cX1_follow 35 = .ok (.aload_n 0, 1) := by decide +kernel
theorem dX1_follow_36 : decode cX1_follow 36 = .ok (.getfield 18, 3) := by decide +kernel
theorem dX1_follow_39 : decode cX1_follow 39 = .ok (.iconst 0, 1) := by decide +kernel
theorem dX1_follow_40 : decode cX1_follow 40 = .ok (.iaload, 1) := by decide +kernel
theorem dX1_follow_41 : decode cX1_follow 41 = .ok (.ishl, 1) := by decide +kernel
theorem dX1_follow_42 : decode cX1_follow 42 = .ok (.iconst (-1), 1) := by decide +kernel
theorem dX1_follow_43 : decode cX1_follow 43 = .ok (.ixor, 1) := by decide +kernel
theorem dX1_follow_44 : decode cX1_follow 44 = .ok (.iand, 1) := by decide +kernel
theorem dX1_follow_45 : decode cX1_follow 45 = .ok (.putfield 28, 3) := by decide +kernel
theorem dX1_follow_48 : decode cX1_follow 48 = .ok (.goto 45, 3) := by decide +kernel
theorem dX1_follow_51 : decode cX1_follow 51 = .ok (.iload_n 1, 1) := by decide +kernel
theorem dX1_follow_52 : decode cX1_follow 52 = .ok (.iconst 2, 1) := by decide +kernel
theorem dX1_follow_53 : decode cX1_follow 53 = .ok (.if_icmp .ne 16, 3) := by decide +kernel
theorem dX1_follow_56 : decode cX1_follow 56 = .ok (.aload_n 0, 1) := by decide +kernel
theorem dX1_follow_57 : decode cX1_follow 57 = .ok (.iconst 1, 1) := by decide +kernel
theorem dX1_follow_58 : decode cX1_follow 58 = .ok (.putfield 31, 3) := by decide +kernel
theorem dX1_follow_61 : decode cX1_follow 61 = .ok (.aload_n 0, 1) := by decide +kernel
theorem dX1_follow_62 : decode cX1_follow 62 = .ok (.iconst 0, 1) := by decide +kernel
theorem dX1_follow_63 : decode cX1_follow 63 = .ok (.putfield 35, 3) := by decide +kernel
theorem dX1_follow_66 : decode cX1_follow 66 = .ok (.goto 27, 3) := by decide +kernel
theorem dX1_follow_69 : decode cX1_follow 69 = .ok (.iload_n 1, 1) := by decide +kernel
theorem dX1_follow_70 : decode cX1_follow 70 = .ok (.iconst 5, 1) := by decide +kernel
theorem dX1_follow_71 : decode cX1_follow 71 = .ok (.if_icmp .ne 11, 3) := by decide +kernel
theorem dX1_follow_74 : decode cX1_follow 74 = .ok (.aload_n 0, 1) := by decide +kernel
theorem dX1_follow_75 : decode cX1_follow 75 = .ok (.iconst 1, 1) := by decide +kernel
theorem dX1_follow_76 : decode cX1_follow 76 = .ok (.putfield 35, 3) := by decide +kernel
theorem dX1_follow_79 : decode cX1_follow 79 = .ok (.goto 14, 3) := by decide +kernel
theorem dX1_follow_82 : decode cX1_follow 82 = .ok (.iload_n 1, 1) := by decide +kernel
theorem dX1_follow_83 : decode cX1_follow 83 = .ok (.bipush 7, 2) := by decide +kernel
theorem dX1_follow_85 : decode cX1_follow 85 = .ok (.if_icmp .ne 8, 3) := by decide +kernel
theorem dX1_follow_88 : decode cX1_follow 88 = .ok (.aload_n 0, 1) := by decide +kernel
theorem dX1_follow_89 : decode cX1_follow 89 = .ok (.iconst 0, 1) := by decide +kernel
theorem dX1_follow_90 : decode cX1_follow 90 = .ok (.putfield 31, 3) := by decide +kernel
theorem dX1_follow_93 : decode cX1_follow 93 = .ok (.return_, 1) := by decide +kernel
theorem dX1_beginLoop_0 : decode cX1_beginLoop 0 = .ok (.aload_n 0, 1) := by decide +kernel
theorem dX1_beginLoop_1 : decode cX1_beginLoop 1 = .ok (.getfield 24, 3) := by decide +kernel
theorem dX1_beginLoop_4 : decode cX1_beginLoop 4 = .ok (.iconst 3, 1) := by decide +kernel
theorem dX1_beginLoop_5 : decode cX1_beginLoop 5 = .ok (.if_icmp .ge 44, 3) := by decide +kernel
theorem dX1_beginLoop_8 : decode cX1_beginLoop 8 = .ok (.aload_n 0, 1) := by decide +kernel
theorem dX1_beginLoop_9 : decode cX1_beginLoop 9 = .ok (.getfield 9, 3) := by decide +kernel
theorem dX1_beginLoop_12 : decode cX1_beginLoop 12 = .ok (.aload_n 0, 1) := by decide +kernel
theorem dX1_beginLoop_13 : decode cX1_beginLoop 13 = .ok (.getfield 24, 3) := by decide +kernel
theorem dX1_beginLoop_16 : decode cX1_beginLoop 16 = .ok (.aload_n 0, 1) := by decide +kernel
theorem dX1_beginLoop_17 : decode cX1_beginLoop 17 = .ok (.getfield 50, 3) := by decide +kernel
theorem dX1_beginLoop_20 : decode cX1_beginLoop 20 = .ok (.invokevirtual 164, 3) := by decide +kernel
theorem dX1_beginLoop_23 : decode cX1_beginLoop 23 = .ok (.iastore, 1) := by decide +kernel
theorem dX1_beginLoop_24 : decode cX1_beginLoop 24 = .ok (.aload_n 0, 1) := by decide +kernel
theorem dX1_beginLoop_25 : decode cX1_beginLoop 25 = .ok (.getfield 15, 3) := by decide +kernel
theorem dX1_beginLoop_28 : decode cX1_beginLoop 28 = .ok (.aload_n 0, 1) := by decide +kernel
theorem dX1_beginLoop_29 : decode cX1_beginLoop 29 = .ok (.getfield 24, 3) := by decide +kernel
theorem dX1_beginLoop_32 : decode cX1_beginLoop 32 = .ok (.aload_n 0, 1) := by decide +kernel
theorem dX1_beginLoop_33 : decode cX1_beginLoop 33 = .ok (.getfield 18, 3) := by decide +kernel
theorem dX1_beginLoop_36 : decode cX1_beginLoop 36 = .ok (.iconst 0, 1) := by decide +kernel
theorem dX1_beginLoop_37 : decode cX1_beginLoop 37 = .ok (.iaload, 1) := by decide +kernel
theorem dX1_beginLoop_38 : decode cX1_beginLoop 38 = .ok (.iastore, 1) := by decide +kernel
theorem dX1_beginLoop_39 : decode cX1_beginLoop 39 = .ok (.aload_n 0, 1) := by decide +kernel
theorem dX1_beginLoop_40 : decode cX1_beginLoop 40 = .ok (.dup, 1) := by decide +kernel
theorem dX1_beginLoop_41 : decode cX1_beginLoop 41 = .ok (.getfield 24, 3) := by decide +kernel
theorem dX1_beginLoop_44 : decode cX1_beginLoop 44 = .ok (.iconst 1, 1) := by decide +kernel
theorem dX1_beginLoop_45 : decode cX1_beginLoop 45 = .ok (.iadd, 1) := by decide +kernel
theorem dX1_beginLoop_46 : decode cX1_beginLoop 46 = .ok (.putfield 24, 3) := by decide +kernel
theorem dX1_beginLoop_49 : decode cX1_beginLoop 49 = .ok (.return_, 1) := by decide +kernel
theorem dX1_endRound_0 : decode cX1_endRound 0 = .ok (.aload_n 0, 1) := by decide +kernel
theorem dX1_endRound_1 : decode cX1_endRound 1 = .ok (.getfield 24, 3) := by decide +kernel
theorem dX1_endRound_4 : decode cX1_endRound 4 = .ok (.ifCond .ne 4, 3) := by decide +kernel
theorem dX1_endRound_7 : decode cX1_endRound 7 = .ok (.return_, 1) := by decide +kernel
theorem dX1_endRound_8 : decode cX1_endRound 8 = .ok (.aload_n 0, 1) := by decide +kernel
theorem dX1_endRound_9 : decode cX1_endRound 9 = .ok (.getfield 24, 3) := by decide +kernel
theorem dX1_endRound_12 : decode cX1_endRound 12 = .ok (.iconst 1, 1) := by decide +kernel
theorem dX1_endRound_13 : decode cX1_endRound 13 = .ok (.isub, 1) := by decide +kernel
theorem dX1_endRound_14 : decode cX1_endRound 14 = .ok (.istore_n 1, 1) := by decide +kernel
theorem dX1_endRound_15 : decode cX1_endRound 15 = .ok (.aload_n 0, 1) := by decide +kernel
theorem dX1_endRound_16 : decode cX1_endRound 16 = .ok (.getfield 15, 3) := by decide +kernel
theorem dX1_endRound_19 : decode cX1_endRound 19 = .ok (.iload_n 1, 1) := by decide +kernel
theorem dX1_endRound_20 : decode cX1_endRound 20 = .ok (.dup2, 1) := by decide +kernel
theorem dX1_endRound_21 : decode cX1_endRound 21 = .ok (.iaload, 1) := by decide +kernel
theorem dX1_endRound_22 : decode cX1_endRound 22 = .ok (.iconst 1, 1) := by decide +kernel
theorem dX1_endRound_23 : decode cX1_endRound 23 = .ok (.isub, 1) := by decide +kernel
theorem dX1_endRound_24 : decode cX1_endRound 24 = .ok (.iastore, 1) := by decide +kernel
theorem dX1_endRound_25 : decode cX1_endRound 25 = .ok (.aload_n 0, 1) := by decide +kernel
theorem dX1_endRound_26 : decode cX1_endRound 26 = .ok (.getfield 15, 3) := by decide +kernel
theorem dX1_endRound_29 : decode cX1_endRound 29 = .ok (.iload_n 1, 1) := by decide +kernel
theorem dX1_endRound_30 : decode cX1_endRound 30 = .ok (.iaload, 1) := by decide +kernel
theorem dX1_endRound_31 : decode cX1_endRound 31 = .ok (.ifCond .le 19, 3) := by decide +kernel
theorem dX1_endRound_34 : decode cX1_endRound 34 = .ok (.aload_n 0, 1) := by decide +kernel
theorem dX1_endRound_35 : decode cX1_endRound 35 = .ok (.getfield 50, 3) := by decide +kernel
theorem dX1_endRound_38 : decode cX1_endRound 38 = .ok (.aload_n 0, 1) := by decide +kernel
theorem dX1_endRound_39 : decode cX1_endRound 39 = .ok (.getfield 9, 3) := by decide +kernel
theorem dX1_endRound_42 : decode cX1_endRound 42 = .ok (.iload_n 1, 1) := by decide +kernel
theorem dX1_endRound_43 : decode cX1_endRound 43 = .ok (.iaload, 1) := by decide +kernel
theorem dX1_endRound_44 : decode cX1_endRound 44 = .ok (.invokevirtual 65, 3) := by decide +kernel
theorem dX1_endRound_47 : decode cX1_endRound 47 = .ok (.goto 13, 3) := by decide +kernel
theorem dX1_endRound_50 : decode cX1_endRound 50 = .ok (.aload_n 0, 1) := by decide +kernel
theorem dX1_endRound_51 : decode cX1_endRound 51 = .ok (.dup, 1) := by decide +kernel
theorem dX1_endRound_52 : decode cX1_endRound 52 = .ok (.getfield 24, 3) := by decide +kernel
theorem dX1_endRound_55 : decode cX1_endRound 55 = .ok (.iconst 1, 1) := by decide +kernel
theorem dX1_endRound_56 : decode cX1_endRound 56 = .ok (.isub, 1) := by decide +kernel
theorem dX1_endRound_57 : decode cX1_endRound 57 = .ok (.putfield 24, 3) := by decide +kernel
theorem dX1_endRound_60 : decode cX1_endRound 60 = .ok (.return_, 1) := by decide +kernel
theorem dX2_init_0 : decode cX2_init 0 = .ok (.aload_n 0, 1) := by decide +kernel
theorem dX2_init_1 : decode cX2_init 1 = .ok (.invokespecial 3, 3) := by decide +kernel
theorem dX2_init_4 : decode cX2_init 4 = .ok (.aload_n 0, 1) := by decide +kernel
theorem dX2_init_5 : decode cX2_init 5 = .ok (.iconst 0, 1) := by decide +kernel
theorem dX2_init_6 : decode cX2_init 6 = .ok (.putfield 9, 3) := by decide +kernel
theorem dX2_init_9 : decode cX2_init 9 = .ok (.aload_n 0, 1) := by decide +kernel
theorem dX2_init_10 : decode cX2_init 10 = .ok (.iconst 0, 1) := by decide +kernel
theorem dX2_init_11 : decode cX2_init 11 = .ok (.putfield 15, 3) := by decide +kernel
theorem dX2_init_14 : decode cX2_init 14 = .ok (.aload_n 0, 1) := by decide +kernel
theorem dX2_init_15 : decode cX2_init 15 = .ok (.iconst 0, 1) := by decide +kernel
theorem dX2_init_16 : decode cX2_init 16 = .ok (.putfield 19, 3) := by decide +kernel
theorem dX2_init_19 : decode cX2_init 19 = .ok (.aload_n 0, 1) := by decide +kernel
theorem dX2_init_20 : decode cX2_init 20 = .ok (.iconst 0, 1) := by decide +kernel
theorem dX2_init_21 : decode cX2_init 21 = .ok (.putfield 22, 3) := by decide +kernel
theorem dX2_init_24 : decode cX2_init 24 = .ok (.aload_n 0, 1) := by decide +kernel
theorem dX2_init_25 : decode cX2_init 25 = .ok (.iconst 0, 1) := by decide +kernel
theorem dX2_init_26 : decode cX2_init 26 = .ok (.putfield 25, 3) := by decide +kernel
theorem dX2_init_29 : decode cX2_init 29 = .ok (.aload_n 0, 1) := by decide +kernel
theorem dX2_init_30 : decode cX2_init 30 = .ok (.iconst 3, 1) := by decide +kernel
theorem dX2_init_31 : decode cX2_init 31 = .ok (.newarray .int, 2) := by decide +kernel
theorem dX2_init_33 : decode cX2_init 33 = .ok (.putfield 28, 3) := by decide +kernel
theorem dX2_init_36 : decode cX2_init 36 = .ok (.aload_n 0, 1) := by decide +kernel
theorem dX2_init_37 : decode cX2_init 37 = .ok (.iconst 3, 1) := by decide +kernel
theorem dX2_init_38 : decode cX2_init 38 = .ok (.newarray .int, 2) := by decide +kernel
theorem dX2_init_40 : decode cX2_init 40 = .ok (.putfield 32, 3) := by decide +kernel
theorem dX2_init_43 : decode cX2_init 43 = .ok (.return_, 1) := by decide +kernel
theorem dX2_appear_0 : decode cX2_appear 0 = .ok (.aload_n 0, 1) := by decide +kernel
theorem dX2_appear_1 : decode cX2_appear 1 = .ok (.iconst 1, 1) := by decide +kernel
theorem dX2_appear_2 : decode cX2_appear 2 = .ok (.putfield 9, 3) := by decide +kernel
theorem dX2_appear_5 : decode cX2_appear 5 = .ok (.aload_n 0, 1) := by decide +kernel
theorem dX2_appear_6 : decode cX2_appear 6 = .ok (.iload_n 1, 1) := by decide +kernel
theorem dX2_appear_7 : decode cX2_appear 7 = .ok (.putfield 15, 3) := by decide +kernel
theorem dX2_appear_10 : decode cX2_appear 10 = .ok (.aload_n 0, 1) := by decide +kernel
theorem dX2_appear_11 : decode cX2_appear 11 = .ok (.iload_n 2, 1) := by decide +kernel
theorem dX2_appear_12 : decode cX2_appear 12 = .ok (.putfield 19, 3) := by decide +kernel
theorem dX2_appear_15 : decode cX2_appear 15 = .ok (.aload_n 0, 1) := by decide +kernel
theorem dX2_appear_16 : decode cX2_appear 16 = .ok (.bipush 20, 2) := by decide +kernel
theorem dX2_appear_18 : decode cX2_appear 18 = .ok (.putfield 22, 3) := by decide +kernel
theorem dX2_appear_21 : decode cX2_appear 21 = .ok (.return_, 1) := by decide +kernel
theorem dX2_vanish_0 : decode cX2_vanish 0 = .ok (.aload_n 0, 1) := by decide +kernel
theorem dX2_vanish_1 : decode cX2_vanish 1 = .ok (.iconst 0, 1) := by decide +kernel
theorem dX2_vanish_2 : decode cX2_vanish 2 = .ok (.putfield 9, 3) := by decide +kernel
theorem dX2_vanish_5 : decode cX2_vanish 5 = .ok (.aload_n 0, 1) := by decide +kernel
theorem dX2_vanish_6 : decode cX2_vanish 6 = .ok (.iconst 0, 1) := by decide +kernel
theorem dX2_vanish_7 : decode cX2_vanish 7 = .ok (.putfield 15, 3) := by decide +kernel
theorem dX2_vanish_10 : decode cX2_vanish 10 = .ok (.aload_n 0, 1) := by decide +kernel
theorem dX2_vanish_11 : decode cX2_vanish 11 = .ok (.iconst 0, 1) := by decide +kernel
theorem dX2_vanish_12 : decode cX2_vanish 12 = .ok (.putfield 19, 3) := by decide +kernel
theorem dX2_vanish_15 : decode cX2_vanish 15 = .ok (.aload_n 0, 1) := by decide +kernel
theorem dX2_vanish_16 : decode cX2_vanish 16 = .ok (.iconst 0, 1) := by decide +kernel
theorem dX2_vanish_17 : decode cX2_vanish 17 = .ok (.putfield 22, 3) := by decide +kernel
theorem dX2_vanish_20 : decode cX2_vanish 20 = .ok (.aload_n 0, 1) := by decide +kernel
theorem dX2_vanish_21 : decode cX2_vanish 21 = .ok (.iconst 0, 1) := by decide +kernel
theorem dX2_vanish_22 : decode cX2_vanish 22 = .ok (.putfield 25, 3) := by decide +kernel
theorem dX2_vanish_25 : decode cX2_vanish 25 = .ok (.aload_n 0, 1) := by decide +kernel
theorem dX2_vanish_26 : decode cX2_vanish 26 = .ok (.getfield 28, 3) := by decide +kernel
theorem dX2_vanish_29 : decode cX2_vanish 29 = .ok (.iconst 0, 1) := by decide +kernel
theorem dX2_vanish_30 : decode cX2_vanish 30 = .ok (.invokestatic 35, 3) := by decide +kernel
theorem dX2_vanish_33 : decode cX2_vanish 33 = .ok (.aload_n 0, 1) := by decide +kernel
theorem dX2_vanish_34 : decode cX2_vanish 34 = .ok (.getfield 32, 3) := by decide +kernel
theorem dX2_vanish_37 : decode cX2_vanish 37 = .ok (.iconst 0, 1) := by decide +kernel
theorem dX2_vanish_38 : decode cX2_vanish 38 = .ok (.invokestatic 35, 3) := by decide +kernel
theorem dX2_vanish_41 : decode cX2_vanish 41 = .ok (.return_, 1) := by decide +kernel
theorem dX2_soak_0 : decode cX2_soak 0 = .ok (.aload_n 0, 1) := by decide +kernel
theorem dX2_soak_1 : decode cX2_soak 1 = .ok (.bipush 100, 2) := by decide +kernel
theorem dX2_soak_3 : decode cX2_soak 3 = .ok (.aload_n 0, 1) := by decide +kernel
theorem dX2_soak_4 : decode cX2_soak 4 = .ok (.getfield 19, 3) := by decide +kernel
theorem dX2_soak_7 : decode cX2_soak 7 = .ok (.bipush 8, 2) := by decide +kernel
theorem dX2_soak_9 : decode cX2_soak 9 = .ok (.iadd, 1) := by decide +kernel
theorem dX2_soak_10 : decode cX2_soak 10 = .ok (.invokestatic 41, 3) := by decide +kernel
theorem dX2_soak_13 : decode cX2_soak 13 = .ok (.putfield 19, 3) := by decide +kernel
theorem dX2_soak_16 : decode cX2_soak 16 = .ok (.aload_n 0, 1) := by decide +kernel
theorem dX2_soak_17 : decode cX2_soak 17 = .ok (.bipush 10, 2) := by decide +kernel
theorem dX2_soak_19 : decode cX2_soak 19 = .ok (.invokevirtual 47, 3) := by decide +kernel
theorem dX2_soak_22 : decode cX2_soak 22 = .ok (.return_, 1) := by decide +kernel
theorem dX2_warm_0 : decode cX2_warm 0 = .ok (.aload_n 0, 1) := by decide +kernel
theorem dX2_warm_1 : decode cX2_warm 1 = .ok (.sipush 200, 3) := by decide +kernel
theorem dX2_warm_4 : decode cX2_warm 4 = .ok (.aload_n 0, 1) := by decide +kernel
theorem dX2_warm_5 : decode cX2_warm 5 = .ok (.getfield 22, 3) := by decide +kernel
theorem dX2_warm_8 : decode cX2_warm 8 = .ok (.bipush 25, 2) := by decide +kernel
theorem dX2_warm_10 : decode cX2_warm 10 = .ok (.iadd, 1) := by decide +kernel
theorem dX2_warm_11 : decode cX2_warm 11 = .ok (.invokestatic 41, 3) := by decide +kernel
theorem dX2_warm_14 : decode cX2_warm 14 = .ok (.putfield 22, 3) := by decide +kernel
theorem dX2_warm_17 : decode cX2_warm 17 = .ok (.aload_n 0, 1) := by decide +kernel
theorem dX2_warm_18 : decode cX2_warm 18 = .ok (.iconst 3, 1) := by decide +kernel
theorem dX2_warm_19 : decode cX2_warm 19 = .ok (.invokevirtual 51, 3) := by decide +kernel
theorem dX2_warm_22 : decode cX2_warm 22 = .ok (.return_, 1) := by decide +kernel
theorem dX2_isBurning_0 : decode cX2_isBurning 0 = .ok (.aload_n 0, 1) := by decide +kernel
theorem dX2_isBurning_1 : decode cX2_isBurning 1 = .ok (.getfield 22, 3) := by decide +kernel
theorem dX2_isBurning_4 : decode cX2_isBurning 4 = .ok (.sipush 150, 3) := by decide +kernel
theorem dX2_isBurning_7 : decode cX2_isBurning 7 = .ok (.if_icmp .le 16, 3) := by decide +kernel
theorem dX2_isBurning_10 : decode cX2_isBurning 10 = .ok (.aload_n 0, 1) := by decide +kernel
theorem dX2_isBurning_11 : decode cX2_isBurning 11 = .ok (.getfield 19, 3) := by decide +kernel
theorem dX2_isBurning_14 : decode cX2_isBurning 14 = .ok (.bipush 10, 2) := by decide +kernel
theorem dX2_isBurning_16 : decode cX2_isBurning 16 = .ok (.if_icmp .ge 7, 3) := by decide +kernel
theorem dX2_isBurning_19 : decode cX2_isBurning 19 = .ok (.iconst 1, 1) := by decide +kernel
theorem dX2_isBurning_20 : decode cX2_isBurning 20 = .ok (.goto 4, 3) := by decide +kernel
theorem dX2_isBurning_23 : decode cX2_isBurning 23 = .ok (.iconst 0, 1) := by decide +kernel
theorem dX2_isBurning_24 : decode cX2_isBurning 24 = .ok (.ireturn, 1) := by decide +kernel
theorem dX2_settle_0 : decode cX2_settle 0 = .ok (.aload_n 0, 1) := by decide +kernel
theorem dX2_settle_1 : decode cX2_settle 1 = .ok (.iconst 4, 1) := by decide +kernel
theorem dX2_settle_2 : decode cX2_settle 2 = .ok (.invokevirtual 51, 3) := by decide +kernel
theorem dX2_settle_5 : decode cX2_settle 5 = .ok (.aload_n 0, 1) := by decide +kernel
theorem dX2_settle_6 : decode cX2_settle 6 = .ok (.bipush 15, 2) := by decide +kernel
theorem dX2_settle_8 : decode cX2_settle 8 = .ok (.invokevirtual 47, 3) := by decide +kernel
theorem dX2_settle_11 : decode cX2_settle 11 = .ok (.return_, 1) := by decide +kernel
theorem dX2_cool_0 : decode cX2_cool 0 = .ok (.aload_n 0, 1) := by decide +kernel
theorem dX2_cool_1 : decode cX2_cool 1 = .ok (.bipush 20, 2) := by decide +kernel
theorem dX2_cool_3 : decode cX2_cool 3 = .ok (.aload_n 0, 1) := by decide +kernel
theorem dX2_cool_4 : decode cX2_cool 4 = .ok (.getfield 22, 3) := by decide +kernel
theorem dX2_cool_7 : decode cX2_cool 7 = .ok (.iload_n 1, 1) := by decide +kernel
theorem dX2_cool_8 : decode cX2_cool 8 = .ok (.isub, 1) := by decide +kernel
theorem dX2_cool_9 : decode cX2_cool 9 = .ok (.invokestatic 54, 3) := by decide +kernel
theorem dX2_cool_12 : decode cX2_cool 12 = .ok (.putfield 22, 3) := by decide +kernel
theorem dX2_cool_15 : decode cX2_cool 15 = .ok (.return_, 1) := by decide +kernel
theorem dX2_dry_0 : decode cX2_dry 0 = .ok (.aload_n 0, 1) := by decide +kernel
theorem dX2_dry_1 : decode cX2_dry 1 = .ok (.iconst 0, 1) := by decide +kernel
theorem dX2_dry_2 : decode cX2_dry 2 = .ok (.aload_n 0, 1) := by decide +kernel
theorem dX2_dry_3 : decode cX2_dry 3 = .ok (.getfield 19, 3) := by decide +kernel
theorem dX2_dry_6 : decode cX2_dry 6 = .ok (.iload_n 1, 1) := by decide +kernel
theorem dX2_dry_7 : decode cX2_dry 7 = .ok (.isub, 1) := by decide +kernel
theorem dX2_dry_8 : decode cX2_dry 8 = .ok (.invokestatic 54, 3) := by decide +kernel
theorem dX2_dry_11 : decode cX2_dry 11 = .ok (.putfield 19, 3) := by decide +kernel
theorem dX2_dry_14 : decode cX2_dry 14 = .ok (.return_, 1) := by decide +kernel
theorem dX2_bendTowards_0 : decode cX2_bendTowards 0 = .ok (.aload_n 0, 1) := by decide +kernel
theorem dX2_bendTowards_1 : decode cX2_bendTowards 1 = .ok (.getfield 32, 3) := by decide +kernel
theorem dX2_bendTowards_4 : decode cX2_bendTowards 4 = .ok (.iconst 0, 1) := by decide +kernel
theorem dX2_bendTowards_5 : decode cX2_bendTowards 5 = .ok (.aload_n 1, 1) := by decide +kernel
theorem dX2_bendTowards_6 : decode cX2_bendTowards 6 = .ok (.getfield 57, 3) := by decide +kernel
theorem dX2_bendTowards_9 : decode cX2_bendTowards 9 = .ok (.iastore, 1) := by decide +kernel
theorem dX2_bendTowards_10 : decode cX2_bendTowards 10 = .ok (.aload_n 0, 1) := by decide +kernel
theorem dX2_bendTowards_11 : decode cX2_bendTowards 11 = .ok (.getfield 32, 3) := by decide +kernel
theorem dX2_bendTowards_14 : decode cX2_bendTowards 14 = .ok (.iconst 1, 1) := by decide +kernel
theorem dX2_bendTowards_15 : decode cX2_bendTowards 15 = .ok (.aload_n 1, 1) := by decide +kernel
theorem dX2_bendTowards_16 : decode cX2_bendTowards 16 = .ok (.getfield 62, 3) := by decide +kernel
theorem dX2_bendTowards_19 : decode cX2_bendTowards 19 = .ok (.iastore, 1) := by decide +kernel
theorem dX2_bendTowards_20 : decode cX2_bendTowards 20 = .ok (.aload_n 0, 1) := by decide +kernel
theorem dX2_bendTowards_21 : decode cX2_bendTowards 21 = .ok (.getfield 32, 3) := by decide +kernel
theorem dX2_bendTowards_24 : decode cX2_bendTowards 24 = .ok (.iconst 2, 1) := by decide +kernel
theorem dX2_bendTowards_25 : decode cX2_bendTowards 25 = .ok (.aload_n 1, 1) := by decide +kernel
theorem dX2_bendTowards_26 : decode cX2_bendTowards 26 = .ok (.getfield 65, 3) := by decide +kernel
theorem dX2_bendTowards_29 : decode cX2_bendTowards 29 = .ok (.iastore, 1) := by decide +kernel
theorem dX2_bendTowards_30 : decode cX2_bendTowards 30 = .ok (.aload_n 0, 1) := by decide +kernel
theorem dX2_bendTowards_31 : decode cX2_bendTowards 31 = .ok (.getfield 22, 3) := by decide +kernel
theorem dX2_bendTowards_34 : decode cX2_bendTowards 34 = .ok (.aload_n 0, 1) := by decide +kernel
theorem dX2_bendTowards_35 : decode cX2_bendTowards 35 = .ok (.getfield 19, 3) := by decide +kernel
theorem dX2_bendTowards_38 : decode cX2_bendTowards 38 = .ok (.bipush 20, 2) := by decide +kernel
theorem dX2_bendTowards_40 : decode cX2_bendTowards 40 = .ok (.iadd, 1) := by decide +kernel
theorem dX2_bendTowards_41 : decode cX2_bendTowards 41 = .ok (.imul, 1) := by decide +kernel
theorem dX2_bendTowards_42 : decode cX2_bendTowards 42 = .ok (.bipush 100, 2) := by decide +kernel
theorem dX2_bendTowards_44 : decode cX2_bendTowards 44 = .ok (.aload_n 0, 1) := by decide +kernel
theorem dX2_bendTowards_45 : decode cX2_bendTowards 45 = .ok (.invokevirtual 68, 3) := by decide +kernel
theorem dX2_bendTowards_48 : decode cX2_bendTowards 48 = .ok (.imul, 1) := by decide +kernel
theorem dX2_bendTowards_49 : decode cX2_bendTowards 49 = .ok (.idiv, 1) := by decide +kernel
theorem dX2_bendTowards_50 : decode cX2_bendTowards 50 = .ok (.istore_n 2, 1) := by decide +kernel
theorem dX2_bendTowards_51 : decode cX2_bendTowards 51 = .ok (.iload_n 2, 1) := by decide +kernel
theorem dX2_bendTowards_52 : decode cX2_bendTowards 52 = .ok (.ifCond .ne 30, 3) := by decide +kernel
theorem dX2_bendTowards_55 : decode cX2_bendTowards 55 = .ok (.aload_n 0, 1) := by decide +kernel
theorem dX2_bendTowards_56 : decode cX2_bendTowards 56 = .ok (.invokevirtual 72, 3) := by decide +kernel
theorem dX2_bendTowards_59 : decode cX2_bendTowards 59 = .ok (.ifCond .ne 23, 3) := by decide +kernel
theorem dX2_bendTowards_62 : decode cX2_bendTowards 62 = .ok (.aload_n 0, 1) := by decide +kernel
theorem dX2_bendTowards_63 : decode cX2_bendTowards 63 = .ok (.dup, 1) := by decide +kernel
theorem dX2_bendTowards_64 : decode cX2_bendTowards 64 = .ok (.getfield 25, 3) := by decide +kernel
theorem dX2_bendTowards_67 : decode cX2_bendTowards 67 = .ok (.iconst 1, 1) := by decide +kernel
theorem dX2_bendTowards_68 : decode cX2_bendTowards 68 = .ok (.iadd, 1) := by decide +kernel
theorem dX2_bendTowards_69 : decode cX2_bendTowards 69 = .ok (.putfield 25, 3) := by decide +kernel
theorem dX2_bendTowards_72 : decode cX2_bendTowards 72 = .ok (.aload_n 0, 1) := by decide +kernel
theorem dX2_bendTowards_73 : decode cX2_bendTowards 73 = .ok (.getfield 25, 3) := by decide +kernel
theorem dX2_bendTowards_76 : decode cX2_bendTowards 76 = .ok (.iconst 3, 1) := by decide +kernel
theorem dX2_bendTowards_77 : decode cX2_bendTowards 77 = .ok (.if_icmp .lt 40, 3) := by decide +kernel
theorem dX2_bendTowards_80 : decode cX2_bendTowards 80 = .ok (.iconst 2, 1) := by decide +kernel
theorem dX2_bendTowards_81 : decode cX2_bendTowards 81 = .ok (.ireturn, 1) := by decide +kernel
theorem dX2_bendTowards_82 : decode cX2_bendTowards 82 = .ok (.iconst 0, 1) := by decide +kernel
theorem dX2_bendTowards_83 : decode cX2_bendTowards 83 = .ok (.istore_n 3, 1) := by decide +kernel
theorem dX2_bendTowards_84 : decode cX2_bendTowards 84 = .ok (.iload_n 3, 1) := by decide +kernel
theorem dX2_bendTowards_85 : decode cX2_bendTowards 85 = .ok (.iconst 3, 1) := by decide +kernel
theorem dX2_bendTowards_86 : decode cX2_bendTowards 86 = .ok (.if_icmp .ge 31, 3) := by decide +kernel
theorem dX2_bendTowards_89 : decode cX2_bendTowards 89 = .ok (.aload_n 0, 1) := by decide +kernel
theorem dX2_bendTowards_90 : decode cX2_bendTowards 90 = .ok (.getfield 28, 3) := by decide +kernel
theorem dX2_bendTowards_93 : decode cX2_bendTowards 93 = .ok (.iload_n 3, 1) := by decide +kernel
theorem dX2_bendTowards_94 : decode cX2_bendTowards 94 = .ok (.aload_n 0, 1) := by decide +kernel
theorem dX2_bendTowards_95 : decode cX2_bendTowards 95 = .ok (.getfield 28, 3) := by decide +kernel
theorem dX2_bendTowards_98 : decode cX2_bendTowards 98 = .ok (.iload_n 3, 1) := by decide +kernel
theorem dX2_bendTowards_99 : decode cX2_bendTowards 99 = .ok (.iaload, 1) := by decide +kernel
theorem dX2_bendTowards_100 : decode cX2_bendTowards 100 = .ok (.aload_n 0, 1) := by decide +kernel
theorem dX2_bendTowards_101 : decode cX2_bendTowards 101 = .ok (.getfield 32, 3) := by decide +kernel
theorem dX2_bendTowards_104 : decode cX2_bendTowards 104 = .ok (.iload_n 3, 1) := by decide +kernel
theorem dX2_bendTowards_105 : decode cX2_bendTowards 105 = .ok (.iaload, 1) := by decide +kernel
theorem dX2_bendTowards_106 : decode cX2_bendTowards 106 = .ok (.iload_n 2, 1) := by decide +kernel
theorem dX2_bendTowards_107 : decode cX2_bendTowards 107 = .ok (.invokestatic 76, 3) := by decide +kernel
theorem dX2_bendTowards_110 : decode cX2_bendTowards 110 = .ok (.iastore, 1) := by decide +kernel
theorem dX2_bendTowards_111 : decode cX2_bendTowards 111 = .ok (.iinc 3 1, 3) := by decide +kernel
theorem dX2_bendTowards_114 : decode cX2_bendTowards 114 = .ok (.goto (-30), 3) := by decide +kernel
theorem dX2_bendTowards_117 : decode cX2_bendTowards 117 = .ok (.aload_n 0, 1) := by decide +kernel
theorem dX2_bendTowards_118 : decode cX2_bendTowards 118 = .ok (.bipush 10, 2) := by decide +kernel
theorem dX2_bendTowards_120 : decode cX2_bendTowards 120 = .ok (.invokevirtual 47, 3) := by decide +kernel
theorem dX2_bendTowards_123 : decode cX2_bendTowards 123 = .ok (.aload_n 0, 1) := by decide +kernel
theorem dX2_bendTowards_124 : decode cX2_bendTowards 124 = .ok (.iconst 1, 1) := by decide +kernel
theorem dX2_bendTowards_125 : decode cX2_bendTowards 125 = .ok (.invokevirtual 51, 3) := by decide +kernel
theorem dX2_bendTowards_128 : decode cX2_bendTowards 128 = .ok (.aload_n 0, 1) := by decide +kernel
theorem dX2_bendTowards_129 : decode cX2_bendTowards 129 = .ok (.invokevirtual 72, 3) := by decide +kernel
theorem dX2_bendTowards_132 : decode cX2_bendTowards 132 = .ok (.ifCond .eq 7, 3) := by decide +kernel
theorem dX2_bendTowards_135 : decode cX2_bendTowards 135 = .ok (.iconst 1, 1) := by decide +kernel
theorem dX2_bendTowards_136 : decode cX2_bendTowards 136 = .ok (.goto 4, 3) := by decide +kernel
theorem dX2_bendTowards_139 : decode cX2_bendTowards 139 = .ok (.iconst 0, 1) := by decide +kernel
theorem dX2_bendTowards_140 : decode cX2_bendTowards 140 = .ok (.ireturn, 1) := by decide +kernel
theorem dX2_stiffness_0 : decode cX2_stiffness 0 = .ok (.aload_n 0, 1) := by decide +kernel
theorem dX2_stiffness_1 : decode cX2_stiffness 1 = .ok (.getfield 15, 3) := by decide +kernel
theorem dX2_stiffness_4 : decode cX2_stiffness 4 = .ok (.tableswitch 36 0 2 #[28, 31, 34], 28) := by decide +kernel
theorem dX2_stiffness_32 : decode cX2_stiffness 32 = .ok (.bipush 8, 2) := by decide +kernel
theorem dX2_stiffness_34 : decode cX2_stiffness 34 = .ok (.ireturn, 1) := by decide +kernel
theorem dX2_stiffness_35 : decode cX2_stiffness 35 = .ok (.bipush 6, 2) := by decide +kernel
theorem dX2_stiffness_37 : decode cX2_stiffness 37 = .ok (.ireturn, 1) := by decide +kernel
theorem dX2_stiffness_38 : decode cX2_stiffness 38 = .ok (.iconst 5, 1) := by decide +kernel
theorem dX2_stiffness_39 : decode cX2_stiffness 39 = .ok (.ireturn, 1) := by decide +kernel
theorem dX2_stiffness_40 : decode cX2_stiffness 40 = .ok (.iconst 4, 1) := by decide +kernel
theorem dX2_stiffness_41 : decode cX2_stiffness 41 = .ok (.ireturn, 1) := by decide +kernel
theorem dX2_isAsMeant_0 : decode cX2_isAsMeant 0 = .ok (.iconst 0, 1) := by decide +kernel
theorem dX2_isAsMeant_1 : decode cX2_isAsMeant 1 = .ok (.istore_n 1, 1) := by decide +kernel
theorem dX2_isAsMeant_2 : decode cX2_isAsMeant 2 = .ok (.iload_n 1, 1) := by decide +kernel
theorem dX2_isAsMeant_3 : decode cX2_isAsMeant 3 = .ok (.iconst 3, 1) := by decide +kernel
theorem dX2_isAsMeant_4 : decode cX2_isAsMeant 4 = .ok (.if_icmp .ge 26, 3) := by decide +kernel
theorem dX2_isAsMeant_7 : decode cX2_isAsMeant 7 = .ok (.aload_n 0, 1) := by decide +kernel
theorem dX2_isAsMeant_8 : decode cX2_isAsMeant 8 = .ok (.getfield 28, 3) := by decide +kernel
theorem dX2_isAsMeant_11 : decode cX2_isAsMeant 11 = .ok (.iload_n 1, 1) := by decide +kernel
theorem dX2_isAsMeant_12 : decode cX2_isAsMeant 12 = .ok (.iaload, 1) := by decide +kernel
theorem dX2_isAsMeant_13 : decode cX2_isAsMeant 13 = .ok (.aload_n 0, 1) := by decide +kernel
theorem dX2_isAsMeant_14 : decode cX2_isAsMeant 14 = .ok (.getfield 32, 3) := by decide +kernel
theorem dX2_isAsMeant_17 : decode cX2_isAsMeant 17 = .ok (.iload_n 1, 1) := by decide +kernel
theorem dX2_isAsMeant_18 : decode cX2_isAsMeant 18 = .ok (.iaload, 1) := by decide +kernel
theorem dX2_isAsMeant_19 : decode cX2_isAsMeant 19 = .ok (.if_icmp .eq 5, 3) := by decide +kernel
theorem dX2_isAsMeant_22 : decode cX2_isAsMeant 22 = .ok (.iconst 0, 1) := by decide +kernel
theorem dX2_isAsMeant_23 : decode cX2_isAsMeant 23 = .ok (.ireturn, 1) := by decide +kernel
theorem dX2_isAsMeant_24 : decode cX2_isAsMeant 24 = .ok (.iinc 1 1, 3) := by decide +kernel
theorem dX2_isAsMeant_27 : decode cX2_isAsMeant 27 = .ok (.goto (-25), 3) := by decide +kernel
theorem dX2_isAsMeant_30 : decode cX2_isAsMeant 30 = .ok (.iconst 1, 1) := by decide +kernel
theorem dX2_isAsMeant_31 : decode cX2_isAsMeant 31 = .ok (.ireturn, 1) := by decide +kernel
theorem dX2_springBack_0 : decode cX2_springBack 0 = .ok (.iconst 0, 1) := by decide +kernel
theorem dX2_springBack_1 : decode cX2_springBack 1 = .ok (.istore_n 1, 1) := by decide +kernel
theorem dX2_springBack_2 : decode cX2_springBack 2 = .ok (.iconst 0, 1) := by decide +kernel
theorem dX2_springBack_3 : decode cX2_springBack 3 = .ok (.istore_n 2, 1) := by decide +kernel
theorem dX2_springBack_4 : decode cX2_springBack 4 = .ok (.iload_n 2, 1) := by decide +kernel
theorem dX2_springBack_5 : decode cX2_springBack 5 = .ok (.iconst 3, 1) := by decide +kernel
theorem dX2_springBack_6 : decode cX2_springBack 6 = .ok (.if_icmp .ge 52, 3) := by decide +kernel
theorem dX2_springBack_9 : decode cX2_springBack 9 = .ok (.aload_n 0, 1) := by decide +kernel
theorem dX2_springBack_10 : decode cX2_springBack 10 = .ok (.getfield 28, 3) := by decide +kernel
theorem dX2_springBack_13 : decode cX2_springBack 13 = .ok (.iload_n 2, 1) := by decide +kernel
theorem dX2_springBack_14 : decode cX2_springBack 14 = .ok (.dup2, 1) := by decide +kernel
theorem dX2_springBack_15 : decode cX2_springBack 15 = .ok (.iaload, 1) := by decide +kernel
theorem dX2_springBack_16 : decode cX2_springBack 16 = .ok (.aload_n 0, 1) := by decide +kernel
theorem dX2_springBack_17 : decode cX2_springBack 17 = .ok (.getfield 28, 3) := by decide +kernel
theorem dX2_springBack_20 : decode cX2_springBack 20 = .ok (.iload_n 2, 1) := by decide +kernel
theorem dX2_springBack_21 : decode cX2_springBack 21 = .ok (.iaload, 1) := by decide +kernel
theorem dX2_springBack_22 : decode cX2_springBack 22 = .ok (.aload_n 0, 1) := by decide +kernel
theorem dX2_springBack_23 : decode cX2_springBack 23 = .ok (.getfield 19, 3) := by decide +kernel
theorem dX2_springBack_26 : decode cX2_springBack 26 = .ok (.imul, 1) := by decide +kernel
theorem dX2_springBack_27 : decode cX2_springBack 27 = .ok (.sipush 200, 3) := by decide +kernel
theorem dX2_springBack_30 : decode cX2_springBack 30 = .ok (.idiv, 1) := by decide +kernel
theorem dX2_springBack_31 : decode cX2_springBack 31 = .ok (.isub, 1) := by decide +kernel
theorem dX2_springBack_32 : decode cX2_springBack 32 = .ok (.iastore, 1) := by decide +kernel
theorem dX2_springBack_33 : decode cX2_springBack 33 = .ok (.iload_n 1, 1) := by decide +kernel
theorem dX2_springBack_34 : decode cX2_springBack 34 = .ok (.aload_n 0, 1) := by decide +kernel
theorem dX2_springBack_35 : decode cX2_springBack 35 = .ok (.getfield 32, 3) := by decide +kernel
theorem dX2_springBack_38 : decode cX2_springBack 38 = .ok (.iload_n 2, 1) := by decide +kernel
theorem dX2_springBack_39 : decode cX2_springBack 39 = .ok (.iaload, 1) := by decide +kernel
theorem dX2_springBack_40 : decode cX2_springBack 40 = .ok (.aload_n 0, 1) := by decide +kernel
theorem dX2_springBack_41 : decode cX2_springBack 41 = .ok (.getfield 28, 3) := by decide +kernel
theorem dX2_springBack_44 : decode cX2_springBack 44 = .ok (.iload_n 2, 1) := by decide +kernel
theorem dX2_springBack_45 : decode cX2_springBack 45 = .ok (.iaload, 1) := by decide +kernel
theorem dX2_springBack_46 : decode cX2_springBack 46 = .ok (.isub, 1) := by decide +kernel
theorem dX2_springBack_47 : decode cX2_springBack 47 = .ok (.invokestatic 80, 3) := by decide +kernel
theorem dX2_springBack_50 : decode cX2_springBack 50 = .ok (.iadd, 1) := by decide +kernel
theorem dX2_springBack_51 : decode cX2_springBack 51 = .ok (.istore_n 1, 1) := by decide +kernel
theorem dX2_springBack_52 : decode cX2_springBack 52 = .ok (.iinc 2 1, 3) := by decide +kernel
theorem dX2_springBack_55 : decode cX2_springBack 55 = .ok (.goto (-51), 3) := by decide +kernel
theorem dX2_springBack_58 : decode cX2_springBack 58 = .ok (.iload_n 1, 1) := by decide +kernel
theorem dX2_springBack_59 : decode cX2_springBack 59 = .ok (.ireturn, 1) := by decide +kernel
theorem dX2_copyFrom_0 : decode cX2_copyFrom 0 = .ok (.aload_n 0, 1) := by decide +kernel
theorem dX2_copyFrom_1 : decode cX2_copyFrom 1 = .ok (.aload_n 1, 1) := by decide +kernel
theorem dX2_copyFrom_2 : decode cX2_copyFrom 2 = .ok (.getfield 9, 3) := by decide +kernel
theorem dX2_copyFrom_5 : decode cX2_copyFrom 5 = .ok (.putfield 9, 3) := by decide +kernel
theorem dX2_copyFrom_8 : decode cX2_copyFrom 8 = .ok (.aload_n 0, 1) := by decide +kernel
theorem dX2_copyFrom_9 : decode cX2_copyFrom 9 = .ok (.aload_n 1, 1) := by decide +kernel
theorem dX2_copyFrom_10 : decode cX2_copyFrom 10 = .ok (.getfield 15, 3) := by decide +kernel
theorem dX2_copyFrom_13 : decode cX2_copyFrom 13 = .ok (.putfield 15, 3) := by decide +kernel
theorem dX2_copyFrom_16 : decode cX2_copyFrom 16 = .ok (.aload_n 0, 1) := by decide +kernel
theorem dX2_copyFrom_17 : decode cX2_copyFrom 17 = .ok (.aload_n 1, 1) := by decide +kernel
theorem dX2_copyFrom_18 : decode cX2_copyFrom 18 = .ok (.getfield 19, 3) := by decide +kernel
theorem dX2_copyFrom_21 : decode cX2_copyFrom 21 = .ok (.putfield 19, 3) := by decide +kernel
theorem dX2_copyFrom_24 : decode cX2_copyFrom 24 = .ok (.aload_n 0, 1) := by decide +kernel
theorem dX2_copyFrom_25 : decode cX2_copyFrom 25 = .ok (.aload_n 1, 1) := by decide +kernel
theorem dX2_copyFrom_26 : decode cX2_copyFrom 26 = .ok (.getfield 22, 3) := by decide +kernel
theorem dX2_copyFrom_29 : decode cX2_copyFrom 29 = .ok (.putfield 22, 3) := by decide +kernel
theorem dX2_copyFrom_32 : decode cX2_copyFrom 32 = .ok (.aload_n 0, 1) := by decide +kernel
theorem dX2_copyFrom_33 : decode cX2_copyFrom 33 = .ok (.aload_n 1, 1) := by decide +kernel
theorem dX2_copyFrom_34 : decode cX2_copyFrom 34 = .ok (.getfield 25, 3) := by decide +kernel
theorem dX2_copyFrom_37 : decode cX2_copyFrom 37 = .ok (.putfield 25, 3) := by decide +kernel
theorem dX2_copyFrom_40 : decode cX2_copyFrom 40 = .ok (.aload_n 1, 1) := by decide +kernel
theorem dX2_copyFrom_41 : decode cX2_copyFrom 41 = .ok (.getfield 28, 3) := by decide +kernel
theorem dX2_copyFrom_44 : decode cX2_copyFrom 44 = .ok (.iconst 0, 1) := by decide +kernel
theorem dX2_copyFrom_45 : decode cX2_copyFrom 45 = .ok (.aload_n 0, 1) := by decide +kernel
theorem dX2_copyFrom_46 : decode cX2_copyFrom 46 = .ok (.getfield 28, 3) := by decide +kernel
theorem dX2_copyFrom_49 : decode cX2_copyFrom 49 = .ok (.iconst 0, 1) := by decide +kernel
theorem dX2_copyFrom_50 : decode cX2_copyFrom 50 = .ok (.iconst 3, 1) := by decide +kernel
theorem dX2_copyFrom_51 : decode cX2_copyFrom 51 = .ok (.invokestatic 84, 3) := by decide +kernel
theorem dX2_copyFrom_54 : decode cX2_copyFrom 54 = .ok (.aload_n 1, 1) := by decide +kernel
theorem dX2_copyFrom_55 : decode cX2_copyFrom 55 = .ok (.getfield 32, 3) := by decide +kernel
theorem dX2_copyFrom_58 : decode cX2_copyFrom 58 = .ok (.iconst 0, 1) := by decide +kernel
theorem dX2_copyFrom_59 : decode cX2_copyFrom 59 = .ok (.aload_n 0, 1) := by decide +kernel
theorem dX2_copyFrom_60 : decode cX2_copyFrom 60 = .ok (.getfield 32, 3) := by decide +kernel
theorem dX2_copyFrom_63 : decode cX2_copyFrom 63 = .ok (.iconst 0, 1) := by decide +kernel
theorem dX2_copyFrom_64 : decode cX2_copyFrom 64 = .ok (.iconst 3, 1) := by decide +kernel
theorem dX2_copyFrom_65 : decode cX2_copyFrom 65 = .ok (.invokestatic 84, 3) := by decide +kernel
theorem dX2_copyFrom_68 : decode cX2_copyFrom 68 = .ok (.return_, 1) := by decide +kernel
theorem dX3_init_0 : decode cX3_init 0 = .ok (.aload_n 0, 1) := by decide +kernel
theorem dX3_init_1 : decode cX3_init 1 = .ok (.invokespecial 3, 3) := by decide +kernel
theorem dX3_init_4 : decode cX3_init 4 = .ok (.aload_n 0, 1) := by decide +kernel
theorem dX3_init_5 : decode cX3_init 5 = .ok (.bipush 60, 2) := by decide +kernel
theorem dX3_init_7 : decode cX3_init 7 = .ok (.anewarray 9, 3) := by decide +kernel
theorem dX3_init_10 : decode cX3_init 10 = .ok (.putfield 11, 3) := by decide +kernel
theorem dX3_init_13 : decode cX3_init 13 = .ok (.aload_n 0, 1) := by decide +kernel
theorem dX3_init_14 : decode cX3_init 14 = .ok (.iconst 0, 1) := by decide +kernel
theorem dX3_init_15 : decode cX3_init 15 = .ok (.putfield 17, 3) := by decide +kernel
theorem dX3_init_18 : decode cX3_init 18 = .ok (.aload_n 0, 1) := by decide +kernel
theorem dX3_init_19 : decode cX3_init 19 = .ok (.iconst 0, 1) := by decide +kernel
theorem dX3_init_20 : decode cX3_init 20 = .ok (.putfield 21, 3) := by decide +kernel
theorem dX3_init_23 : decode cX3_init 23 = .ok (.aload_n 0, 1) := by decide +kernel
theorem dX3_init_24 : decode cX3_init 24 = .ok (.iconst 0, 1) := by decide +kernel
theorem dX3_init_25 : decode cX3_init 25 = .ok (.putfield 24, 3) := by decide +kernel
theorem dX3_init_28 : decode cX3_init 28 = .ok (.aload_n 0, 1) := by decide +kernel
theorem dX3_init_29 : decode cX3_init 29 = .ok (.iconst 0, 1) := by decide +kernel
theorem dX3_init_30 : decode cX3_init 30 = .ok (.putfield 27, 3) := by decide +kernel
theorem dX3_init_33 : decode cX3_init 33 = .ok (.return_, 1) := by decide +kernel
theorem dX3_append_0 : decode cX3_append 0 = .ok (.aload_n 0, 1) := by decide +kernel
theorem dX3_append_1 : decode cX3_append 1 = .ok (.getfield 17, 3) := by decide +kernel
theorem dX3_append_4 : decode cX3_append 4 = .ok (.bipush 60, 2) := by decide +kernel
theorem dX3_append_6 : decode cX3_append 6 = .ok (.if_icmp .lt 4, 3) := by decide +kernel
theorem dX3_append_9 : decode cX3_append 9 = .ok (.return_, 1) := by decide +kernel
theorem dX3_append_10 : decode cX3_append 10 = .ok (.aload_n 0, 1) := by decide +kernel
theorem dX3_append_11 : decode cX3_append 11 = .ok (.getfield 11, 3) := by decide +kernel
theorem dX3_append_14 : decode cX3_append 14 = .ok (.aload_n 0, 1) := by decide +kernel
theorem dX3_append_15 : decode cX3_append 15 = .ok (.getfield 17, 3) := by decide +kernel
theorem dX3_append_18 : decode cX3_append 18 = .ok (.aload_n 1, 1) := by decide +kernel
theorem dX3_append_19 : decode cX3_append 19 = .ok (.aastore, 1) := by decide +kernel
theorem dX3_append_20 : decode cX3_append 20 = .ok (.aload_n 0, 1) := by decide +kernel
theorem dX3_append_21 : decode cX3_append 21 = .ok (.dup, 1) := by decide +kernel
theorem dX3_append_22 : decode cX3_append 22 = .ok (.getfield 17, 3) := by decide +kernel
theorem dX3_append_25 : decode cX3_append 25 = .ok (.iconst 1, 1) := by decide +kernel
theorem dX3_append_26 : decode cX3_append 26 = .ok (.iadd, 1) := by decide +kernel
theorem dX3_append_27 : decode cX3_append 27 = .ok (.putfield 17, 3) := by decide +kernel
theorem dX3_append_30 : decode cX3_append 30 = .ok (.aload_n 1, 1) := by decide +kernel
theorem dX3_append_31 : decode cX3_append 31 = .ok (.getfield 30, 3) := by decide +kernel
theorem dX3_append_34 : decode cX3_append 34 = .ok (.iconst 2, 1) := by decide +kernel
theorem dX3_append_35 : decode cX3_append 35 = .ok (.if_icmp .ne 26, 3) := by decide +kernel
theorem dX3_append_38 : decode cX3_append 38 = .ok (.aload_n 0, 1) := by decide +kernel
theorem dX3_append_39 : decode cX3_append 39 = .ok (.dup, 1) := by decide +kernel
theorem dX3_append_40 : decode cX3_append 40 = .ok (.getfield 21, 3) := by decide +kernel
theorem dX3_append_43 : decode cX3_append 43 = .ok (.iconst 1, 1) := by decide +kernel
theorem dX3_append_44 : decode cX3_append 44 = .ok (.iadd, 1) := by decide +kernel
theorem dX3_append_45 : decode cX3_append 45 = .ok (.putfield 21, 3) := by decide +kernel
theorem dX3_append_48 : decode cX3_append 48 = .ok (.aload_n 0, 1) := by decide +kernel
theorem dX3_append_49 : decode cX3_append 49 = .ok (.dup, 1) := by decide +kernel
theorem dX3_append_50 : decode cX3_append 50 = .ok (.getfield 24, 3) := by decide +kernel
theorem dX3_append_53 : decode cX3_append 53 = .ok (.aload_n 1, 1) := by decide +kernel
theorem dX3_append_54 : decode cX3_append 54 = .ok (.getfield 33, 3) := by decide +kernel
theorem dX3_append_57 : decode cX3_append 57 = .ok (.iadd, 1) := by decide +kernel
theorem dX3_append_58 : decode cX3_append 58 = .ok (.putfield 24, 3) := by decide +kernel
theorem dX3_append_61 : decode cX3_append 61 = .ok (.aload_n 1, 1) := by decide +kernel
theorem dX3_append_62 : decode cX3_append 62 = .ok (.getfield 30, 3) := by decide +kernel
theorem dX3_append_65 : decode cX3_append 65 = .ok (.iconst 3, 1) := by decide +kernel
theorem dX3_append_66 : decode cX3_append 66 = .ok (.if_icmp .eq 20, 3) := by decide +kernel
theorem dX3_append_69 : decode cX3_append 69 = .ok (.aload_n 1, 1) := by decide +kernel
theorem dX3_append_70 : decode cX3_append 70 = .ok (.getfield 30, 3) := by decide +kernel
theorem dX3_append_73 : decode cX3_append 73 = .ok (.iconst 4, 1) := by decide +kernel
theorem dX3_append_74 : decode cX3_append 74 = .ok (.if_icmp .eq 12, 3) := by decide +kernel
theorem dX3_append_77 : decode cX3_append 77 = .ok (.aload_n 1, 1) := by decide +kernel
theorem dX3_append_78 : decode cX3_append 78 = .ok (.getfield 30, 3) := by decide +kernel
theorem dX3_append_81 : decode cX3_append 81 = .ok (.bipush 6, 2) := by decide +kernel
theorem dX3_append_83 : decode cX3_append 83 = .ok (.if_icmp .ne 7, 3) := by decide +kernel
theorem dX3_append_86 : decode cX3_append 86 = .ok (.iconst 1, 1) := by decide +kernel
theorem dX3_append_87 : decode cX3_append 87 = .ok (.goto 4, 3) := by decide +kernel
theorem dX3_append_90 : decode cX3_append 90 = .ok (.iconst 0, 1) := by decide +kernel
theorem dX3_append_91 : decode cX3_append 91 = .ok (.istore_n 2, 1) := by decide +kernel
theorem dX3_append_92 : decode cX3_append 92 = .ok (.aload_n 0, 1) := by decide +kernel
theorem dX3_append_93 : decode cX3_append 93 = .ok (.dup, 1) := by decide +kernel
theorem dX3_append_94 : decode cX3_append 94 = .ok (.getfield 27, 3) := by decide +kernel
theorem dX3_append_97 : decode cX3_append 97 = .ok (.iload_n 2, 1) := by decide +kernel
theorem dX3_append_98 : decode cX3_append 98 = .ok (.ifCond .eq 10, 3) := by decide +kernel
theorem dX3_append_101 : decode cX3_append 101 = .ok (.aload_n 1, 1) := by decide +kernel
theorem dX3_append_102 : decode cX3_append 102 = .ok (.getfield 36, 3) := by decide +kernel
theorem dX3_append_105 : decode cX3_append 105 = .ok (.goto 4, 3) := by decide +kernel
theorem dX3_append_108 : decode cX3_append 108 = .ok (.iconst 1, 1) := by decide +kernel
theorem dX3_append_109 : decode cX3_append 109 = .ok (.iadd, 1) := by decide +kernel
theorem dX3_append_110 : decode cX3_append 110 = .ok (.putfield 27, 3) := by decide +kernel
theorem dX3_append_113 : decode cX3_append 113 = .ok (.return_, 1) := by decide +kernel
theorem dX3_at_0 : decode cX3_at 0 = .ok (.iload_n 1, 1) := by decide +kernel
theorem dX3_at_1 : decode cX3_at 1 = .ok (.aload_n 0, 1) := by decide +kernel
theorem dX3_at_2 : decode cX3_at 2 = .ok (.getfield 17, 3) := by decide +kernel
theorem dX3_at_5 : decode cX3_at 5 = .ok (.invokestatic 39, 3) := by decide +kernel
theorem dX3_at_8 : decode cX3_at 8 = .ok (.ifCond .eq 12, 3) := by decide +kernel
theorem dX3_at_11 : decode cX3_at 11 = .ok (.aload_n 0, 1) := by decide +kernel
theorem dX3_at_12 : decode cX3_at 12 = .ok (.getfield 11, 3) := by decide +kernel
theorem dX3_at_15 : decode cX3_at 15 = .ok (.iload_n 1, 1) := by decide +kernel
theorem dX3_at_16 : decode cX3_at 16 = .ok (.aaload, 1) := by decide +kernel
theorem dX3_at_17 : decode cX3_at 17 = .ok (.goto 4, 3) := by decide +kernel
theorem dX3_at_20 : decode cX3_at 20 = .ok (.aconst_null, 1) := by decide +kernel
theorem dX3_at_21 : decode cX3_at 21 = .ok (.areturn, 1) := by decide +kernel
theorem dX3_tell_0 : decode cX3_tell 0 = .ok (.iload_n 1, 1) := by decide +kernel
theorem dX3_tell_1 : decode cX3_tell 1 = .ok (.tableswitch 42 0 2 #[27, 32, 37], 27) := by decide +kernel
theorem dX3_tell_28 : decode cX3_tell 28 = .ok (.aload_n 0, 1) := by decide +kernel
theorem dX3_tell_29 : decode cX3_tell 29 = .ok (.getfield 17, 3) := by decide +kernel
theorem dX3_tell_32 : decode cX3_tell 32 = .ok (.ireturn, 1) := by decide +kernel
theorem dX3_tell_33 : decode cX3_tell 33 = .ok (.aload_n 0, 1) := by decide +kernel
theorem dX3_tell_34 : decode cX3_tell 34 = .ok (.getfield 21, 3) := by decide +kernel
theorem dX3_tell_37 : decode cX3_tell 37 = .ok (.ireturn, 1) := by decide +kernel
theorem dX3_tell_38 : decode cX3_tell 38 = .ok (.aload_n 0, 1) := by decide +kernel
theorem dX3_tell_39 : decode cX3_tell 39 = .ok (.getfield 24, 3) := by decide +kernel
theorem dX3_tell_42 : decode cX3_tell 42 = .ok (.ireturn, 1) := by decide +kernel
theorem dX3_tell_43 : decode cX3_tell 43 = .ok (.aload_n 0, 1) := by decide +kernel
theorem dX3_tell_44 : decode cX3_tell 44 = .ok (.getfield 27, 3) := by decide +kernel
theorem dX3_tell_47 : decode cX3_tell 47 = .ok (.ireturn, 1) := by decide +kernel
theorem dX4_init_0 : decode cX4_init 0 = .ok (.aload_n 0, 1) := by decide +kernel
theorem dX4_init_1 : decode cX4_init 1 = .ok (.invokespecial 3, 3) := by decide +kernel
theorem dX4_init_4 : decode cX4_init 4 = .ok (.aload_n 0, 1) := by decide +kernel
theorem dX4_init_5 : decode cX4_init 5 = .ok (.iconst 0, 1) := by decide +kernel
theorem dX4_init_6 : decode cX4_init 6 = .ok (.putfield 9, 3) := by decide +kernel
theorem dX4_init_9 : decode cX4_init 9 = .ok (.aload_n 0, 1) := by decide +kernel
theorem dX4_init_10 : decode cX4_init 10 = .ok (.iconst 0, 1) := by decide +kernel
theorem dX4_init_11 : decode cX4_init 11 = .ok (.putfield 15, 3) := by decide +kernel
theorem dX4_init_14 : decode cX4_init 14 = .ok (.aload_n 0, 1) := by decide +kernel
theorem dX4_init_15 : decode cX4_init 15 = .ok (.iconst 0, 1) := by decide +kernel
theorem dX4_init_16 : decode cX4_init 16 = .ok (.putfield 18, 3) := by decide +kernel
theorem dX4_init_19 : decode cX4_init 19 = .ok (.aload_n 0, 1) := by decide +kernel
theorem dX4_init_20 : decode cX4_init 20 = .ok (.iconst 0, 1) := by decide +kernel
theorem dX4_init_21 : decode cX4_init 21 = .ok (.putfield 21, 3) := by decide +kernel
theorem dX4_init_24 : decode cX4_init 24 = .ok (.aload_n 0, 1) := by decide +kernel
theorem dX4_init_25 : decode cX4_init 25 = .ok (.bipush 8, 2) := by decide +kernel
theorem dX4_init_27 : decode cX4_init 27 = .ok (.newarray .int, 2) := by decide +kernel
theorem dX4_init_29 : decode cX4_init 29 = .ok (.putfield 24, 3) := by decide +kernel
theorem dX4_init_32 : decode cX4_init 32 = .ok (.return_, 1) := by decide +kernel
theorem dX4_become_0 : decode cX4_become 0 = .ok (.aload_n 0, 1) := by decide +kernel
theorem dX4_become_1 : decode cX4_become 1 = .ok (.iload_n 1, 1) := by decide +kernel
theorem dX4_become_2 : decode cX4_become 2 = .ok (.putfield 9, 3) := by decide +kernel
theorem dX4_become_5 : decode cX4_become 5 = .ok (.aload_n 0, 1) := by decide +kernel
theorem dX4_become_6 : decode cX4_become 6 = .ok (.iload_n 2, 1) := by decide +kernel
theorem dX4_become_7 : decode cX4_become 7 = .ok (.putfield 15, 3) := by decide +kernel
theorem dX4_become_10 : decode cX4_become 10 = .ok (.aload_n 0, 1) := by decide +kernel
theorem dX4_become_11 : decode cX4_become 11 = .ok (.iload_n 3, 1) := by decide +kernel
theorem dX4_become_12 : decode cX4_become 12 = .ok (.putfield 18, 3) := by decide +kernel
theorem dX4_become_15 : decode cX4_become 15 = .ok (.aload_n 0, 1) := by decide +kernel
theorem dX4_become_16 : decode cX4_become 16 = .ok (.iconst 0, 1) := by decide +kernel
theorem dX4_become_17 : decode cX4_become 17 = .ok (.putfield 21, 3) := by decide +kernel
theorem dX4_become_20 : decode cX4_become 20 = .ok (.return_, 1) := by decide +kernel
theorem dX4_hasKnotAt_0 : decode cX4_hasKnotAt 0 = .ok (.iconst 0, 1) := by decide +kernel
theorem dX4_hasKnotAt_1 : decode cX4_hasKnotAt 1 = .ok (.istore_n 2, 1) := by decide +kernel
theorem dX4_hasKnotAt_2 : decode cX4_hasKnotAt 2 = .ok (.iload_n 2, 1) := by decide +kernel
theorem dX4_hasKnotAt_3 : decode cX4_hasKnotAt 3 = .ok (.aload_n 0, 1) := by decide +kernel
theorem dX4_hasKnotAt_4 : decode cX4_hasKnotAt 4 = .ok (.getfield 21, 3) := by decide +kernel
theorem dX4_hasKnotAt_7 : decode cX4_hasKnotAt 7 = .ok (.if_icmp .ge 21, 3) := by decide +kernel
theorem dX4_hasKnotAt_10 : decode cX4_hasKnotAt 10 = .ok (.aload_n 0, 1) := by decide +kernel
theorem dX4_hasKnotAt_11 : decode cX4_hasKnotAt 11 = .ok (.getfield 24, 3) := by decide +kernel
theorem dX4_hasKnotAt_14 : decode cX4_hasKnotAt 14 = .ok (.iload_n 2, 1) := by decide +kernel
theorem dX4_hasKnotAt_15 : decode cX4_hasKnotAt 15 = .ok (.iaload, 1) := by decide +kernel
theorem dX4_hasKnotAt_16 : decode cX4_hasKnotAt 16 = .ok (.iload_n 1, 1) := by decide +kernel
theorem dX4_hasKnotAt_17 : decode cX4_hasKnotAt 17 = .ok (.if_icmp .ne 5, 3) := by decide +kernel
theorem dX4_hasKnotAt_20 : decode cX4_hasKnotAt 20 = .ok (.iconst 1, 1) := by decide +kernel
theorem dX4_hasKnotAt_21 : decode cX4_hasKnotAt 21 = .ok (.ireturn, 1) := by decide +kernel
theorem dX4_hasKnotAt_22 : decode cX4_hasKnotAt 22 = .ok (.iinc 2 1, 3) := by decide +kernel
theorem dX4_hasKnotAt_25 : decode cX4_hasKnotAt 25 = .ok (.goto (-23), 3) := by decide +kernel
theorem dX4_hasKnotAt_28 : decode cX4_hasKnotAt 28 = .ok (.iconst 0, 1) := by decide +kernel
theorem dX4_hasKnotAt_29 : decode cX4_hasKnotAt 29 = .ok (.ireturn, 1) := by decide +kernel
theorem dX4_insertKnot_0 : decode cX4_insertKnot 0 = .ok (.aload_n 0, 1) := by decide +kernel
theorem dX4_insertKnot_1 : decode cX4_insertKnot 1 = .ok (.getfield 21, 3) := by decide +kernel
theorem dX4_insertKnot_4 : decode cX4_insertKnot 4 = .ok (.bipush 8, 2) := by decide +kernel
theorem dX4_insertKnot_6 : decode cX4_insertKnot 6 = .ok (.if_icmp .lt 4, 3) := by decide +kernel
theorem dX4_insertKnot_9 : decode cX4_insertKnot 9 = .ok (.return_, 1) := by decide +kernel
theorem dX4_insertKnot_10 : decode cX4_insertKnot 10 = .ok (.aload_n 0, 1) := by decide +kernel
theorem dX4_insertKnot_11 : decode cX4_insertKnot 11 = .ok (.getfield 21, 3) := by decide +kernel
theorem dX4_insertKnot_14 : decode cX4_insertKnot 14 = .ok (.istore_n 2, 1) := by decide +kernel
theorem dX4_insertKnot_15 : decode cX4_insertKnot 15 = .ok (.iload_n 2, 1) := by decide +kernel
theorem dX4_insertKnot_16 : decode cX4_insertKnot 16 = .ok (.ifCond .le 35, 3) := by decide +kernel
theorem dX4_insertKnot_19 : decode cX4_insertKnot 19 = .ok (.aload_n 0, 1) := by decide +kernel
theorem dX4_insertKnot_20 : decode cX4_insertKnot 20 = .ok (.getfield 24, 3) := by decide +kernel
theorem dX4_insertKnot_23 : decode cX4_insertKnot 23 = .ok (.iload_n 2, 1) := by decide +kernel
theorem dX4_insertKnot_24 : decode cX4_insertKnot 24 = .ok (.iconst 1, 1) := by decide +kernel
theorem dX4_insertKnot_25 : decode cX4_insertKnot 25 = .ok (.isub, 1) := by decide +kernel
theorem dX4_insertKnot_26 : decode cX4_insertKnot 26 = .ok (.iaload, 1) := by decide +kernel
theorem dX4_insertKnot_27 : decode cX4_insertKnot 27 = .ok (.iload_n 1, 1) := by decide +kernel
theorem dX4_insertKnot_28 : decode cX4_insertKnot 28 = .ok (.if_icmp .le 23, 3) := by decide +kernel
theorem dX4_insertKnot_31 : decode cX4_insertKnot 31 = .ok (.aload_n 0, 1) := by decide +kernel
theorem dX4_insertKnot_32 : decode cX4_insertKnot 32 = .ok (.getfield 24, 3) := by decide +kernel
theorem dX4_insertKnot_35 : decode cX4_insertKnot 35 = .ok (.iload_n 2, 1) := by decide +kernel
theorem dX4_insertKnot_36 : decode cX4_insertKnot 36 = .ok (.aload_n 0, 1) := by decide +kernel
theorem dX4_insertKnot_37 : decode cX4_insertKnot 37 = .ok (.getfield 24, 3) := by decide +kernel
theorem dX4_insertKnot_40 : decode cX4_insertKnot 40 = .ok (.iload_n 2, 1) := by decide +kernel
theorem dX4_insertKnot_41 : decode cX4_insertKnot 41 = .ok (.iconst 1, 1) := by decide +kernel
theorem dX4_insertKnot_42 : decode cX4_insertKnot 42 = .ok (.isub, 1) := by decide +kernel
theorem dX4_insertKnot_43 : decode cX4_insertKnot 43 = .ok (.iaload, 1) := by decide +kernel
theorem dX4_insertKnot_44 : decode cX4_insertKnot 44 = .ok (.iastore, 1) := by decide +kernel
theorem dX4_insertKnot_45 : decode cX4_insertKnot 45 = .ok (.iinc 2 (-1), 3) := by decide +kernel
theorem dX4_insertKnot_48 : decode cX4_insertKnot 48 = .ok (.goto (-33), 3) := by decide +kernel
theorem dX4_insertKnot_51 : decode cX4_insertKnot 51 = .ok (.aload_n 0, 1) := by decide +kernel
theorem dX4_insertKnot_52 : decode cX4_insertKnot 52 = .ok (.getfield 24, 3) := by decide +kernel
theorem dX4_insertKnot_55 : decode cX4_insertKnot 55 = .ok (.iload_n 2, 1) := by decide +kernel
theorem dX4_insertKnot_56 : decode cX4_insertKnot 56 = .ok (.iload_n 1, 1) := by decide +kernel
theorem dX4_insertKnot_57 : decode cX4_insertKnot 57 = .ok (.iastore, 1) := by decide +kernel
theorem dX4_insertKnot_58 : decode cX4_insertKnot 58 = .ok (.aload_n 0, 1) := by decide +kernel
theorem dX4_insertKnot_59 : decode cX4_insertKnot 59 = .ok (.dup, 1) := by decide +kernel
theorem dX4_insertKnot_60 : decode cX4_insertKnot 60 = .ok (.getfield 21, 3) := by decide +kernel
theorem dX4_insertKnot_63 : decode cX4_insertKnot 63 = .ok (.iconst 1, 1) := by decide +kernel
theorem dX4_insertKnot_64 : decode cX4_insertKnot 64 = .ok (.iadd, 1) := by decide +kernel
theorem dX4_insertKnot_65 : decode cX4_insertKnot 65 = .ok (.putfield 21, 3) := by decide +kernel
theorem dX4_insertKnot_68 : decode cX4_insertKnot 68 = .ok (.return_, 1) := by decide +kernel
theorem dX4_clearPlaceFor_0 : decode cX4_clearPlaceFor 0 = .ok (.iconst 0, 1) := by decide +kernel
theorem dX4_clearPlaceFor_1 : decode cX4_clearPlaceFor 1 = .ok (.istore_n 2, 1) := by decide +kernel
theorem dX4_clearPlaceFor_2 : decode cX4_clearPlaceFor 2 = .ok (.iconst 0, 1) := by decide +kernel
theorem dX4_clearPlaceFor_3 : decode cX4_clearPlaceFor 3 = .ok (.istore_n 3, 1) := by decide +kernel
theorem dX4_clearPlaceFor_4 : decode cX4_clearPlaceFor 4 = .ok (.iload_n 3, 1) := by decide +kernel
theorem dX4_clearPlaceFor_5 : decode cX4_clearPlaceFor 5 = .ok (.aload_n 0, 1) := by decide +kernel
theorem dX4_clearPlaceFor_6 : decode cX4_clearPlaceFor 6 = .ok (.getfield 21, 3) := by decide +kernel
theorem dX4_clearPlaceFor_9 : decode cX4_clearPlaceFor 9 = .ok (.if_icmp .ge 32, 3) := by decide +kernel
theorem dX4_clearPlaceFor_12 : decode cX4_clearPlaceFor 12 = .ok (.aload_n 0, 1) := by decide +kernel
theorem dX4_clearPlaceFor_13 : decode cX4_clearPlaceFor 13 = .ok (.getfield 24, 3) := by decide +kernel
theorem dX4_clearPlaceFor_16 : decode cX4_clearPlaceFor 16 = .ok (.iload_n 3, 1) := by decide +kernel
theorem dX4_clearPlaceFor_17 : decode cX4_clearPlaceFor 17 = .ok (.iaload, 1) := by decide +kernel
theorem dX4_clearPlaceFor_18 : decode cX4_clearPlaceFor 18 = .ok (.iload_n 2, 1) := by decide +kernel
theorem dX4_clearPlaceFor_19 : decode cX4_clearPlaceFor 19 = .ok (.isub, 1) := by decide +kernel
theorem dX4_clearPlaceFor_20 : decode cX4_clearPlaceFor 20 = .ok (.iload_n 1, 1) := by decide +kernel
theorem dX4_clearPlaceFor_21 : decode cX4_clearPlaceFor 21 = .ok (.if_icmp .lt 5, 3) := by decide +kernel
theorem dX4_clearPlaceFor_24 : decode cX4_clearPlaceFor 24 = .ok (.iload_n 2, 1) := by decide +kernel
theorem dX4_clearPlaceFor_25 : decode cX4_clearPlaceFor 25 = .ok (.ireturn, 1) := by decide +kernel
theorem dX4_clearPlaceFor_26 : decode cX4_clearPlaceFor 26 = .ok (.aload_n 0, 1) := by decide +kernel
theorem dX4_clearPlaceFor_27 : decode cX4_clearPlaceFor 27 = .ok (.getfield 24, 3) := by decide +kernel
theorem dX4_clearPlaceFor_30 : decode cX4_clearPlaceFor 30 = .ok (.iload_n 3, 1) := by decide +kernel
theorem dX4_clearPlaceFor_31 : decode cX4_clearPlaceFor 31 = .ok (.iaload, 1) := by decide +kernel
theorem dX4_clearPlaceFor_32 : decode cX4_clearPlaceFor 32 = .ok (.iconst 1, 1) := by decide +kernel
theorem dX4_clearPlaceFor_33 : decode cX4_clearPlaceFor 33 = .ok (.iadd, 1) := by decide +kernel
theorem dX4_clearPlaceFor_34 : decode cX4_clearPlaceFor 34 = .ok (.istore_n 2, 1) := by decide +kernel
theorem dX4_clearPlaceFor_35 : decode cX4_clearPlaceFor 35 = .ok (.iinc 3 1, 3) := by decide +kernel
theorem dX4_clearPlaceFor_38 : decode cX4_clearPlaceFor 38 = .ok (.goto (-34), 3) := by decide +kernel
theorem dX4_clearPlaceFor_41 : decode cX4_clearPlaceFor 41 = .ok (.aload_n 0, 1) := by decide +kernel
theorem dX4_clearPlaceFor_42 : decode cX4_clearPlaceFor 42 = .ok (.getfield 15, 3) := by decide +kernel
theorem dX4_clearPlaceFor_45 : decode cX4_clearPlaceFor 45 = .ok (.iload_n 2, 1) := by decide +kernel
theorem dX4_clearPlaceFor_46 : decode cX4_clearPlaceFor 46 = .ok (.isub, 1) := by decide +kernel
theorem dX4_clearPlaceFor_47 : decode cX4_clearPlaceFor 47 = .ok (.iload_n 1, 1) := by decide +kernel
theorem dX4_clearPlaceFor_48 : decode cX4_clearPlaceFor 48 = .ok (.if_icmp .lt 7, 3) := by decide +kernel
theorem dX4_clearPlaceFor_51 : decode cX4_clearPlaceFor 51 = .ok (.iload_n 2, 1) := by decide +kernel
theorem dX4_clearPlaceFor_52 : decode cX4_clearPlaceFor 52 = .ok (.goto 4, 3) := by decide +kernel
theorem dX4_clearPlaceFor_55 : decode cX4_clearPlaceFor 55 = .ok (.iconst (-1), 1) := by decide +kernel
theorem dX4_clearPlaceFor_56 : decode cX4_clearPlaceFor 56 = .ok (.ireturn, 1) := by decide +kernel
theorem dX4_mostClear_0 : decode cX4_mostClear 0 = .ok (.iconst 0, 1) := by decide +kernel
theorem dX4_mostClear_1 : decode cX4_mostClear 1 = .ok (.istore_n 1, 1) := by decide +kernel
theorem dX4_mostClear_2 : decode cX4_mostClear 2 = .ok (.iconst 0, 1) := by decide +kernel
theorem dX4_mostClear_3 : decode cX4_mostClear 3 = .ok (.istore_n 2, 1) := by decide +kernel
theorem dX4_mostClear_4 : decode cX4_mostClear 4 = .ok (.iconst 0, 1) := by decide +kernel
theorem dX4_mostClear_5 : decode cX4_mostClear 5 = .ok (.istore_n 3, 1) := by decide +kernel
theorem dX4_mostClear_6 : decode cX4_mostClear 6 = .ok (.iload_n 3, 1) := by decide +kernel
theorem dX4_mostClear_7 : decode cX4_mostClear 7 = .ok (.aload_n 0, 1) := by decide +kernel
theorem dX4_mostClear_8 : decode cX4_mostClear 8 = .ok (.getfield 21, 3) := by decide +kernel
theorem dX4_mostClear_11 : decode cX4_mostClear 11 = .ok (.if_icmp .ge 31, 3) := by decide +kernel
theorem dX4_mostClear_14 : decode cX4_mostClear 14 = .ok (.iload_n 2, 1) := by decide +kernel
theorem dX4_mostClear_15 : decode cX4_mostClear 15 = .ok (.aload_n 0, 1) := by decide +kernel
theorem dX4_mostClear_16 : decode cX4_mostClear 16 = .ok (.getfield 24, 3) := by decide +kernel
theorem dX4_mostClear_19 : decode cX4_mostClear 19 = .ok (.iload_n 3, 1) := by decide +kernel
theorem dX4_mostClear_20 : decode cX4_mostClear 20 = .ok (.iaload, 1) := by decide +kernel
theorem dX4_mostClear_21 : decode cX4_mostClear 21 = .ok (.iload_n 1, 1) := by decide +kernel
theorem dX4_mostClear_22 : decode cX4_mostClear 22 = .ok (.isub, 1) := by decide +kernel
theorem dX4_mostClear_23 : decode cX4_mostClear 23 = .ok (.invokestatic 28, 3) := by decide +kernel
theorem dX4_mostClear_26 : decode cX4_mostClear 26 = .ok (.istore_n 2, 1) := by decide +kernel
theorem dX4_mostClear_27 : decode cX4_mostClear 27 = .ok (.aload_n 0, 1) := by decide +kernel
theorem dX4_mostClear_28 : decode cX4_mostClear 28 = .ok (.getfield 24, 3) := by decide +kernel
theorem dX4_mostClear_31 : decode cX4_mostClear 31 = .ok (.iload_n 3, 1) := by decide +kernel
theorem dX4_mostClear_32 : decode cX4_mostClear 32 = .ok (.iaload, 1) := by decide +kernel
theorem dX4_mostClear_33 : decode cX4_mostClear 33 = .ok (.iconst 1, 1) := by decide +kernel
theorem dX4_mostClear_34 : decode cX4_mostClear 34 = .ok (.iadd, 1) := by decide +kernel
theorem dX4_mostClear_35 : decode cX4_mostClear 35 = .ok (.istore_n 1, 1) := by decide +kernel
theorem dX4_mostClear_36 : decode cX4_mostClear 36 = .ok (.iinc 3 1, 3) := by decide +kernel
theorem dX4_mostClear_39 : decode cX4_mostClear 39 = .ok (.goto (-33), 3) := by decide +kernel
theorem dX4_mostClear_42 : decode cX4_mostClear 42 = .ok (.iload_n 2, 1) := by decide +kernel
theorem dX4_mostClear_43 : decode cX4_mostClear 43 = .ok (.aload_n 0, 1) := by decide +kernel
theorem dX4_mostClear_44 : decode cX4_mostClear 44 = .ok (.getfield 15, 3) := by decide +kernel
theorem dX4_mostClear_47 : decode cX4_mostClear 47 = .ok (.iload_n 1, 1) := by decide +kernel
theorem dX4_mostClear_48 : decode cX4_mostClear 48 = .ok (.isub, 1) := by decide +kernel
theorem dX4_mostClear_49 : decode cX4_mostClear 49 = .ok (.invokestatic 28, 3) := by decide +kernel
theorem dX4_mostClear_52 : decode cX4_mostClear 52 = .ok (.ireturn, 1) := by decide +kernel
theorem dX4_becomeEndOf_0 : decode cX4_becomeEndOf 0 = .ok (.aload_n 0, 1) := by decide +kernel
theorem dX4_becomeEndOf_1 : decode cX4_becomeEndOf 1 = .ok (.aload_n 1, 1) := by decide +kernel
theorem dX4_becomeEndOf_2 : decode cX4_becomeEndOf 2 = .ok (.getfield 9, 3) := by decide +kernel
theorem dX4_becomeEndOf_5 : decode cX4_becomeEndOf 5 = .ok (.aload_n 1, 1) := by decide +kernel
theorem dX4_becomeEndOf_6 : decode cX4_becomeEndOf 6 = .ok (.getfield 15, 3) := by decide +kernel
theorem dX4_becomeEndOf_9 : decode cX4_becomeEndOf 9 = .ok (.iload_n 2, 1) := by decide +kernel
theorem dX4_becomeEndOf_10 : decode cX4_becomeEndOf 10 = .ok (.isub, 1) := by decide +kernel
theorem dX4_becomeEndOf_11 : decode cX4_becomeEndOf 11 = .ok (.aload_n 1, 1) := by decide +kernel
theorem dX4_becomeEndOf_12 : decode cX4_becomeEndOf 12 = .ok (.getfield 18, 3) := by decide +kernel
theorem dX4_becomeEndOf_15 : decode cX4_becomeEndOf 15 = .ok (.invokevirtual 34, 3) := by decide +kernel
theorem dX4_becomeEndOf_18 : decode cX4_becomeEndOf 18 = .ok (.iconst 0, 1) := by decide +kernel
theorem dX4_becomeEndOf_19 : decode cX4_becomeEndOf 19 = .ok (.istore_n 3, 1) := by decide +kernel
theorem dX4_becomeEndOf_20 : decode cX4_becomeEndOf 20 = .ok (.iload_n 3, 1) := by decide +kernel
theorem dX4_becomeEndOf_21 : decode cX4_becomeEndOf 21 = .ok (.aload_n 1, 1) := by decide +kernel
theorem dX4_becomeEndOf_22 : decode cX4_becomeEndOf 22 = .ok (.getfield 21, 3) := by decide +kernel
theorem dX4_becomeEndOf_25 : decode cX4_becomeEndOf 25 = .ok (.if_icmp .ge 46, 3) := by decide +kernel
theorem dX4_becomeEndOf_28 : decode cX4_becomeEndOf 28 = .ok (.aload_n 1, 1) := by decide +kernel
theorem dX4_becomeEndOf_29 : decode cX4_becomeEndOf 29 = .ok (.getfield 24, 3) := by decide +kernel
theorem dX4_becomeEndOf_32 : decode cX4_becomeEndOf 32 = .ok (.iload_n 3, 1) := by decide +kernel
theorem dX4_becomeEndOf_33 : decode cX4_becomeEndOf 33 = .ok (.iaload, 1) := by decide +kernel
theorem dX4_becomeEndOf_34 : decode cX4_becomeEndOf 34 = .ok (.iload_n 2, 1) := by decide +kernel
theorem dX4_becomeEndOf_35 : decode cX4_becomeEndOf 35 = .ok (.if_icmp .lt 30, 3) := by decide +kernel
theorem dX4_becomeEndOf_38 : decode cX4_becomeEndOf 38 = .ok (.aload_n 0, 1) := by decide +kernel
theorem dX4_becomeEndOf_39 : decode cX4_becomeEndOf 39 = .ok (.getfield 24, 3) := by decide +kernel
theorem dX4_becomeEndOf_42 : decode cX4_becomeEndOf 42 = .ok (.aload_n 0, 1) := by decide +kernel
theorem dX4_becomeEndOf_43 : decode cX4_becomeEndOf 43 = .ok (.getfield 21, 3) := by decide +kernel
theorem dX4_becomeEndOf_46 : decode cX4_becomeEndOf 46 = .ok (.aload_n 1, 1) := by decide +kernel
theorem dX4_becomeEndOf_47 : decode cX4_becomeEndOf 47 = .ok (.getfield 24, 3) := by decide +kernel
theorem dX4_becomeEndOf_50 : decode cX4_becomeEndOf 50 = .ok (.iload_n 3, 1) := by decide +kernel
theorem dX4_becomeEndOf_51 : decode cX4_becomeEndOf 51 = .ok (.iaload, 1) := by decide +kernel
theorem dX4_becomeEndOf_52 : decode cX4_becomeEndOf 52 = .ok (.iload_n 2, 1) := by decide +kernel
theorem dX4_becomeEndOf_53 : decode cX4_becomeEndOf 53 = .ok (.isub, 1) := by decide +kernel
theorem dX4_becomeEndOf_54 : decode cX4_becomeEndOf 54 = .ok (.iastore, 1) := by decide +kernel
theorem dX4_becomeEndOf_55 : decode cX4_becomeEndOf 55 = .ok (.aload_n 0, 1) := by decide +kernel
theorem dX4_becomeEndOf_56 : decode cX4_becomeEndOf 56 = .ok (.dup, 1) := by decide +kernel
theorem dX4_becomeEndOf_57 : decode cX4_becomeEndOf 57 = .ok (.getfield 21, 3) := by decide +kernel
theorem dX4_becomeEndOf_60 : decode cX4_becomeEndOf 60 = .ok (.iconst 1, 1) := by decide +kernel
theorem dX4_becomeEndOf_61 : decode cX4_becomeEndOf 61 = .ok (.iadd, 1) := by decide +kernel
theorem dX4_becomeEndOf_62 : decode cX4_becomeEndOf 62 = .ok (.putfield 21, 3) := by decide +kernel
theorem dX4_becomeEndOf_65 : decode cX4_becomeEndOf 65 = .ok (.iinc 3 1, 3) := by decide +kernel
theorem dX4_becomeEndOf_68 : decode cX4_becomeEndOf 68 = .ok (.goto (-48), 3) := by decide +kernel
theorem dX4_becomeEndOf_71 : decode cX4_becomeEndOf 71 = .ok (.return_, 1) := by decide +kernel
theorem dX4_shorten_0 : decode cX4_shorten 0 = .ok (.aload_n 0, 1) := by decide +kernel
theorem dX4_shorten_1 : decode cX4_shorten 1 = .ok (.iload_n 1, 1) := by decide +kernel
theorem dX4_shorten_2 : decode cX4_shorten 2 = .ok (.putfield 15, 3) := by decide +kernel
theorem dX4_shorten_5 : decode cX4_shorten 5 = .ok (.iconst 0, 1) := by decide +kernel
theorem dX4_shorten_6 : decode cX4_shorten 6 = .ok (.istore_n 2, 1) := by decide +kernel
theorem dX4_shorten_7 : decode cX4_shorten 7 = .ok (.iconst 0, 1) := by decide +kernel
theorem dX4_shorten_8 : decode cX4_shorten 8 = .ok (.istore_n 3, 1) := by decide +kernel
theorem dX4_shorten_9 : decode cX4_shorten 9 = .ok (.iload_n 3, 1) := by decide +kernel
theorem dX4_shorten_10 : decode cX4_shorten 10 = .ok (.aload_n 0, 1) := by decide +kernel
theorem dX4_shorten_11 : decode cX4_shorten 11 = .ok (.getfield 21, 3) := by decide +kernel
theorem dX4_shorten_14 : decode cX4_shorten 14 = .ok (.if_icmp .ge 22, 3) := by decide +kernel
theorem dX4_shorten_17 : decode cX4_shorten 17 = .ok (.aload_n 0, 1) := by decide +kernel
theorem dX4_shorten_18 : decode cX4_shorten 18 = .ok (.getfield 24, 3) := by decide +kernel
theorem dX4_shorten_21 : decode cX4_shorten 21 = .ok (.iload_n 3, 1) := by decide +kernel
theorem dX4_shorten_22 : decode cX4_shorten 22 = .ok (.iaload, 1) := by decide +kernel
theorem dX4_shorten_23 : decode cX4_shorten 23 = .ok (.iload_n 1, 1) := by decide +kernel
theorem dX4_shorten_24 : decode cX4_shorten 24 = .ok (.if_icmp .ge 6, 3) := by decide +kernel
theorem dX4_shorten_27 : decode cX4_shorten 27 = .ok (.iinc 2 1, 3) := by decide +kernel
theorem dX4_shorten_30 : decode cX4_shorten 30 = .ok (.iinc 3 1, 3) := by decide +kernel
theorem dX4_shorten_33 : decode cX4_shorten 33 = .ok (.goto (-24), 3) := by decide +kernel
theorem dX4_shorten_36 : decode cX4_shorten 36 = .ok (.aload_n 0, 1) := by decide +kernel
theorem dX4_shorten_37 : decode cX4_shorten 37 = .ok (.iload_n 2, 1) := by decide +kernel
theorem dX4_shorten_38 : decode cX4_shorten 38 = .ok (.putfield 21, 3) := by decide +kernel
theorem dX4_shorten_41 : decode cX4_shorten 41 = .ok (.return_, 1) := by decide +kernel
theorem dX4_tell_0 : decode cX4_tell 0 = .ok (.iload_n 1, 1) := by decide +kernel
theorem dX4_tell_1 : decode cX4_tell 1 = .ok (.tableswitch 51 0 3 #[31, 36, 41, 46], 31) := by decide +kernel
theorem dX4_tell_32 : decode cX4_tell 32 = .ok (.aload_n 0, 1) := by decide +kernel
theorem dX4_tell_33 : decode cX4_tell 33 = .ok (.getfield 9, 3) := by decide +kernel
theorem dX4_tell_36 : decode cX4_tell 36 = .ok (.ireturn, 1) := by decide +kernel
theorem dX4_tell_37 : decode cX4_tell 37 = .ok (.aload_n 0, 1) := by decide +kernel
theorem dX4_tell_38 : decode cX4_tell 38 = .ok (.getfield 15, 3) := by decide +kernel
theorem dX4_tell_41 : decode cX4_tell 41 = .ok (.ireturn, 1) := by decide +kernel
theorem dX4_tell_42 : decode cX4_tell 42 = .ok (.aload_n 0, 1) := by decide +kernel
theorem dX4_tell_43 : decode cX4_tell 43 = .ok (.getfield 18, 3) := by decide +kernel
theorem dX4_tell_46 : decode cX4_tell 46 = .ok (.ireturn, 1) := by decide +kernel
theorem dX4_tell_47 : decode cX4_tell 47 = .ok (.aload_n 0, 1) := by decide +kernel
theorem dX4_tell_48 : decode cX4_tell 48 = .ok (.getfield 21, 3) := by decide +kernel
theorem dX4_tell_51 : decode cX4_tell 51 = .ok (.ireturn, 1) := by decide +kernel
theorem dX4_tell_52 : decode cX4_tell 52 = .ok (.aload_n 0, 1) := by decide +kernel
theorem dX4_tell_53 : decode cX4_tell 53 = .ok (.invokevirtual 38, 3) := by decide +kernel
theorem dX4_tell_56 : decode cX4_tell 56 = .ok (.ireturn, 1) := by decide +kernel
theorem dX4_copyFrom_0 : decode cX4_copyFrom 0 = .ok (.aload_n 0, 1) := by decide +kernel
theorem dX4_copyFrom_1 : decode cX4_copyFrom 1 = .ok (.aload_n 1, 1) := by decide +kernel
theorem dX4_copyFrom_2 : decode cX4_copyFrom 2 = .ok (.getfield 9, 3) := by decide +kernel
theorem dX4_copyFrom_5 : decode cX4_copyFrom 5 = .ok (.aload_n 1, 1) := by decide +kernel
theorem dX4_copyFrom_6 : decode cX4_copyFrom 6 = .ok (.getfield 15, 3) := by decide +kernel
theorem dX4_copyFrom_9 : decode cX4_copyFrom 9 = .ok (.aload_n 1, 1) := by decide +kernel
theorem dX4_copyFrom_10 : decode cX4_copyFrom 10 = .ok (.getfield 18, 3) := by decide +kernel
theorem dX4_copyFrom_13 : decode cX4_copyFrom 13 = .ok (.invokevirtual 34, 3) := by decide +kernel
theorem dX4_copyFrom_16 : decode cX4_copyFrom 16 = .ok (.aload_n 0, 1) := by decide +kernel
theorem dX4_copyFrom_17 : decode cX4_copyFrom 17 = .ok (.aload_n 1, 1) := by decide +kernel
theorem dX4_copyFrom_18 : decode cX4_copyFrom 18 = .ok (.getfield 21, 3) := by decide +kernel
theorem dX4_copyFrom_21 : decode cX4_copyFrom 21 = .ok (.putfield 21, 3) := by decide +kernel
theorem dX4_copyFrom_24 : decode cX4_copyFrom 24 = .ok (.aload_n 1, 1) := by decide +kernel
theorem dX4_copyFrom_25 : decode cX4_copyFrom 25 = .ok (.getfield 24, 3) := by decide +kernel
theorem dX4_copyFrom_28 : decode cX4_copyFrom 28 = .ok (.iconst 0, 1) := by decide +kernel
theorem dX4_copyFrom_29 : decode cX4_copyFrom 29 = .ok (.aload_n 0, 1) := by decide +kernel
theorem dX4_copyFrom_30 : decode cX4_copyFrom 30 = .ok (.getfield 24, 3) := by decide +kernel
theorem dX4_copyFrom_33 : decode cX4_copyFrom 33 = .ok (.iconst 0, 1) := by decide +kernel
theorem dX4_copyFrom_34 : decode cX4_copyFrom 34 = .ok (.bipush 8, 2) := by decide +kernel
theorem dX4_copyFrom_36 : decode cX4_copyFrom 36 = .ok (.invokestatic 42, 3) := by decide +kernel
theorem dX4_copyFrom_39 : decode cX4_copyFrom 39 = .ok (.return_, 1) := by decide +kernel
theorem dX5_init_0 : decode cX5_init 0 = .ok (.aload_n 0, 1) := by decide +kernel
theorem dX5_init_1 : decode cX5_init 1 = .ok (.invokespecial 3, 3) := by decide +kernel
theorem dX5_init_4 : decode cX5_init 4 = .ok (.aload_n 0, 1) := by decide +kernel
theorem dX5_init_5 : decode cX5_init 5 = .ok (.iconst 0, 1) := by decide +kernel
theorem dX5_init_6 : decode cX5_init 6 = .ok (.putfield 9, 3) := by decide +kernel
theorem dX5_init_9 : decode cX5_init 9 = .ok (.aload_n 0, 1) := by decide +kernel
theorem dX5_init_10 : decode cX5_init 10 = .ok (.bipush 46, 2) := by decide +kernel
theorem dX5_init_12 : decode cX5_init 12 = .ok (.putfield 15, 3) := by decide +kernel
theorem dX5_init_15 : decode cX5_init 15 = .ok (.aload_n 0, 1) := by decide +kernel
theorem dX5_init_16 : decode cX5_init 16 = .ok (.iconst 0, 1) := by decide +kernel
theorem dX5_init_17 : decode cX5_init 17 = .ok (.putfield 18, 3) := by decide +kernel
theorem dX5_init_20 : decode cX5_init 20 = .ok (.aload_n 0, 1) := by decide +kernel
theorem dX5_init_21 : decode cX5_init 21 = .ok (.iconst 0, 1) := by decide +kernel
theorem dX5_init_22 : decode cX5_init 22 = .ok (.putfield 21, 3) := by decide +kernel
theorem dX5_init_25 : decode cX5_init 25 = .ok (.aload_n 0, 1) := by decide +kernel
theorem dX5_init_26 : decode cX5_init 26 = .ok (.aload_n 1, 1) := by decide +kernel
theorem dX5_init_27 : decode cX5_init 27 = .ok (.putfield 24, 3) := by decide +kernel
theorem dX5_init_30 : decode cX5_init 30 = .ok (.return_, 1) := by decide +kernel
theorem dX5_placeBehind_0 : decode cX5_placeBehind 0 = .ok (.aload_n 0, 1) := by decide +kernel
theorem dX5_placeBehind_1 : decode cX5_placeBehind 1 = .ok (.getfield 9, 3) := by decide +kernel
theorem dX5_placeBehind_4 : decode cX5_placeBehind 4 = .ok (.ireturn, 1) := by decide +kernel
theorem dX5_goTo_0 : decode cX5_goTo 0 = .ok (.aload_n 0, 1) := by decide +kernel
theorem dX5_goTo_1 : decode cX5_goTo 1 = .ok (.iload_n 1, 1) := by decide +kernel
theorem dX5_goTo_2 : decode cX5_goTo 2 = .ok (.putfield 9, 3) := by decide +kernel
theorem dX5_goTo_5 : decode cX5_goTo 5 = .ok (.return_, 1) := by decide +kernel
theorem dX5_next_0 : decode cX5_next 0 = .ok (.aload_n 0, 1) := by decide +kernel
theorem dX5_next_1 : decode cX5_next 1 = .ok (.getfield 9, 3) := by decide +kernel
theorem dX5_next_4 : decode cX5_next 4 = .ok (.aload_n 0, 1) := by decide +kernel
theorem dX5_next_5 : decode cX5_next 5 = .ok (.getfield 24, 3) := by decide +kernel
theorem dX5_next_8 : decode cX5_next 8 = .ok (.getfield 28, 3) := by decide +kernel
theorem dX5_next_11 : decode cX5_next 11 = .ok (.if_icmp .ge 33, 3) := by decide +kernel
theorem dX5_next_14 : decode cX5_next 14 = .ok (.aload_n 0, 1) := by decide +kernel
theorem dX5_next_15 : decode cX5_next 15 = .ok (.getfield 24, 3) := by decide +kernel
theorem dX5_next_18 : decode cX5_next 18 = .ok (.aload_n 0, 1) := by decide +kernel
theorem dX5_next_19 : decode cX5_next 19 = .ok (.getfield 9, 3) := by decide +kernel
theorem dX5_next_22 : decode cX5_next 22 = .ok (.invokevirtual 33, 3) := by decide +kernel
theorem dX5_next_25 : decode cX5_next 25 = .ok (.invokestatic 37, 3) := by decide +kernel
theorem dX5_next_28 : decode cX5_next 28 = .ok (.ifCond .eq 16, 3) := by decide +kernel
theorem dX5_next_31 : decode cX5_next 31 = .ok (.aload_n 0, 1) := by decide +kernel
theorem dX5_next_32 : decode cX5_next 32 = .ok (.dup, 1) := by decide +kernel
theorem dX5_next_33 : decode cX5_next 33 = .ok (.getfield 9, 3) := by decide +kernel
theorem dX5_next_36 : decode cX5_next 36 = .ok (.iconst 1, 1) := by decide +kernel
theorem dX5_next_37 : decode cX5_next 37 = .ok (.iadd, 1) := by decide +kernel
theorem dX5_next_38 : decode cX5_next 38 = .ok (.putfield 9, 3) := by decide +kernel
theorem dX5_next_41 : decode cX5_next 41 = .ok (.goto (-41), 3) := by decide +kernel
theorem dX5_next_44 : decode cX5_next 44 = .ok (.aload_n 0, 1) := by decide +kernel
theorem dX5_next_45 : decode cX5_next 45 = .ok (.aload_n 0, 1) := by decide +kernel
theorem dX5_next_46 : decode cX5_next 46 = .ok (.getfield 9, 3) := by decide +kernel
theorem dX5_next_49 : decode cX5_next 49 = .ok (.putfield 18, 3) := by decide +kernel
theorem dX5_next_52 : decode cX5_next 52 = .ok (.aload_n 0, 1) := by decide +kernel
theorem dX5_next_53 : decode cX5_next 53 = .ok (.iconst 0, 1) := by decide +kernel
theorem dX5_next_54 : decode cX5_next 54 = .ok (.putfield 21, 3) := by decide +kernel
theorem dX5_next_57 : decode cX5_next 57 = .ok (.aload_n 0, 1) := by decide +kernel
theorem dX5_next_58 : decode cX5_next 58 = .ok (.getfield 24, 3) := by decide +kernel
theorem dX5_next_61 : decode cX5_next 61 = .ok (.aload_n 0, 1) := by decide +kernel
theorem dX5_next_62 : decode cX5_next 62 = .ok (.getfield 9, 3) := by decide +kernel
theorem dX5_next_65 : decode cX5_next 65 = .ok (.invokevirtual 33, 3) := by decide +kernel
theorem dX5_next_68 : decode cX5_next 68 = .ok (.istore_n 1, 1) := by decide +kernel
theorem dX5_next_69 : decode cX5_next 69 = .ok (.iload_n 1, 1) := by decide +kernel
theorem dX5_next_70 : decode cX5_next 70 = .ok (.ifCond .ge 12, 3) := by decide +kernel
theorem dX5_next_73 : decode cX5_next 73 = .ok (.aload_n 0, 1) := by decide +kernel
theorem dX5_next_74 : decode cX5_next 74 = .ok (.bipush 46, 2) := by decide +kernel
theorem dX5_next_76 : decode cX5_next 76 = .ok (.putfield 15, 3) := by decide +kernel
theorem dX5_next_79 : decode cX5_next 79 = .ok (.goto 58, 3) := by decide +kernel
theorem dX5_next_82 : decode cX5_next 82 = .ok (.iload_n 1, 1) := by decide +kernel
theorem dX5_next_83 : decode cX5_next 83 = .ok (.invokestatic 41, 3) := by decide +kernel
theorem dX5_next_86 : decode cX5_next 86 = .ok (.ifCond .eq 10, 3) := by decide +kernel
theorem dX5_next_89 : decode cX5_next 89 = .ok (.aload_n 0, 1) := by decide +kernel
theorem dX5_next_90 : decode cX5_next 90 = .ok (.invokevirtual 44, 3) := by decide +kernel
theorem dX5_next_93 : decode cX5_next 93 = .ok (.goto 44, 3) := by decide +kernel
theorem dX5_next_96 : decode cX5_next 96 = .ok (.iload_n 1, 1) := by decide +kernel
theorem dX5_next_97 : decode cX5_next 97 = .ok (.invokestatic 47, 3) := by decide +kernel
theorem dX5_next_100 : decode cX5_next 100 = .ok (.ifCond .eq 10, 3) := by decide +kernel
theorem dX5_next_103 : decode cX5_next 103 = .ok (.aload_n 0, 1) := by decide +kernel
theorem dX5_next_104 : decode cX5_next 104 = .ok (.invokevirtual 50, 3) := by decide +kernel
theorem dX5_next_107 : decode cX5_next 107 = .ok (.goto 30, 3) := by decide +kernel
theorem dX5_next_110 : decode cX5_next 110 = .ok (.aload_n 0, 1) := by decide +kernel
theorem dX5_next_111 : decode cX5_next 111 = .ok (.iload_n 1, 1) := by decide +kernel
theorem dX5_next_112 : decode cX5_next 112 = .ok (.invokestatic 53, 3) := by decide +kernel
theorem dX5_next_115 : decode cX5_next 115 = .ok (.ifCond .eq 7, 3) := by decide +kernel
theorem dX5_next_118 : decode cX5_next 118 = .ok (.iload_n 1, 1) := by decide +kernel
theorem dX5_next_119 : decode cX5_next 119 = .ok (.goto 5, 3) := by decide +kernel
theorem dX5_next_122 : decode cX5_next 122 = .ok (.bipush 63, 2) := by decide +kernel
theorem dX5_next_124 : decode cX5_next 124 = .ok (.putfield 15, 3) := by decide +kernel
theorem dX5_next_127 : decode cX5_next 127 = .ok (.aload_n 0, 1) := by decide +kernel
theorem dX5_next_128 : decode cX5_next 128 = .ok (.dup, 1) := by decide +kernel
theorem dX5_next_129 : decode cX5_next 129 = .ok (.getfield 9, 3) := by decide +kernel
theorem dX5_next_132 : decode cX5_next 132 = .ok (.iconst 1, 1) := by decide +kernel
theorem dX5_next_133 : decode cX5_next 133 = .ok (.iadd, 1) := by decide +kernel
theorem dX5_next_134 : decode cX5_next 134 = .ok (.putfield 9, 3) := by decide +kernel
theorem dX5_next_137 : decode cX5_next 137 = .ok (.return_, 1) := by decide +kernel
theorem dX5_readWord_0 : decode cX5_readWord 0 = .ok (.lconst 0, 1) := by decide +kernel
theorem dX5_readWord_1 : decode cX5_readWord 1 = .ok (.lstore_n 1, 1) := by decide +kernel
theorem dX5_readWord_2 : decode cX5_readWord 2 = .ok (.aload_n 0, 1) := by decide +kernel
theorem dX5_readWord_3 : decode cX5_readWord 3 = .ok (.getfield 9, 3) := by decide +kernel
theorem dX5_readWord_6 : decode cX5_readWord 6 = .ok (.aload_n 0, 1) := by decide +kernel
theorem dX5_readWord_7 : decode cX5_readWord 7 = .ok (.getfield 24, 3) := by decide +kernel
theorem dX5_readWord_10 : decode cX5_readWord 10 = .ok (.getfield 28, 3) := by decide +kernel
theorem dX5_readWord_13 : decode cX5_readWord 13 = .ok (.if_icmp .ge 49, 3) := by decide +kernel
theorem dX5_readWord_16 : decode cX5_readWord 16 = .ok (.aload_n 0, 1) := by decide +kernel
theorem dX5_readWord_17 : decode cX5_readWord 17 = .ok (.getfield 24, 3) := by decide +kernel
theorem dX5_readWord_20 : decode cX5_readWord 20 = .ok (.aload_n 0, 1) := by decide +kernel
theorem dX5_readWord_21 : decode cX5_readWord 21 = .ok (.getfield 9, 3) := by decide +kernel
theorem dX5_readWord_24 : decode cX5_readWord 24 = .ok (.invokevirtual 33, 3) := by decide +kernel
theorem dX5_readWord_27 : decode cX5_readWord 27 = .ok (.invokestatic 41, 3) := by decide +kernel
theorem dX5_readWord_30 : decode cX5_readWord 30 = .ok (.ifCond .eq 32, 3) := by decide +kernel
theorem dX5_readWord_33 : decode cX5_readWord 33 = .ok (.lload_n 1, 1) := by decide +kernel
theorem dX5_readWord_34 : decode cX5_readWord 34 = .ok (.aload_n 0, 1) := by decide +kernel
theorem dX5_readWord_35 : decode cX5_readWord 35 = .ok (.getfield 24, 3) := by decide +kernel
theorem dX5_readWord_38 : decode cX5_readWord 38 = .ok (.aload_n 0, 1) := by decide +kernel
theorem dX5_readWord_39 : decode cX5_readWord 39 = .ok (.getfield 9, 3) := by decide +kernel
theorem dX5_readWord_42 : decode cX5_readWord 42 = .ok (.invokevirtual 33, 3) := by decide +kernel
theorem dX5_readWord_45 : decode cX5_readWord 45 = .ok (.invokestatic 56, 3) := by decide +kernel
theorem dX5_readWord_48 : decode cX5_readWord 48 = .ok (.lstore_n 1, 1) := by decide +kernel
theorem dX5_readWord_49 : decode cX5_readWord 49 = .ok (.aload_n 0, 1) := by decide +kernel
theorem dX5_readWord_50 : decode cX5_readWord 50 = .ok (.dup, 1) := by decide +kernel
theorem dX5_readWord_51 : decode cX5_readWord 51 = .ok (.getfield 9, 3) := by decide +kernel
theorem dX5_readWord_54 : decode cX5_readWord 54 = .ok (.iconst 1, 1) := by decide +kernel
theorem dX5_readWord_55 : decode cX5_readWord 55 = .ok (.iadd, 1) := by decide +kernel
theorem dX5_readWord_56 : decode cX5_readWord 56 = .ok (.putfield 9, 3) := by decide +kernel
theorem dX5_readWord_59 : decode cX5_readWord 59 = .ok (.goto (-57), 3) := by decide +kernel
theorem dX5_readWord_62 : decode cX5_readWord 62 = .ok (.aload_n 0, 1) := by decide +kernel
theorem dX5_readWord_63 : decode cX5_readWord 63 = .ok (.getfield 9, 3) := by decide +kernel
theorem dX5_readWord_66 : decode cX5_readWord 66 = .ok (.aload_n 0, 1) := by decide +kernel
theorem dX5_readWord_67 : decode cX5_readWord 67 = .ok (.getfield 18, 3) := by decide +kernel
theorem dX5_readWord_70 : decode cX5_readWord 70 = .ok (.isub, 1) := by decide +kernel
theorem dX5_readWord_71 : decode cX5_readWord 71 = .ok (.bipush 8, 2) := by decide +kernel
theorem dX5_readWord_73 : decode cX5_readWord 73 = .ok (.if_icmp .le 12, 3) := by decide +kernel
theorem dX5_readWord_76 : decode cX5_readWord 76 = .ok (.aload_n 0, 1) := by decide +kernel
theorem dX5_readWord_77 : decode cX5_readWord 77 = .ok (.bipush 63, 2) := by decide +kernel
theorem dX5_readWord_79 : decode cX5_readWord 79 = .ok (.putfield 15, 3) := by decide +kernel
theorem dX5_readWord_82 : decode cX5_readWord 82 = .ok (.goto 66, 3) := by decide +kernel
theorem dX5_readWord_85 : decode cX5_readWord 85 = .ok (.aload_n 0, 1) := by decide +kernel
theorem dX5_readWord_86 : decode cX5_readWord 86 = .ok (.ldc 60, 2) := by decide +kernel
theorem dX5_readWord_88 : decode cX5_readWord 88 = .ok (.lload_n 1, 1) := by decide +kernel
theorem dX5_readWord_89 : decode cX5_readWord 89 = .ok (.invokevirtual 62, 3) := by decide +kernel
theorem dX5_readWord_92 : decode cX5_readWord 92 = .ok (.ifCond .eq 12, 3) := by decide +kernel
theorem dX5_readWord_95 : decode cX5_readWord 95 = .ok (.aload_n 0, 1) := by decide +kernel
theorem dX5_readWord_96 : decode cX5_readWord 96 = .ok (.bipush 115, 2) := by decide +kernel
theorem dX5_readWord_98 : decode cX5_readWord 98 = .ok (.putfield 15, 3) := by decide +kernel
theorem dX5_readWord_101 : decode cX5_readWord 101 = .ok (.goto 47, 3) := by decide +kernel
theorem dX5_readWord_104 : decode cX5_readWord 104 = .ok (.aload_n 0, 1) := by decide +kernel
theorem dX5_readWord_105 : decode cX5_readWord 105 = .ok (.ldc 66, 2) := by decide +kernel
theorem dX5_readWord_107 : decode cX5_readWord 107 = .ok (.lload_n 1, 1) := by decide +kernel
theorem dX5_readWord_108 : decode cX5_readWord 108 = .ok (.invokevirtual 62, 3) := by decide +kernel
theorem dX5_readWord_111 : decode cX5_readWord 111 = .ok (.ifCond .eq 12, 3) := by decide +kernel
theorem dX5_readWord_114 : decode cX5_readWord 114 = .ok (.aload_n 0, 1) := by decide +kernel
theorem dX5_readWord_115 : decode cX5_readWord 115 = .ok (.bipush 102, 2) := by decide +kernel
theorem dX5_readWord_117 : decode cX5_readWord 117 = .ok (.putfield 15, 3) := by decide +kernel
theorem dX5_readWord_120 : decode cX5_readWord 120 = .ok (.goto 28, 3) := by decide +kernel
theorem dX5_readWord_123 : decode cX5_readWord 123 = .ok (.aload_n 0, 1) := by decide +kernel
theorem dX5_readWord_124 : decode cX5_readWord 124 = .ok (.ldc 68, 2) := by decide +kernel
theorem dX5_readWord_126 : decode cX5_readWord 126 = .ok (.lload_n 1, 1) := by decide +kernel
theorem dX5_readWord_127 : decode cX5_readWord 127 = .ok (.invokevirtual 62, 3) := by decide +kernel
theorem dX5_readWord_130 : decode cX5_readWord 130 = .ok (.ifCond .eq 12, 3) := by decide +kernel
theorem dX5_readWord_133 : decode cX5_readWord 133 = .ok (.aload_n 0, 1) := by decide +kernel
theorem dX5_readWord_134 : decode cX5_readWord 134 = .ok (.bipush 119, 2) := by decide +kernel
theorem dX5_readWord_136 : decode cX5_readWord 136 = .ok (.putfield 15, 3) := by decide +kernel
theorem dX5_readWord_139 : decode cX5_readWord 139 = .ok (.goto 9, 3) := by decide +kernel
theorem dX5_readWord_142 : decode cX5_readWord 142 = .ok (.aload_n 0, 1) := by decide +kernel
theorem dX5_readWord_143 : decode cX5_readWord 143 = .ok (.bipush 63, 2) := by decide +kernel
theorem dX5_readWord_145 : decode cX5_readWord 145 = .ok (.putfield 15, 3) := by decide +kernel
theorem dX5_readWord_148 : decode cX5_readWord 148 = .ok (.return_, 1) := by decide +kernel
theorem dX5_readNumber_0 : decode cX5_readNumber 0 = .ok (.aload_n 0, 1) := by decide +kernel
theorem dX5_readNumber_1 : decode cX5_readNumber 1 = .ok (.getfield 9, 3) := by decide +kernel
theorem dX5_readNumber_4 : decode cX5_readNumber 4 = .ok (.aload_n 0, 1) := by decide +kernel
theorem dX5_readNumber_5 : decode cX5_readNumber 5 = .ok (.getfield 24, 3) := by decide +kernel
theorem dX5_readNumber_8 : decode cX5_readNumber 8 = .ok (.getfield 28, 3) := by decide +kernel
theorem dX5_readNumber_11 : decode cX5_readNumber 11 = .ok (.if_icmp .ge 72, 3) := by decide +kernel
theorem dX5_readNumber_14 : decode cX5_readNumber 14 = .ok (.aload_n 0, 1) := by decide +kernel
theorem dX5_readNumber_15 : decode cX5_readNumber 15 = .ok (.getfield 24, 3) := by decide +kernel
theorem dX5_readNumber_18 : decode cX5_readNumber 18 = .ok (.aload_n 0, 1) := by decide +kernel
theorem dX5_readNumber_19 : decode cX5_readNumber 19 = .ok (.getfield 9, 3) := by decide +kernel
theorem dX5_readNumber_22 : decode cX5_readNumber 22 = .ok (.invokevirtual 33, 3) := by decide +kernel
theorem dX5_readNumber_25 : decode cX5_readNumber 25 = .ok (.invokestatic 47, 3) := by decide +kernel
theorem dX5_readNumber_28 : decode cX5_readNumber 28 = .ok (.ifCond .eq 55, 3) := by decide +kernel
theorem dX5_readNumber_31 : decode cX5_readNumber 31 = .ok (.aload_n 0, 1) := by decide +kernel
theorem dX5_readNumber_32 : decode cX5_readNumber 32 = .ok (.getfield 9, 3) := by decide +kernel
theorem dX5_readNumber_35 : decode cX5_readNumber 35 = .ok (.aload_n 0, 1) := by decide +kernel
theorem dX5_readNumber_36 : decode cX5_readNumber 36 = .ok (.getfield 18, 3) := by decide +kernel
theorem dX5_readNumber_39 : decode cX5_readNumber 39 = .ok (.isub, 1) := by decide +kernel
theorem dX5_readNumber_40 : decode cX5_readNumber 40 = .ok (.iconst 3, 1) := by decide +kernel
theorem dX5_readNumber_41 : decode cX5_readNumber 41 = .ok (.if_icmp .ge 29, 3) := by decide +kernel
theorem dX5_readNumber_44 : decode cX5_readNumber 44 = .ok (.aload_n 0, 1) := by decide +kernel
theorem dX5_readNumber_45 : decode cX5_readNumber 45 = .ok (.aload_n 0, 1) := by decide +kernel
theorem dX5_readNumber_46 : decode cX5_readNumber 46 = .ok (.getfield 21, 3) := by decide +kernel
theorem dX5_readNumber_49 : decode cX5_readNumber 49 = .ok (.bipush 10, 2) := by decide +kernel
theorem dX5_readNumber_51 : decode cX5_readNumber 51 = .ok (.imul, 1) := by decide +kernel
theorem dX5_readNumber_52 : decode cX5_readNumber 52 = .ok (.aload_n 0, 1) := by decide +kernel
theorem dX5_readNumber_53 : decode cX5_readNumber 53 = .ok (.getfield 24, 3) := by decide +kernel
theorem dX5_readNumber_56 : decode cX5_readNumber 56 = .ok (.aload_n 0, 1) := by decide +kernel
theorem dX5_readNumber_57 : decode cX5_readNumber 57 = .ok (.getfield 9, 3) := by decide +kernel
theorem dX5_readNumber_60 : decode cX5_readNumber 60 = .ok (.invokevirtual 33, 3) := by decide +kernel
theorem dX5_readNumber_63 : decode cX5_readNumber 63 = .ok (.iadd, 1) := by decide +kernel
theorem dX5_readNumber_64 : decode cX5_readNumber 64 = .ok (.bipush 48, 2) := by decide +kernel
theorem dX5_readNumber_66 : decode cX5_readNumber 66 = .ok (.isub, 1) := by decide +kernel
theorem dX5_readNumber_67 : decode cX5_readNumber 67 = .ok (.putfield 21, 3) := by decide +kernel
theorem dX5_readNumber_70 : decode cX5_readNumber 70 = .ok (.aload_n 0, 1) := by decide +kernel
theorem dX5_readNumber_71 : decode cX5_readNumber 71 = .ok (.dup, 1) := by decide +kernel
theorem dX5_readNumber_72 : decode cX5_readNumber 72 = .ok (.getfield 9, 3) := by decide +kernel
theorem dX5_readNumber_75 : decode cX5_readNumber 75 = .ok (.iconst 1, 1) := by decide +kernel
theorem dX5_readNumber_76 : decode cX5_readNumber 76 = .ok (.iadd, 1) := by decide +kernel
theorem dX5_readNumber_77 : decode cX5_readNumber 77 = .ok (.putfield 9, 3) := by decide +kernel
theorem dX5_readNumber_80 : decode cX5_readNumber 80 = .ok (.goto (-80), 3) := by decide +kernel
theorem dX5_readNumber_83 : decode cX5_readNumber 83 = .ok (.aload_n 0, 1) := by decide +kernel
theorem dX5_readNumber_84 : decode cX5_readNumber 84 = .ok (.aload_n 0, 1) := by decide +kernel
theorem dX5_readNumber_85 : decode cX5_readNumber 85 = .ok (.getfield 9, 3) := by decide +kernel
theorem dX5_readNumber_88 : decode cX5_readNumber 88 = .ok (.aload_n 0, 1) := by decide +kernel
theorem dX5_readNumber_89 : decode cX5_readNumber 89 = .ok (.getfield 18, 3) := by decide +kernel
theorem dX5_readNumber_92 : decode cX5_readNumber 92 = .ok (.isub, 1) := by decide +kernel
theorem dX5_readNumber_93 : decode cX5_readNumber 93 = .ok (.iconst 3, 1) := by decide +kernel
theorem dX5_readNumber_94 : decode cX5_readNumber 94 = .ok (.if_icmp .le 8, 3) := by decide +kernel
theorem dX5_readNumber_97 : decode cX5_readNumber 97 = .ok (.bipush 63, 2) := by decide +kernel
theorem dX5_readNumber_99 : decode cX5_readNumber 99 = .ok (.goto 5, 3) := by decide +kernel
theorem dX5_readNumber_102 : decode cX5_readNumber 102 = .ok (.bipush 110, 2) := by decide +kernel
theorem dX5_readNumber_104 : decode cX5_readNumber 104 = .ok (.putfield 15, 3) := by decide +kernel
theorem dX5_readNumber_107 : decode cX5_readNumber 107 = .ok (.return_, 1) := by decide +kernel
theorem dX5_isAmong_0 : decode cX5_isAmong 0 = .ok (.lconst 0, 1) := by decide +kernel
theorem dX5_isAmong_1 : decode cX5_isAmong 1 = .ok (.lstore 4, 2) := by decide +kernel
theorem dX5_isAmong_3 : decode cX5_isAmong 3 = .ok (.aload_n 0, 1) := by decide +kernel
theorem dX5_isAmong_4 : decode cX5_isAmong 4 = .ok (.iconst 0, 1) := by decide +kernel
theorem dX5_isAmong_5 : decode cX5_isAmong 5 = .ok (.putfield 21, 3) := by decide +kernel
theorem dX5_isAmong_8 : decode cX5_isAmong 8 = .ok (.iconst 0, 1) := by decide +kernel
theorem dX5_isAmong_9 : decode cX5_isAmong 9 = .ok (.istore 6, 2) := by decide +kernel
theorem dX5_isAmong_11 : decode cX5_isAmong 11 = .ok (.iload 6, 2) := by decide +kernel
theorem dX5_isAmong_13 : decode cX5_isAmong 13 = .ok (.aload_n 1, 1) := by decide +kernel
theorem dX5_isAmong_14 : decode cX5_isAmong 14 = .ok (.invokevirtual 70, 3) := by decide +kernel
theorem dX5_isAmong_17 : decode cX5_isAmong 17 = .ok (.if_icmp .ge 58, 3) := by decide +kernel
theorem dX5_isAmong_20 : decode cX5_isAmong 20 = .ok (.aload_n 1, 1) := by decide +kernel
theorem dX5_isAmong_21 : decode cX5_isAmong 21 = .ok (.iload 6, 2) := by decide +kernel
theorem dX5_isAmong_23 : decode cX5_isAmong 23 = .ok (.invokevirtual 75, 3) := by decide +kernel
theorem dX5_isAmong_26 : decode cX5_isAmong 26 = .ok (.bipush 32, 2) := by decide +kernel
theorem dX5_isAmong_28 : decode cX5_isAmong 28 = .ok (.if_icmp .eq 19, 3) := by decide +kernel
theorem dX5_isAmong_31 : decode cX5_isAmong 31 = .ok (.lload 4, 2) := by decide +kernel
theorem dX5_isAmong_33 : decode cX5_isAmong 33 = .ok (.aload_n 1, 1) := by decide +kernel
theorem dX5_isAmong_34 : decode cX5_isAmong 34 = .ok (.iload 6, 2) := by decide +kernel
theorem dX5_isAmong_36 : decode cX5_isAmong 36 = .ok (.invokevirtual 75, 3) := by decide +kernel
theorem dX5_isAmong_39 : decode cX5_isAmong 39 = .ok (.invokestatic 56, 3) := by decide +kernel
theorem dX5_isAmong_42 : decode cX5_isAmong 42 = .ok (.lstore 4, 2) := by decide +kernel
theorem dX5_isAmong_44 : decode cX5_isAmong 44 = .ok (.goto 25, 3) := by decide +kernel
theorem dX5_isAmong_47 : decode cX5_isAmong 47 = .ok (.lload 4, 2) := by decide +kernel
theorem dX5_isAmong_49 : decode cX5_isAmong 49 = .ok (.lload_n 2, 1) := by decide +kernel
theorem dX5_isAmong_50 : decode cX5_isAmong 50 = .ok (.lcmp, 1) := by decide +kernel
theorem dX5_isAmong_51 : decode cX5_isAmong 51 = .ok (.ifCond .ne 5, 3) := by decide +kernel
theorem dX5_isAmong_54 : decode cX5_isAmong 54 = .ok (.iconst 1, 1) := by decide +kernel
theorem dX5_isAmong_55 : decode cX5_isAmong 55 = .ok (.ireturn, 1) := by decide +kernel
theorem dX5_isAmong_56 : decode cX5_isAmong 56 = .ok (.lconst 0, 1) := by decide +kernel
theorem dX5_isAmong_57 : decode cX5_isAmong 57 = .ok (.lstore 4, 2) := by decide +kernel
theorem dX5_isAmong_59 : decode cX5_isAmong 59 = .ok (.aload_n 0, 1) := by decide +kernel
theorem dX5_isAmong_60 : decode cX5_isAmong 60 = .ok (.dup, 1) := by decide +kernel
theorem dX5_isAmong_61 : decode cX5_isAmong 61 = .ok (.getfield 21, 3) := by decide +kernel
theorem dX5_isAmong_64 : decode cX5_isAmong 64 = .ok (.iconst 1, 1) := by decide +kernel
theorem dX5_isAmong_65 : decode cX5_isAmong 65 = .ok (.iadd, 1) := by decide +kernel
theorem dX5_isAmong_66 : decode cX5_isAmong 66 = .ok (.putfield 21, 3) := by decide +kernel
theorem dX5_isAmong_69 : decode cX5_isAmong 69 = .ok (.iinc 6 1, 3) := by decide +kernel
theorem dX5_isAmong_72 : decode cX5_isAmong 72 = .ok (.goto (-61), 3) := by decide +kernel
theorem dX5_isAmong_75 : decode cX5_isAmong 75 = .ok (.lload 4, 2) := by decide +kernel
theorem dX5_isAmong_77 : decode cX5_isAmong 77 = .ok (.lload_n 2, 1) := by decide +kernel
theorem dX5_isAmong_78 : decode cX5_isAmong 78 = .ok (.lcmp, 1) := by decide +kernel
theorem dX5_isAmong_79 : decode cX5_isAmong 79 = .ok (.ifCond .ne 7, 3) := by decide +kernel
theorem dX5_isAmong_82 : decode cX5_isAmong 82 = .ok (.iconst 1, 1) := by decide +kernel
theorem dX5_isAmong_83 : decode cX5_isAmong 83 = .ok (.goto 4, 3) := by decide +kernel
theorem dX5_isAmong_86 : decode cX5_isAmong 86 = .ok (.iconst 0, 1) := by decide +kernel
theorem dX5_isAmong_87 : decode cX5_isAmong 87 = .ok (.ireturn, 1) := by decide +kernel
theorem dX5_withLetter_0 : decode cX5_withLetter 0 = .ok (.lload_n 0, 1) := by decide +kernel
theorem dX5_withLetter_1 : decode cX5_withLetter 1 = .ok (.ldc2_w 79, 3) := by decide +kernel
theorem dX5_withLetter_4 : decode cX5_withLetter 4 = .ok (.lmul, 1) := by decide +kernel
theorem dX5_withLetter_5 : decode cX5_withLetter 5 = .ok (.iload_n 2, 1) := by decide +kernel
theorem dX5_withLetter_6 : decode cX5_withLetter 6 = .ok (.i2l, 1) := by decide +kernel
theorem dX5_withLetter_7 : decode cX5_withLetter 7 = .ok (.ladd, 1) := by decide +kernel
theorem dX5_withLetter_8 : decode cX5_withLetter 8 = .ok (.ldc2_w 81, 3) := by decide +kernel
theorem dX5_withLetter_11 : decode cX5_withLetter 11 = .ok (.lsub, 1) := by decide +kernel
theorem dX5_withLetter_12 : decode cX5_withLetter 12 = .ok (.lconst 1, 1) := by decide +kernel
theorem dX5_withLetter_13 : decode cX5_withLetter 13 = .ok (.ladd, 1) := by decide +kernel
theorem dX5_withLetter_14 : decode cX5_withLetter 14 = .ok (.lreturn, 1) := by decide +kernel
theorem dX5_isBlank_0 : decode cX5_isBlank 0 = .ok (.iload_n 0, 1) := by decide +kernel
theorem dX5_isBlank_1 : decode cX5_isBlank 1 = .ok (.bipush 32, 2) := by decide +kernel
theorem dX5_isBlank_3 : decode cX5_isBlank 3 = .ok (.if_icmp .eq 9, 3) := by decide +kernel
theorem dX5_isBlank_6 : decode cX5_isBlank 6 = .ok (.iload_n 0, 1) := by decide +kernel
theorem dX5_isBlank_7 : decode cX5_isBlank 7 = .ok (.bipush 10, 2) := by decide +kernel
theorem dX5_isBlank_9 : decode cX5_isBlank 9 = .ok (.if_icmp .ne 7, 3) := by decide +kernel
theorem dX5_isBlank_12 : decode cX5_isBlank 12 = .ok (.iconst 1, 1) := by decide +kernel
theorem dX5_isBlank_13 : decode cX5_isBlank 13 = .ok (.goto 4, 3) := by decide +kernel
theorem dX5_isBlank_16 : decode cX5_isBlank 16 = .ok (.iconst 0, 1) := by decide +kernel
theorem dX5_isBlank_17 : decode cX5_isBlank 17 = .ok (.ireturn, 1) := by decide +kernel
theorem dX5_isLetter_0 : decode cX5_isLetter 0 = .ok (.iload_n 0, 1) := by decide +kernel
theorem dX5_isLetter_1 : decode cX5_isLetter 1 = .ok (.bipush 97, 2) := by decide +kernel
theorem dX5_isLetter_3 : decode cX5_isLetter 3 = .ok (.if_icmp .lt 13, 3) := by decide +kernel
theorem dX5_isLetter_6 : decode cX5_isLetter 6 = .ok (.iload_n 0, 1) := by decide +kernel
theorem dX5_isLetter_7 : decode cX5_isLetter 7 = .ok (.bipush 122, 2) := by decide +kernel
theorem dX5_isLetter_9 : decode cX5_isLetter 9 = .ok (.if_icmp .gt 7, 3) := by decide +kernel
theorem dX5_isLetter_12 : decode cX5_isLetter 12 = .ok (.iconst 1, 1) := by decide +kernel
theorem dX5_isLetter_13 : decode cX5_isLetter 13 = .ok (.goto 4, 3) := by decide +kernel
theorem dX5_isLetter_16 : decode cX5_isLetter 16 = .ok (.iconst 0, 1) := by decide +kernel
theorem dX5_isLetter_17 : decode cX5_isLetter 17 = .ok (.ireturn, 1) := by decide +kernel
theorem dX5_isDigit_0 : decode cX5_isDigit 0 = .ok (.iload_n 0, 1) := by decide +kernel
theorem dX5_isDigit_1 : decode cX5_isDigit 1 = .ok (.bipush 48, 2) := by decide +kernel
theorem dX5_isDigit_3 : decode cX5_isDigit 3 = .ok (.if_icmp .lt 13, 3) := by decide +kernel
theorem dX5_isDigit_6 : decode cX5_isDigit 6 = .ok (.iload_n 0, 1) := by decide +kernel
theorem dX5_isDigit_7 : decode cX5_isDigit 7 = .ok (.bipush 57, 2) := by decide +kernel
theorem dX5_isDigit_9 : decode cX5_isDigit 9 = .ok (.if_icmp .gt 7, 3) := by decide +kernel
theorem dX5_isDigit_12 : decode cX5_isDigit 12 = .ok (.iconst 1, 1) := by decide +kernel
theorem dX5_isDigit_13 : decode cX5_isDigit 13 = .ok (.goto 4, 3) := by decide +kernel
theorem dX5_isDigit_16 : decode cX5_isDigit 16 = .ok (.iconst 0, 1) := by decide +kernel
theorem dX5_isDigit_17 : decode cX5_isDigit 17 = .ok (.ireturn, 1) := by decide +kernel
theorem dX5_isSymbol_0 : decode cX5_isSymbol 0 = .ok (.iload_n 0, 1) := by decide +kernel
theorem dX5_isSymbol_1 : decode cX5_isSymbol 1 = .ok (.bipush 59, 2) := by decide +kernel
theorem dX5_isSymbol_3 : decode cX5_isSymbol 3 = .ok (.if_icmp .eq 15, 3) := by decide +kernel
theorem dX5_isSymbol_6 : decode cX5_isSymbol 6 = .ok (.iload_n 0, 1) := by decide +kernel
theorem dX5_isSymbol_7 : decode cX5_isSymbol 7 = .ok (.bipush 123, 2) := by decide +kernel
theorem dX5_isSymbol_9 : decode cX5_isSymbol 9 = .ok (.if_icmp .eq 9, 3) := by decide +kernel
theorem dX5_isSymbol_12 : decode cX5_isSymbol 12 = .ok (.iload_n 0, 1) := by decide +kernel
theorem dX5_isSymbol_13 : decode cX5_isSymbol 13 = .ok (.bipush 125, 2) := by decide +kernel
theorem dX5_isSymbol_15 : decode cX5_isSymbol 15 = .ok (.if_icmp .ne 7, 3) := by decide +kernel
theorem dX5_isSymbol_18 : decode cX5_isSymbol 18 = .ok (.iconst 1, 1) := by decide +kernel
theorem dX5_isSymbol_19 : decode cX5_isSymbol 19 = .ok (.goto 4, 3) := by decide +kernel
theorem dX5_isSymbol_22 : decode cX5_isSymbol 22 = .ok (.iconst 0, 1) := by decide +kernel
theorem dX5_isSymbol_23 : decode cX5_isSymbol 23 = .ok (.ireturn, 1) := by decide +kernel
theorem dX6_init_0 : decode cX6_init 0 = .ok (.aload_n 0, 1) := by decide +kernel
theorem dX6_init_1 : decode cX6_init 1 = .ok (.invokespecial 3, 3) := by decide +kernel
theorem dX6_init_4 : decode cX6_init 4 = .ok (.aload_n 0, 1) := by decide +kernel
theorem dX6_init_5 : decode cX6_init 5 = .ok (.iconst 0, 1) := by decide +kernel
theorem dX6_init_6 : decode cX6_init 6 = .ok (.putfield 9, 3) := by decide +kernel
theorem dX6_init_9 : decode cX6_init 9 = .ok (.aload_n 0, 1) := by decide +kernel
theorem dX6_init_10 : decode cX6_init 10 = .ok (.aconst_null, 1) := by decide +kernel
theorem dX6_init_11 : decode cX6_init 11 = .ok (.putfield 15, 3) := by decide +kernel
theorem dX6_init_14 : decode cX6_init 14 = .ok (.aload_n 0, 1) := by decide +kernel
theorem dX6_init_15 : decode cX6_init 15 = .ok (.iconst (-1), 1) := by decide +kernel
theorem dX6_init_16 : decode cX6_init 16 = .ok (.putfield 19, 3) := by decide +kernel
theorem dX6_init_19 : decode cX6_init 19 = .ok (.aload_n 0, 1) := by decide +kernel
theorem dX6_init_20 : decode cX6_init 20 = .ok (.iconst 0, 1) := by decide +kernel
theorem dX6_init_21 : decode cX6_init 21 = .ok (.putfield 23, 3) := by decide +kernel
theorem dX6_init_24 : decode cX6_init 24 = .ok (.aload_n 0, 1) := by decide +kernel
theorem dX6_init_25 : decode cX6_init 25 = .ok (.iconst (-1), 1) := by decide +kernel
theorem dX6_init_26 : decode cX6_init 26 = .ok (.putfield 26, 3) := by decide +kernel
theorem dX6_init_29 : decode cX6_init 29 = .ok (.aload_n 0, 1) := by decide +kernel
theorem dX6_init_30 : decode cX6_init 30 = .ok (.iconst 0, 1) := by decide +kernel
theorem dX6_init_31 : decode cX6_init 31 = .ok (.putfield 29, 3) := by decide +kernel
theorem dX6_init_34 : decode cX6_init 34 = .ok (.aload_n 0, 1) := by decide +kernel
theorem dX6_init_35 : decode cX6_init 35 = .ok (.iconst 0, 1) := by decide +kernel
theorem dX6_init_36 : decode cX6_init 36 = .ok (.putfield 32, 3) := by decide +kernel
theorem dX6_init_39 : decode cX6_init 39 = .ok (.aload_n 0, 1) := by decide +kernel
theorem dX6_init_40 : decode cX6_init 40 = .ok (.iconst 0, 1) := by decide +kernel
theorem dX6_init_41 : decode cX6_init 41 = .ok (.putfield 35, 3) := by decide +kernel
theorem dX6_init_44 : decode cX6_init 44 = .ok (.aload_n 0, 1) := by decide +kernel
theorem dX6_init_45 : decode cX6_init 45 = .ok (.iconst 0, 1) := by decide +kernel
theorem dX6_init_46 : decode cX6_init 46 = .ok (.putfield 38, 3) := by decide +kernel
theorem dX6_init_49 : decode cX6_init 49 = .ok (.aload_n 0, 1) := by decide +kernel
theorem dX6_init_50 : decode cX6_init 50 = .ok (.iconst 0, 1) := by decide +kernel
theorem dX6_init_51 : decode cX6_init 51 = .ok (.putfield 41, 3) := by decide +kernel
theorem dX6_init_54 : decode cX6_init 54 = .ok (.aload_n 0, 1) := by decide +kernel
theorem dX6_init_55 : decode cX6_init 55 = .ok (.iconst 0, 1) := by decide +kernel
theorem dX6_init_56 : decode cX6_init 56 = .ok (.putfield 44, 3) := by decide +kernel
theorem dX6_init_59 : decode cX6_init 59 = .ok (.aload_n 0, 1) := by decide +kernel
theorem dX6_init_60 : decode cX6_init 60 = .ok (.new 47, 3) := by decide +kernel
theorem dX6_init_63 : decode cX6_init 63 = .ok (.dup, 1) := by decide +kernel
theorem dX6_init_64 : decode cX6_init 64 = .ok (.invokespecial 49, 3) := by decide +kernel
theorem dX6_init_67 : decode cX6_init 67 = .ok (.putfield 50, 3) := by decide +kernel
theorem dX6_init_70 : decode cX6_init 70 = .ok (.aload_n 0, 1) := by decide +kernel
theorem dX6_init_71 : decode cX6_init 71 = .ok (.iconst 0, 1) := by decide +kernel
theorem dX6_init_72 : decode cX6_init 72 = .ok (.putfield 54, 3) := by decide +kernel
theorem dX6_init_75 : decode cX6_init 75 = .ok (.aload_n 0, 1) := by decide +kernel
theorem dX6_init_76 : decode cX6_init 76 = .ok (.iconst (-1), 1) := by decide +kernel
theorem dX6_init_77 : decode cX6_init 77 = .ok (.putfield 57, 3) := by decide +kernel
theorem dX6_init_80 : decode cX6_init 80 = .ok (.aload_n 0, 1) := by decide +kernel
theorem dX6_init_81 : decode cX6_init 81 = .ok (.iconst (-1), 1) := by decide +kernel
theorem dX6_init_82 : decode cX6_init 82 = .ok (.putfield 60, 3) := by decide +kernel
theorem dX6_init_85 : decode cX6_init 85 = .ok (.aload_n 0, 1) := by decide +kernel
theorem dX6_init_86 : decode cX6_init 86 = .ok (.iconst 0, 1) := by decide +kernel
theorem dX6_init_87 : decode cX6_init 87 = .ok (.putfield 63, 3) := by decide +kernel
theorem dX6_init_90 : decode cX6_init 90 = .ok (.return_, 1) := by decide +kernel
theorem dX6_begin_0 : decode cX6_begin 0 = .ok (.aload_n 0, 1) := by decide +kernel
theorem dX6_begin_1 : decode cX6_begin 1 = .ok (.iconst 1, 1) := by decide +kernel
theorem dX6_begin_2 : decode cX6_begin 2 = .ok (.putfield 9, 3) := by decide +kernel
theorem dX6_begin_5 : decode cX6_begin 5 = .ok (.aload_n 0, 1) := by decide +kernel
theorem dX6_begin_6 : decode cX6_begin 6 = .ok (.aload_n 1, 1) := by decide +kernel
theorem dX6_begin_7 : decode cX6_begin 7 = .ok (.putfield 15, 3) := by decide +kernel
theorem dX6_begin_10 : decode cX6_begin 10 = .ok (.aload_n 0, 1) := by decide +kernel
theorem dX6_begin_11 : decode cX6_begin 11 = .ok (.iload_n 2, 1) := by decide +kernel
theorem dX6_begin_12 : decode cX6_begin 12 = .ok (.putfield 19, 3) := by decide +kernel
theorem dX6_begin_15 : decode cX6_begin 15 = .ok (.aload_n 0, 1) := by decide +kernel
theorem dX6_begin_16 : decode cX6_begin 16 = .ok (.iload_n 3, 1) := by decide +kernel
theorem dX6_begin_17 : decode cX6_begin 17 = .ok (.putfield 23, 3) := by decide +kernel
theorem dX6_begin_20 : decode cX6_begin 20 = .ok (.aload_n 0, 1) := by decide +kernel
theorem dX6_begin_21 : decode cX6_begin 21 = .ok (.iload 4, 2) := by decide +kernel
theorem dX6_begin_23 : decode cX6_begin 23 = .ok (.putfield 26, 3) := by decide +kernel
theorem dX6_begin_26 : decode cX6_begin 26 = .ok (.aload_n 0, 1) := by decide +kernel
theorem dX6_begin_27 : decode cX6_begin 27 = .ok (.iconst 0, 1) := by decide +kernel
theorem dX6_begin_28 : decode cX6_begin 28 = .ok (.putfield 29, 3) := by decide +kernel
theorem dX6_begin_31 : decode cX6_begin 31 = .ok (.aload_n 0, 1) := by decide +kernel
theorem dX6_begin_32 : decode cX6_begin 32 = .ok (.iconst 0, 1) := by decide +kernel
theorem dX6_begin_33 : decode cX6_begin 33 = .ok (.putfield 32, 3) := by decide +kernel
theorem dX6_begin_36 : decode cX6_begin 36 = .ok (.aload_n 0, 1) := by decide +kernel
theorem dX6_begin_37 : decode cX6_begin 37 = .ok (.iconst 0, 1) := by decide +kernel
theorem dX6_begin_38 : decode cX6_begin 38 = .ok (.putfield 38, 3) := by decide +kernel
theorem dX6_begin_41 : decode cX6_begin 41 = .ok (.aload_n 0, 1) := by decide +kernel
theorem dX6_begin_42 : decode cX6_begin 42 = .ok (.iconst 0, 1) := by decide +kernel
theorem dX6_begin_43 : decode cX6_begin 43 = .ok (.putfield 41, 3) := by decide +kernel
theorem dX6_begin_46 : decode cX6_begin 46 = .ok (.aload_n 0, 1) := by decide +kernel
theorem dX6_begin_47 : decode cX6_begin 47 = .ok (.iconst 0, 1) := by decide +kernel
theorem dX6_begin_48 : decode cX6_begin 48 = .ok (.putfield 44, 3) := by decide +kernel
theorem dX6_begin_51 : decode cX6_begin 51 = .ok (.return_, 1) := by decide +kernel
theorem dX6_action_0 : decode cX6_action 0 = .ok (.aload_n 0, 1) := by decide +kernel
theorem dX6_action_1 : decode cX6_action 1 = .ok (.getfield 9, 3) := by decide +kernel
theorem dX6_action_4 : decode cX6_action 4 = .ok (.ifCond .eq 24, 3) := by decide +kernel
theorem dX6_action_7 : decode cX6_action 7 = .ok (.aload_n 0, 1) := by decide +kernel
theorem dX6_action_8 : decode cX6_action 8 = .ok (.getfield 15, 3) := by decide +kernel
theorem dX6_action_11 : decode cX6_action 11 = .ok (.ifnull 17, 3) := by decide +kernel
theorem dX6_action_14 : decode cX6_action 14 = .ok (.aload_n 0, 1) := by decide +kernel
theorem dX6_action_15 : decode cX6_action 15 = .ok (.getfield 15, 3) := by decide +kernel
theorem dX6_action_18 : decode cX6_action 18 = .ok (.aload_n 0, 1) := by decide +kernel
theorem dX6_action_19 : decode cX6_action 19 = .ok (.getfield 29, 3) := by decide +kernel
theorem dX6_action_22 : decode cX6_action 22 = .ok (.invokevirtual 66, 3) := by decide +kernel
theorem dX6_action_25 : decode cX6_action 25 = .ok (.goto 4, 3) := by decide +kernel
theorem dX6_action_28 : decode cX6_action 28 = .ok (.aconst_null, 1) := by decide +kernel
theorem dX6_action_29 : decode cX6_action 29 = .ok (.areturn, 1) := by decide +kernel
theorem dX6_goOn_0 : decode cX6_goOn 0 = .ok (.aload_n 0, 1) := by decide +kernel
theorem dX6_goOn_1 : decode cX6_goOn 1 = .ok (.dup, 1) := by decide +kernel
theorem dX6_goOn_2 : decode cX6_goOn 2 = .ok (.getfield 29, 3) := by decide +kernel
theorem dX6_goOn_5 : decode cX6_goOn 5 = .ok (.iconst 1, 1) := by decide +kernel
theorem dX6_goOn_6 : decode cX6_goOn 6 = .ok (.iadd, 1) := by decide +kernel
theorem dX6_goOn_7 : decode cX6_goOn 7 = .ok (.putfield 29, 3) := by decide +kernel
theorem dX6_goOn_10 : decode cX6_goOn 10 = .ok (.aload_n 0, 1) := by decide +kernel
theorem dX6_goOn_11 : decode cX6_goOn 11 = .ok (.iconst 0, 1) := by decide +kernel
theorem dX6_goOn_12 : decode cX6_goOn 12 = .ok (.putfield 32, 3) := by decide +kernel
theorem dX6_goOn_15 : decode cX6_goOn 15 = .ok (.return_, 1) := by decide +kernel
theorem dX6_losePiece_0 : decode cX6_losePiece 0 = .ok (.aload_n 0, 1) := by decide +kernel
theorem dX6_losePiece_1 : decode cX6_losePiece 1 = .ok (.getfield 50, 3) := by decide +kernel
theorem dX6_losePiece_4 : decode cX6_losePiece 4 = .ok (.invokevirtual 72, 3) := by decide +kernel
theorem dX6_losePiece_7 : decode cX6_losePiece 7 = .ok (.aload_n 0, 1) := by decide +kernel
theorem dX6_losePiece_8 : decode cX6_losePiece 8 = .ok (.dup, 1) := by decide +kernel
theorem dX6_losePiece_9 : decode cX6_losePiece 9 = .ok (.getfield 44, 3) := by decide +kernel
theorem dX6_losePiece_12 : decode cX6_losePiece 12 = .ok (.iconst 1, 1) := by decide +kernel
theorem dX6_losePiece_13 : decode cX6_losePiece 13 = .ok (.iadd, 1) := by decide +kernel
theorem dX6_losePiece_14 : decode cX6_losePiece 14 = .ok (.putfield 44, 3) := by decide +kernel
theorem dX6_losePiece_17 : decode cX6_losePiece 17 = .ok (.aload_n 0, 1) := by decide +kernel
theorem dX6_losePiece_18 : decode cX6_losePiece 18 = .ok (.aload_n 0, 1) := by decide +kernel
theorem dX6_losePiece_19 : decode cX6_losePiece 19 = .ok (.getfield 35, 3) := by decide +kernel
theorem dX6_losePiece_22 : decode cX6_losePiece 22 = .ok (.putfield 29, 3) := by decide +kernel
theorem dX6_losePiece_25 : decode cX6_losePiece 25 = .ok (.aload_n 0, 1) := by decide +kernel
theorem dX6_losePiece_26 : decode cX6_losePiece 26 = .ok (.iconst 0, 1) := by decide +kernel
theorem dX6_losePiece_27 : decode cX6_losePiece 27 = .ok (.putfield 32, 3) := by decide +kernel
theorem dX6_losePiece_30 : decode cX6_losePiece 30 = .ok (.return_, 1) := by decide +kernel
theorem dX6_getPiece_0 : decode cX6_getPiece 0 = .ok (.aload_n 0, 1) := by decide +kernel
theorem dX6_getPiece_1 : decode cX6_getPiece 1 = .ok (.getfield 50, 3) := by decide +kernel
theorem dX6_getPiece_4 : decode cX6_getPiece 4 = .ok (.iload_n 1, 1) := by decide +kernel
theorem dX6_getPiece_5 : decode cX6_getPiece 5 = .ok (.iload_n 2, 1) := by decide +kernel
theorem dX6_getPiece_6 : decode cX6_getPiece 6 = .ok (.invokevirtual 75, 3) := by decide +kernel
theorem dX6_getPiece_9 : decode cX6_getPiece 9 = .ok (.aload_n 0, 1) := by decide +kernel
theorem dX6_getPiece_10 : decode cX6_getPiece 10 = .ok (.aload_n 0, 1) := by decide +kernel
theorem dX6_getPiece_11 : decode cX6_getPiece 11 = .ok (.getfield 29, 3) := by decide +kernel
theorem dX6_getPiece_14 : decode cX6_getPiece 14 = .ok (.putfield 35, 3) := by decide +kernel
theorem dX6_getPiece_17 : decode cX6_getPiece 17 = .ok (.return_, 1) := by decide +kernel
theorem dX6_treatPiece_0 : decode cX6_treatPiece 0 = .ok (.aload_n 1, 1) := by decide +kernel
theorem dX6_treatPiece_1 : decode cX6_treatPiece 1 = .ok (.getfield 79, 3) := by decide +kernel
theorem dX6_treatPiece_4 : decode cX6_treatPiece 4 = .ok (.iconst 3, 1) := by decide +kernel
theorem dX6_treatPiece_5 : decode cX6_treatPiece 5 = .ok (.if_icmp .ne 13, 3) := by decide +kernel
theorem dX6_treatPiece_8 : decode cX6_treatPiece 8 = .ok (.aload_n 0, 1) := by decide +kernel
theorem dX6_treatPiece_9 : decode cX6_treatPiece 9 = .ok (.getfield 50, 3) := by decide +kernel
theorem dX6_treatPiece_12 : decode cX6_treatPiece 12 = .ok (.invokevirtual 84, 3) := by decide +kernel
theorem dX6_treatPiece_15 : decode cX6_treatPiece 15 = .ok (.goto 41, 3) := by decide +kernel
theorem dX6_treatPiece_18 : decode cX6_treatPiece 18 = .ok (.aload_n 1, 1) := by decide +kernel
theorem dX6_treatPiece_19 : decode cX6_treatPiece 19 = .ok (.getfield 79, 3) := by decide +kernel
theorem dX6_treatPiece_22 : decode cX6_treatPiece 22 = .ok (.bipush 6, 2) := by decide +kernel
theorem dX6_treatPiece_24 : decode cX6_treatPiece 24 = .ok (.if_icmp .ne 13, 3) := by decide +kernel
theorem dX6_treatPiece_27 : decode cX6_treatPiece 27 = .ok (.aload_n 0, 1) := by decide +kernel
theorem dX6_treatPiece_28 : decode cX6_treatPiece 28 = .ok (.getfield 50, 3) := by decide +kernel
theorem dX6_treatPiece_31 : decode cX6_treatPiece 31 = .ok (.invokevirtual 87, 3) := by decide +kernel
theorem dX6_treatPiece_34 : decode cX6_treatPiece 34 = .ok (.goto 22, 3) := by decide +kernel
theorem dX6_treatPiece_37 : decode cX6_treatPiece 37 = .ok (.aload_n 0, 1) := by decide +kernel
theorem dX6_treatPiece_38 : decode cX6_treatPiece 38 = .ok (.getfield 50, 3) := by decide +kernel
theorem dX6_treatPiece_41 : decode cX6_treatPiece 41 = .ok (.invokevirtual 90, 3) := by decide +kernel
theorem dX6_treatPiece_44 : decode cX6_treatPiece 44 = .ok (.aload_n 0, 1) := by decide +kernel
theorem dX6_treatPiece_45 : decode cX6_treatPiece 45 = .ok (.getfield 50, 3) := by decide +kernel
theorem dX6_treatPiece_48 : decode cX6_treatPiece 48 = .ok (.invokevirtual 93, 3) := by decide +kernel
theorem dX6_treatPiece_51 : decode cX6_treatPiece 51 = .ok (.ifCond .eq 5, 3) := by decide +kernel
theorem dX6_treatPiece_54 : decode cX6_treatPiece 54 = .ok (.iconst 2, 1) := by decide +kernel
theorem dX6_treatPiece_55 : decode cX6_treatPiece 55 = .ok (.ireturn, 1) := by decide +kernel
theorem dX6_treatPiece_56 : decode cX6_treatPiece 56 = .ok (.aload_n 0, 1) := by decide +kernel
theorem dX6_treatPiece_57 : decode cX6_treatPiece 57 = .ok (.dup, 1) := by decide +kernel
theorem dX6_treatPiece_58 : decode cX6_treatPiece 58 = .ok (.getfield 32, 3) := by decide +kernel
theorem dX6_treatPiece_61 : decode cX6_treatPiece 61 = .ok (.iconst 1, 1) := by decide +kernel
theorem dX6_treatPiece_62 : decode cX6_treatPiece 62 = .ok (.iadd, 1) := by decide +kernel
theorem dX6_treatPiece_63 : decode cX6_treatPiece 63 = .ok (.putfield 32, 3) := by decide +kernel
theorem dX6_treatPiece_66 : decode cX6_treatPiece 66 = .ok (.aload_n 0, 1) := by decide +kernel
theorem dX6_treatPiece_67 : decode cX6_treatPiece 67 = .ok (.getfield 32, 3) := by decide +kernel
theorem dX6_treatPiece_70 : decode cX6_treatPiece 70 = .ok (.aload_n 1, 1) := by decide +kernel
theorem dX6_treatPiece_71 : decode cX6_treatPiece 71 = .ok (.getfield 97, 3) := by decide +kernel
theorem dX6_treatPiece_74 : decode cX6_treatPiece 74 = .ok (.if_icmp .lt 7, 3) := by decide +kernel
theorem dX6_treatPiece_77 : decode cX6_treatPiece 77 = .ok (.iconst 1, 1) := by decide +kernel
theorem dX6_treatPiece_78 : decode cX6_treatPiece 78 = .ok (.goto 4, 3) := by decide +kernel
theorem dX6_treatPiece_81 : decode cX6_treatPiece 81 = .ok (.iconst 0, 1) := by decide +kernel
theorem dX6_treatPiece_82 : decode cX6_treatPiece 82 = .ok (.ireturn, 1) := by decide +kernel
theorem dX6_fitPiece_0 : decode cX6_fitPiece 0 = .ok (.aload_n 0, 1) := by decide +kernel
theorem dX6_fitPiece_1 : decode cX6_fitPiece 1 = .ok (.getfield 50, 3) := by decide +kernel
theorem dX6_fitPiece_4 : decode cX6_fitPiece 4 = .ok (.invokevirtual 100, 3) := by decide +kernel
theorem dX6_fitPiece_7 : decode cX6_fitPiece 7 = .ok (.istore_n 1, 1) := by decide +kernel
theorem dX6_fitPiece_8 : decode cX6_fitPiece 8 = .ok (.iload_n 1, 1) := by decide +kernel
theorem dX6_fitPiece_9 : decode cX6_fitPiece 9 = .ok (.aload_n 0, 1) := by decide +kernel
theorem dX6_fitPiece_10 : decode cX6_fitPiece 10 = .ok (.getfield 23, 3) := by decide +kernel
theorem dX6_fitPiece_13 : decode cX6_fitPiece 13 = .ok (.if_icmp .le 5, 3) := by decide +kernel
theorem dX6_fitPiece_16 : decode cX6_fitPiece 16 = .ok (.iconst 2, 1) := by decide +kernel
theorem dX6_fitPiece_17 : decode cX6_fitPiece 17 = .ok (.ireturn, 1) := by decide +kernel
theorem dX6_fitPiece_18 : decode cX6_fitPiece 18 = .ok (.aload_n 0, 1) := by decide +kernel
theorem dX6_fitPiece_19 : decode cX6_fitPiece 19 = .ok (.getfield 50, 3) := by decide +kernel
theorem dX6_fitPiece_22 : decode cX6_fitPiece 22 = .ok (.invokevirtual 72, 3) := by decide +kernel
theorem dX6_fitPiece_25 : decode cX6_fitPiece 25 = .ok (.aload_n 0, 1) := by decide +kernel
theorem dX6_fitPiece_26 : decode cX6_fitPiece 26 = .ok (.dup, 1) := by decide +kernel
theorem dX6_fitPiece_27 : decode cX6_fitPiece 27 = .ok (.getfield 38, 3) := by decide +kernel
theorem dX6_fitPiece_30 : decode cX6_fitPiece 30 = .ok (.iconst 1, 1) := by decide +kernel
theorem dX6_fitPiece_31 : decode cX6_fitPiece 31 = .ok (.iadd, 1) := by decide +kernel
theorem dX6_fitPiece_32 : decode cX6_fitPiece 32 = .ok (.putfield 38, 3) := by decide +kernel
theorem dX6_fitPiece_35 : decode cX6_fitPiece 35 = .ok (.aload_n 0, 1) := by decide +kernel
theorem dX6_fitPiece_36 : decode cX6_fitPiece 36 = .ok (.dup, 1) := by decide +kernel
theorem dX6_fitPiece_37 : decode cX6_fitPiece 37 = .ok (.getfield 41, 3) := by decide +kernel
theorem dX6_fitPiece_40 : decode cX6_fitPiece 40 = .ok (.iload_n 1, 1) := by decide +kernel
theorem dX6_fitPiece_41 : decode cX6_fitPiece 41 = .ok (.iadd, 1) := by decide +kernel
theorem dX6_fitPiece_42 : decode cX6_fitPiece 42 = .ok (.putfield 41, 3) := by decide +kernel
theorem dX6_fitPiece_45 : decode cX6_fitPiece 45 = .ok (.iconst 1, 1) := by decide +kernel
theorem dX6_fitPiece_46 : decode cX6_fitPiece 46 = .ok (.ireturn, 1) := by decide +kernel
theorem dX6_holds_0 : decode cX6_holds 0 = .ok (.aload_n 0, 1) := by decide +kernel
theorem dX6_holds_1 : decode cX6_holds 1 = .ok (.getfield 54, 3) := by decide +kernel
theorem dX6_holds_4 : decode cX6_holds 4 = .ok (.iconst 1, 1) := by decide +kernel
theorem dX6_holds_5 : decode cX6_holds 5 = .ok (.iload_n 1, 1) := by decide +kernel
theorem dX6_holds_6 : decode cX6_holds 6 = .ok (.ishl, 1) := by decide +kernel
theorem dX6_holds_7 : decode cX6_holds 7 = .ok (.iand, 1) := by decide +kernel
theorem dX6_holds_8 : decode cX6_holds 8 = .ok (.ifCond .eq 7, 3) := by decide +kernel
theorem dX6_holds_11 : decode cX6_holds 11 = .ok (.iconst 1, 1) := by decide +kernel
theorem dX6_holds_12 : decode cX6_holds 12 = .ok (.goto 4, 3) := by decide +kernel
theorem dX6_holds_15 : decode cX6_holds 15 = .ok (.iconst 0, 1) := by decide +kernel
theorem dX6_holds_16 : decode cX6_holds 16 = .ok (.ireturn, 1) := by decide +kernel
theorem dX6_release_0 : decode cX6_release 0 = .ok (.aload_n 0, 1) := by decide +kernel
theorem dX6_release_1 : decode cX6_release 1 = .ok (.dup, 1) := by decide +kernel
theorem dX6_release_2 : decode cX6_release 2 = .ok (.getfield 54, 3) := by decide +kernel
theorem dX6_release_5 : decode cX6_release 5 = .ok (.iconst 1, 1) := by decide +kernel
theorem dX6_release_6 : decode cX6_release 6 = .ok (.iload_n 1, 1) := by decide +kernel
theorem dX6_release_7 : decode cX6_release 7 = .ok (.ishl, 1) := by decide +kernel
theorem dX6_release_8 : decode cX6_release 8 = .ok (.iconst (-1), 1) := by decide +kernel
theorem dX6_release_9 : decode cX6_release 9 = .ok (.ixor, 1) := by decide +kernel
theorem dX6_release_10 : decode cX6_release 10 = .ok (.iand, 1) := by decide +kernel
theorem dX6_release_11 : decode cX6_release 11 = .ok (.putfield 54, 3) := by decide +kernel
theorem dX6_release_14 : decode cX6_release 14 = .ok (.return_, 1) := by decide +kernel
theorem dX6_receive_0 : decode cX6_receive 0 = .ok (.aload_n 0, 1) := by decide +kernel
theorem dX6_receive_1 : decode cX6_receive 1 = .ok (.dup, 1) := by decide +kernel
theorem dX6_receive_2 : decode cX6_receive 2 = .ok (.getfield 54, 3) := by decide +kernel
theorem dX6_receive_5 : decode cX6_receive 5 = .ok (.iconst 1, 1) := by decide +kernel
theorem dX6_receive_6 : decode cX6_receive 6 = .ok (.iload_n 1, 1) := by decide +kernel
theorem dX6_receive_7 : decode cX6_receive 7 = .ok (.ishl, 1) := by decide +kernel
theorem dX6_receive_8 : decode cX6_receive 8 = .ok (.ior, 1) := by decide +kernel
theorem dX6_receive_9 : decode cX6_receive 9 = .ok (.putfield 54, 3) := by decide +kernel
theorem dX6_receive_12 : decode cX6_receive 12 = .ok (.aload_n 0, 1) := by decide +kernel
theorem dX6_receive_13 : decode cX6_receive 13 = .ok (.iconst (-1), 1) := by decide +kernel
theorem dX6_receive_14 : decode cX6_receive 14 = .ok (.putfield 57, 3) := by decide +kernel
theorem dX6_receive_17 : decode cX6_receive 17 = .ok (.aload_n 0, 1) := by decide +kernel
theorem dX6_receive_18 : decode cX6_receive 18 = .ok (.iconst (-1), 1) := by decide +kernel
theorem dX6_receive_19 : decode cX6_receive 19 = .ok (.putfield 60, 3) := by decide +kernel
theorem dX6_receive_22 : decode cX6_receive 22 = .ok (.aload_n 0, 1) := by decide +kernel
theorem dX6_receive_23 : decode cX6_receive 23 = .ok (.iconst 0, 1) := by decide +kernel
theorem dX6_receive_24 : decode cX6_receive 24 = .ok (.putfield 63, 3) := by decide +kernel
theorem dX6_receive_27 : decode cX6_receive 27 = .ok (.return_, 1) := by decide +kernel
theorem dX6_await_0 : decode cX6_await 0 = .ok (.aload_n 0, 1) := by decide +kernel
theorem dX6_await_1 : decode cX6_await 1 = .ok (.iload_n 1, 1) := by decide +kernel
theorem dX6_await_2 : decode cX6_await 2 = .ok (.putfield 57, 3) := by decide +kernel
theorem dX6_await_5 : decode cX6_await 5 = .ok (.aload_n 0, 1) := by decide +kernel
theorem dX6_await_6 : decode cX6_await 6 = .ok (.iload_n 2, 1) := by decide +kernel
theorem dX6_await_7 : decode cX6_await 7 = .ok (.putfield 60, 3) := by decide +kernel
theorem dX6_await_10 : decode cX6_await 10 = .ok (.aload_n 0, 1) := by decide +kernel
theorem dX6_await_11 : decode cX6_await 11 = .ok (.iload_n 3, 1) := by decide +kernel
theorem dX6_await_12 : decode cX6_await 12 = .ok (.putfield 63, 3) := by decide +kernel
theorem dX6_await_15 : decode cX6_await 15 = .ok (.return_, 1) := by decide +kernel
theorem dX6_isWaiting_0 : decode cX6_isWaiting 0 = .ok (.aload_n 0, 1) := by decide +kernel
theorem dX6_isWaiting_1 : decode cX6_isWaiting 1 = .ok (.getfield 57, 3) := by decide +kernel
theorem dX6_isWaiting_4 : decode cX6_isWaiting 4 = .ok (.ifCond .lt 7, 3) := by decide +kernel
theorem dX6_isWaiting_7 : decode cX6_isWaiting 7 = .ok (.iconst 1, 1) := by decide +kernel
theorem dX6_isWaiting_8 : decode cX6_isWaiting 8 = .ok (.goto 4, 3) := by decide +kernel
theorem dX6_isWaiting_11 : decode cX6_isWaiting 11 = .ok (.iconst 0, 1) := by decide +kernel
theorem dX6_isWaiting_12 : decode cX6_isWaiting 12 = .ok (.ireturn, 1) := by decide +kernel
theorem dX6_couldEnd_0 : decode cX6_couldEnd 0 = .ok (.aload_n 0, 1) := by decide +kernel
theorem dX6_couldEnd_1 : decode cX6_couldEnd 1 = .ok (.invokevirtual 104, 3) := by decide +kernel
theorem dX6_couldEnd_4 : decode cX6_couldEnd 4 = .ok (.ifCond .eq 14, 3) := by decide +kernel
theorem dX6_couldEnd_7 : decode cX6_couldEnd 7 = .ok (.iload_n 1, 1) := by decide +kernel
theorem dX6_couldEnd_8 : decode cX6_couldEnd 8 = .ok (.iconst 1, 1) := by decide +kernel
theorem dX6_couldEnd_9 : decode cX6_couldEnd 9 = .ok (.aload_n 0, 1) := by decide +kernel
theorem dX6_couldEnd_10 : decode cX6_couldEnd 10 = .ok (.getfield 57, 3) := by decide +kernel
theorem dX6_couldEnd_13 : decode cX6_couldEnd 13 = .ok (.ishl, 1) := by decide +kernel
theorem dX6_couldEnd_14 : decode cX6_couldEnd 14 = .ok (.iand, 1) := by decide +kernel
theorem dX6_couldEnd_15 : decode cX6_couldEnd 15 = .ok (.ifCond .eq 7, 3) := by decide +kernel
theorem dX6_couldEnd_18 : decode cX6_couldEnd 18 = .ok (.iconst 1, 1) := by decide +kernel
theorem dX6_couldEnd_19 : decode cX6_couldEnd 19 = .ok (.goto 4, 3) := by decide +kernel
theorem dX6_couldEnd_22 : decode cX6_couldEnd 22 = .ok (.iconst 0, 1) := by decide +kernel
theorem dX6_couldEnd_23 : decode cX6_couldEnd 23 = .ok (.ireturn, 1) := by decide +kernel
theorem dX6_heldSorts_0 : decode cX6_heldSorts 0 = .ok (.aload_n 0, 1) := by decide +kernel
theorem dX6_heldSorts_1 : decode cX6_heldSorts 1 = .ok (.getfield 54, 3) := by decide +kernel
theorem dX6_heldSorts_4 : decode cX6_heldSorts 4 = .ok (.ireturn, 1) := by decide +kernel
theorem dX6_tell_0 : decode cX6_tell 0 = .ok (.iload_n 1, 1) := by decide +kernel
theorem dX6_tell_1 : decode cX6_tell 1 = .ok (.tableswitch 177 0 13 #[71, 84, 89, 94, 99, 104, 120, 128, 136, 144, 149, 154, 167, 172], 71) := by decide +kernel
theorem dX6_tell_72 : decode cX6_tell 72 = .ok (.aload_n 0, 1) := by decide +kernel
theorem dX6_tell_73 : decode cX6_tell 73 = .ok (.getfield 9, 3) := by decide +kernel
theorem dX6_tell_76 : decode cX6_tell 76 = .ok (.ifCond .eq 7, 3) := by decide +kernel
theorem dX6_tell_79 : decode cX6_tell 79 = .ok (.iconst 1, 1) := by decide +kernel
theorem dX6_tell_80 : decode cX6_tell 80 = .ok (.goto 4, 3) := by decide +kernel
theorem dX6_tell_83 : decode cX6_tell 83 = .ok (.iconst 0, 1) := by decide +kernel
theorem dX6_tell_84 : decode cX6_tell 84 = .ok (.ireturn, 1) := by decide +kernel
theorem dX6_tell_85 : decode cX6_tell 85 = .ok (.aload_n 0, 1) := by decide +kernel
theorem dX6_tell_86 : decode cX6_tell 86 = .ok (.getfield 19, 3) := by decide +kernel
theorem dX6_tell_89 : decode cX6_tell 89 = .ok (.ireturn, 1) := by decide +kernel
theorem dX6_tell_90 : decode cX6_tell 90 = .ok (.aload_n 0, 1) := by decide +kernel
theorem dX6_tell_91 : decode cX6_tell 91 = .ok (.getfield 29, 3) := by decide +kernel
theorem dX6_tell_94 : decode cX6_tell 94 = .ok (.ireturn, 1) := by decide +kernel
theorem dX6_tell_95 : decode cX6_tell 95 = .ok (.aload_n 0, 1) := by decide +kernel
theorem dX6_tell_96 : decode cX6_tell 96 = .ok (.getfield 38, 3) := by decide +kernel
theorem dX6_tell_99 : decode cX6_tell 99 = .ok (.ireturn, 1) := by decide +kernel
theorem dX6_tell_100 : decode cX6_tell 100 = .ok (.aload_n 0, 1) := by decide +kernel
theorem dX6_tell_101 : decode cX6_tell 101 = .ok (.getfield 41, 3) := by decide +kernel
theorem dX6_tell_104 : decode cX6_tell 104 = .ok (.ireturn, 1) := by decide +kernel
theorem dX6_tell_105 : decode cX6_tell 105 = .ok (.aload_n 0, 1) := by decide +kernel
theorem dX6_tell_106 : decode cX6_tell 106 = .ok (.getfield 50, 3) := by decide +kernel
theorem dX6_tell_109 : decode cX6_tell 109 = .ok (.getfield 107, 3) := by decide +kernel
theorem dX6_tell_112 : decode cX6_tell 112 = .ok (.ifCond .eq 7, 3) := by decide +kernel
theorem dX6_tell_115 : decode cX6_tell 115 = .ok (.iconst 1, 1) := by decide +kernel
theorem dX6_tell_116 : decode cX6_tell 116 = .ok (.goto 4, 3) := by decide +kernel
theorem dX6_tell_119 : decode cX6_tell 119 = .ok (.iconst 0, 1) := by decide +kernel
theorem dX6_tell_120 : decode cX6_tell 120 = .ok (.ireturn, 1) := by decide +kernel
theorem dX6_tell_121 : decode cX6_tell 121 = .ok (.aload_n 0, 1) := by decide +kernel
theorem dX6_tell_122 : decode cX6_tell 122 = .ok (.getfield 50, 3) := by decide +kernel
theorem dX6_tell_125 : decode cX6_tell 125 = .ok (.getfield 110, 3) := by decide +kernel
theorem dX6_tell_128 : decode cX6_tell 128 = .ok (.ireturn, 1) := by decide +kernel
theorem dX6_tell_129 : decode cX6_tell 129 = .ok (.aload_n 0, 1) := by decide +kernel
theorem dX6_tell_130 : decode cX6_tell 130 = .ok (.getfield 50, 3) := by decide +kernel
theorem dX6_tell_133 : decode cX6_tell 133 = .ok (.getfield 113, 3) := by decide +kernel
theorem dX6_tell_136 : decode cX6_tell 136 = .ok (.ireturn, 1) := by decide +kernel
theorem dX6_tell_137 : decode cX6_tell 137 = .ok (.aload_n 0, 1) := by decide +kernel
theorem dX6_tell_138 : decode cX6_tell 138 = .ok (.getfield 50, 3) := by decide +kernel
theorem dX6_tell_141 : decode cX6_tell 141 = .ok (.getfield 116, 3) := by decide +kernel
theorem dX6_tell_144 : decode cX6_tell 144 = .ok (.ireturn, 1) := by decide +kernel
theorem dX6_tell_145 : decode cX6_tell 145 = .ok (.aload_n 0, 1) := by decide +kernel
theorem dX6_tell_146 : decode cX6_tell 146 = .ok (.getfield 57, 3) := by decide +kernel
theorem dX6_tell_149 : decode cX6_tell 149 = .ok (.ireturn, 1) := by decide +kernel
theorem dX6_tell_150 : decode cX6_tell 150 = .ok (.aload_n 0, 1) := by decide +kernel
theorem dX6_tell_151 : decode cX6_tell 151 = .ok (.getfield 60, 3) := by decide +kernel
theorem dX6_tell_154 : decode cX6_tell 154 = .ok (.ireturn, 1) := by decide +kernel
theorem dX6_tell_155 : decode cX6_tell 155 = .ok (.aload_n 0, 1) := by decide +kernel
theorem dX6_tell_156 : decode cX6_tell 156 = .ok (.getfield 63, 3) := by decide +kernel
theorem dX6_tell_159 : decode cX6_tell 159 = .ok (.ifCond .eq 7, 3) := by decide +kernel
theorem dX6_tell_162 : decode cX6_tell 162 = .ok (.iconst 1, 1) := by decide +kernel
theorem dX6_tell_163 : decode cX6_tell 163 = .ok (.goto 4, 3) := by decide +kernel
theorem dX6_tell_166 : decode cX6_tell 166 = .ok (.iconst 0, 1) := by decide +kernel
theorem dX6_tell_167 : decode cX6_tell 167 = .ok (.ireturn, 1) := by decide +kernel
theorem dX6_tell_168 : decode cX6_tell 168 = .ok (.aload_n 0, 1) := by decide +kernel
theorem dX6_tell_169 : decode cX6_tell 169 = .ok (.getfield 54, 3) := by decide +kernel
theorem dX6_tell_172 : decode cX6_tell 172 = .ok (.ireturn, 1) := by decide +kernel
theorem dX6_tell_173 : decode cX6_tell 173 = .ok (.aload_n 0, 1) := by decide +kernel
theorem dX6_tell_174 : decode cX6_tell 174 = .ok (.getfield 44, 3) := by decide +kernel
theorem dX6_tell_177 : decode cX6_tell 177 = .ok (.ireturn, 1) := by decide +kernel
theorem dX6_tell_178 : decode cX6_tell 178 = .ok (.aload_n 0, 1) := by decide +kernel
theorem dX6_tell_179 : decode cX6_tell 179 = .ok (.getfield 26, 3) := by decide +kernel
theorem dX6_tell_182 : decode cX6_tell 182 = .ok (.ireturn, 1) := by decide +kernel
theorem dX6_copyFrom_0 : decode cX6_copyFrom 0 = .ok (.aload_n 0, 1) := by decide +kernel
theorem dX6_copyFrom_1 : decode cX6_copyFrom 1 = .ok (.aload_n 1, 1) := by decide +kernel
theorem dX6_copyFrom_2 : decode cX6_copyFrom 2 = .ok (.getfield 15, 3) := by decide +kernel
theorem dX6_copyFrom_5 : decode cX6_copyFrom 5 = .ok (.aload_n 1, 1) := by decide +kernel
theorem dX6_copyFrom_6 : decode cX6_copyFrom 6 = .ok (.getfield 19, 3) := by decide +kernel
theorem dX6_copyFrom_9 : decode cX6_copyFrom 9 = .ok (.aload_n 1, 1) := by decide +kernel
theorem dX6_copyFrom_10 : decode cX6_copyFrom 10 = .ok (.getfield 23, 3) := by decide +kernel
theorem dX6_copyFrom_13 : decode cX6_copyFrom 13 = .ok (.aload_n 1, 1) := by decide +kernel
theorem dX6_copyFrom_14 : decode cX6_copyFrom 14 = .ok (.getfield 26, 3) := by decide +kernel
theorem dX6_copyFrom_17 : decode cX6_copyFrom 17 = .ok (.invokevirtual 119, 3) := by decide +kernel
theorem dX6_copyFrom_20 : decode cX6_copyFrom 20 = .ok (.aload_n 0, 1) := by decide +kernel
theorem dX6_copyFrom_21 : decode cX6_copyFrom 21 = .ok (.aload_n 1, 1) := by decide +kernel
theorem dX6_copyFrom_22 : decode cX6_copyFrom 22 = .ok (.getfield 9, 3) := by decide +kernel
theorem dX6_copyFrom_25 : decode cX6_copyFrom 25 = .ok (.putfield 9, 3) := by decide +kernel
theorem dX6_copyFrom_28 : decode cX6_copyFrom 28 = .ok (.aload_n 0, 1) := by decide +kernel
theorem dX6_copyFrom_29 : decode cX6_copyFrom 29 = .ok (.aload_n 1, 1) := by decide +kernel
theorem dX6_copyFrom_30 : decode cX6_copyFrom 30 = .ok (.getfield 29, 3) := by decide +kernel
theorem dX6_copyFrom_33 : decode cX6_copyFrom 33 = .ok (.putfield 29, 3) := by decide +kernel
theorem dX6_copyFrom_36 : decode cX6_copyFrom 36 = .ok (.aload_n 0, 1) := by decide +kernel
theorem dX6_copyFrom_37 : decode cX6_copyFrom 37 = .ok (.aload_n 1, 1) := by decide +kernel
theorem dX6_copyFrom_38 : decode cX6_copyFrom 38 = .ok (.getfield 32, 3) := by decide +kernel
theorem dX6_copyFrom_41 : decode cX6_copyFrom 41 = .ok (.putfield 32, 3) := by decide +kernel
theorem dX6_copyFrom_44 : decode cX6_copyFrom 44 = .ok (.aload_n 0, 1) := by decide +kernel
theorem dX6_copyFrom_45 : decode cX6_copyFrom 45 = .ok (.aload_n 1, 1) := by decide +kernel
theorem dX6_copyFrom_46 : decode cX6_copyFrom 46 = .ok (.getfield 35, 3) := by decide +kernel
theorem dX6_copyFrom_49 : decode cX6_copyFrom 49 = .ok (.putfield 35, 3) := by decide +kernel
theorem dX6_copyFrom_52 : decode cX6_copyFrom 52 = .ok (.aload_n 0, 1) := by decide +kernel
theorem dX6_copyFrom_53 : decode cX6_copyFrom 53 = .ok (.aload_n 1, 1) := by decide +kernel
theorem dX6_copyFrom_54 : decode cX6_copyFrom 54 = .ok (.getfield 38, 3) := by decide +kernel
theorem dX6_copyFrom_57 : decode cX6_copyFrom 57 = .ok (.putfield 38, 3) := by decide +kernel
theorem dX6_copyFrom_60 : decode cX6_copyFrom 60 = .ok (.aload_n 0, 1) := by decide +kernel
theorem dX6_copyFrom_61 : decode cX6_copyFrom 61 = .ok (.aload_n 1, 1) := by decide +kernel
theorem dX6_copyFrom_62 : decode cX6_copyFrom 62 = .ok (.getfield 41, 3) := by decide +kernel
theorem dX6_copyFrom_65 : decode cX6_copyFrom 65 = .ok (.putfield 41, 3) := by decide +kernel
theorem dX6_copyFrom_68 : decode cX6_copyFrom 68 = .ok (.aload_n 0, 1) := by decide +kernel
theorem dX6_copyFrom_69 : decode cX6_copyFrom 69 = .ok (.aload_n 1, 1) := by decide +kernel
theorem dX6_copyFrom_70 : decode cX6_copyFrom 70 = .ok (.getfield 44, 3) := by decide +kernel
theorem dX6_copyFrom_73 : decode cX6_copyFrom 73 = .ok (.putfield 44, 3) := by decide +kernel
theorem dX6_copyFrom_76 : decode cX6_copyFrom 76 = .ok (.aload_n 0, 1) := by decide +kernel
theorem dX6_copyFrom_77 : decode cX6_copyFrom 77 = .ok (.getfield 50, 3) := by decide +kernel
theorem dX6_copyFrom_80 : decode cX6_copyFrom 80 = .ok (.aload_n 1, 1) := by decide +kernel
theorem dX6_copyFrom_81 : decode cX6_copyFrom 81 = .ok (.getfield 50, 3) := by decide +kernel
theorem dX6_copyFrom_84 : decode cX6_copyFrom 84 = .ok (.invokevirtual 123, 3) := by decide +kernel
theorem dX6_copyFrom_87 : decode cX6_copyFrom 87 = .ok (.aload_n 0, 1) := by decide +kernel
theorem dX6_copyFrom_88 : decode cX6_copyFrom 88 = .ok (.aload_n 1, 1) := by decide +kernel
theorem dX6_copyFrom_89 : decode cX6_copyFrom 89 = .ok (.getfield 54, 3) := by decide +kernel
theorem dX6_copyFrom_92 : decode cX6_copyFrom 92 = .ok (.putfield 54, 3) := by decide +kernel
theorem dX6_copyFrom_95 : decode cX6_copyFrom 95 = .ok (.aload_n 0, 1) := by decide +kernel
theorem dX6_copyFrom_96 : decode cX6_copyFrom 96 = .ok (.aload_n 1, 1) := by decide +kernel
theorem dX6_copyFrom_97 : decode cX6_copyFrom 97 = .ok (.getfield 57, 3) := by decide +kernel
theorem dX6_copyFrom_100 : decode cX6_copyFrom 100 = .ok (.aload_n 1, 1) := by decide +kernel
theorem dX6_copyFrom_101 : decode cX6_copyFrom 101 = .ok (.getfield 60, 3) := by decide +kernel
theorem dX6_copyFrom_104 : decode cX6_copyFrom 104 = .ok (.aload_n 1, 1) := by decide +kernel
theorem dX6_copyFrom_105 : decode cX6_copyFrom 105 = .ok (.getfield 63, 3) := by decide +kernel
theorem dX6_copyFrom_108 : decode cX6_copyFrom 108 = .ok (.invokevirtual 127, 3) := by decide +kernel
theorem dX6_copyFrom_111 : decode cX6_copyFrom 111 = .ok (.return_, 1) := by decide +kernel
theorem dX7_init_0 : decode cX7_init 0 = .ok (.aload_n 0, 1) := by decide +kernel
theorem dX7_init_1 : decode cX7_init 1 = .ok (.invokespecial 3, 3) := by decide +kernel
theorem dX7_init_4 : decode cX7_init 4 = .ok (.aload_n 0, 1) := by decide +kernel
theorem dX7_init_5 : decode cX7_init 5 = .ok (.bipush 60, 2) := by decide +kernel
theorem dX7_init_7 : decode cX7_init 7 = .ok (.anewarray 9, 3) := by decide +kernel
theorem dX7_init_10 : decode cX7_init 10 = .ok (.putfield 11, 3) := by decide +kernel
theorem dX7_init_13 : decode cX7_init 13 = .ok (.aload_n 0, 1) := by decide +kernel
theorem dX7_init_14 : decode cX7_init 14 = .ok (.iconst 0, 1) := by decide +kernel
theorem dX7_init_15 : decode cX7_init 15 = .ok (.putfield 17, 3) := by decide +kernel
theorem dX7_init_18 : decode cX7_init 18 = .ok (.aload_n 0, 1) := by decide +kernel
theorem dX7_init_19 : decode cX7_init 19 = .ok (.iconst 0, 1) := by decide +kernel
theorem dX7_init_20 : decode cX7_init 20 = .ok (.putfield 21, 3) := by decide +kernel
theorem dX7_init_23 : decode cX7_init 23 = .ok (.iconst 0, 1) := by decide +kernel
theorem dX7_init_24 : decode cX7_init 24 = .ok (.istore_n 1, 1) := by decide +kernel
theorem dX7_init_25 : decode cX7_init 25 = .ok (.iload_n 1, 1) := by decide +kernel
theorem dX7_init_26 : decode cX7_init 26 = .ok (.bipush 60, 2) := by decide +kernel
theorem dX7_init_28 : decode cX7_init 28 = .ok (.if_icmp .ge 22, 3) := by decide +kernel
theorem dX7_init_31 : decode cX7_init 31 = .ok (.aload_n 0, 1) := by decide +kernel
theorem dX7_init_32 : decode cX7_init 32 = .ok (.getfield 11, 3) := by decide +kernel
theorem dX7_init_35 : decode cX7_init 35 = .ok (.iload_n 1, 1) := by decide +kernel
theorem dX7_init_36 : decode cX7_init 36 = .ok (.new 9, 3) := by decide +kernel
theorem dX7_init_39 : decode cX7_init 39 = .ok (.dup, 1) := by decide +kernel
theorem dX7_init_40 : decode cX7_init 40 = .ok (.invokespecial 24, 3) := by decide +kernel
theorem dX7_init_43 : decode cX7_init 43 = .ok (.aastore, 1) := by decide +kernel
theorem dX7_init_44 : decode cX7_init 44 = .ok (.iinc 1 1, 3) := by decide +kernel
theorem dX7_init_47 : decode cX7_init 47 = .ok (.goto (-22), 3) := by decide +kernel
theorem dX7_init_50 : decode cX7_init 50 = .ok (.return_, 1) := by decide +kernel
theorem dX7_add_0 : decode cX7_add 0 = .ok (.aload_n 0, 1) := by decide +kernel
theorem dX7_add_1 : decode cX7_add 1 = .ok (.getfield 17, 3) := by decide +kernel
theorem dX7_add_4 : decode cX7_add 4 = .ok (.bipush 60, 2) := by decide +kernel
theorem dX7_add_6 : decode cX7_add 6 = .ok (.if_icmp .lt 5, 3) := by decide +kernel
theorem dX7_add_9 : decode cX7_add 9 = .ok (.iconst (-1), 1) := by decide +kernel
theorem dX7_add_10 : decode cX7_add 10 = .ok (.ireturn, 1) := by decide +kernel
theorem dX7_add_11 : decode cX7_add 11 = .ok (.aload_n 0, 1) := by decide +kernel
theorem dX7_add_12 : decode cX7_add 12 = .ok (.getfield 11, 3) := by decide +kernel
theorem dX7_add_15 : decode cX7_add 15 = .ok (.aload_n 0, 1) := by decide +kernel
theorem dX7_add_16 : decode cX7_add 16 = .ok (.getfield 17, 3) := by decide +kernel
theorem dX7_add_19 : decode cX7_add 19 = .ok (.aaload, 1) := by decide +kernel
theorem dX7_add_20 : decode cX7_add 20 = .ok (.iload_n 1, 1) := by decide +kernel
theorem dX7_add_21 : decode cX7_add 21 = .ok (.iload_n 2, 1) := by decide +kernel
theorem dX7_add_22 : decode cX7_add 22 = .ok (.iload_n 3, 1) := by decide +kernel
theorem dX7_add_23 : decode cX7_add 23 = .ok (.invokevirtual 25, 3) := by decide +kernel
theorem dX7_add_26 : decode cX7_add 26 = .ok (.aload_n 0, 1) := by decide +kernel
theorem dX7_add_27 : decode cX7_add 27 = .ok (.dup, 1) := by decide +kernel
theorem dX7_add_28 : decode cX7_add 28 = .ok (.getfield 17, 3) := by decide +kernel
theorem dX7_add_31 : decode cX7_add 31 = .ok (.iconst 1, 1) := by decide +kernel
theorem dX7_add_32 : decode cX7_add 32 = .ok (.iadd, 1) := by decide +kernel
theorem dX7_add_33 : decode cX7_add 33 = .ok (.putfield 17, 3) := by decide +kernel
theorem dX7_add_36 : decode cX7_add 36 = .ok (.aload_n 0, 1) := by decide +kernel
theorem dX7_add_37 : decode cX7_add 37 = .ok (.getfield 17, 3) := by decide +kernel
theorem dX7_add_40 : decode cX7_add 40 = .ok (.iconst 1, 1) := by decide +kernel
theorem dX7_add_41 : decode cX7_add 41 = .ok (.isub, 1) := by decide +kernel
theorem dX7_add_42 : decode cX7_add 42 = .ok (.ireturn, 1) := by decide +kernel
theorem dX7_plankFor_0 : decode cX7_plankFor 0 = .ok (.iconst (-1), 1) := by decide +kernel
theorem dX7_plankFor_1 : decode cX7_plankFor 1 = .ok (.istore_n 3, 1) := by decide +kernel
theorem dX7_plankFor_2 : decode cX7_plankFor 2 = .ok (.iconst 0, 1) := by decide +kernel
theorem dX7_plankFor_3 : decode cX7_plankFor 3 = .ok (.istore 4, 2) := by decide +kernel
theorem dX7_plankFor_5 : decode cX7_plankFor 5 = .ok (.iload 4, 2) := by decide +kernel
theorem dX7_plankFor_7 : decode cX7_plankFor 7 = .ok (.aload_n 0, 1) := by decide +kernel
theorem dX7_plankFor_8 : decode cX7_plankFor 8 = .ok (.getfield 17, 3) := by decide +kernel
theorem dX7_plankFor_11 : decode cX7_plankFor 11 = .ok (.if_icmp .ge 72, 3) := by decide +kernel
theorem dX7_plankFor_14 : decode cX7_plankFor 14 = .ok (.aload_n 0, 1) := by decide +kernel
theorem dX7_plankFor_15 : decode cX7_plankFor 15 = .ok (.getfield 11, 3) := by decide +kernel
theorem dX7_plankFor_18 : decode cX7_plankFor 18 = .ok (.iload 4, 2) := by decide +kernel
theorem dX7_plankFor_20 : decode cX7_plankFor 20 = .ok (.aaload, 1) := by decide +kernel
theorem dX7_plankFor_21 : decode cX7_plankFor 21 = .ok (.astore 5, 2) := by decide +kernel
theorem dX7_plankFor_23 : decode cX7_plankFor 23 = .ok (.iload_n 3, 1) := by decide +kernel
theorem dX7_plankFor_24 : decode cX7_plankFor 24 = .ok (.ifCond .lt 20, 3) := by decide +kernel
theorem dX7_plankFor_27 : decode cX7_plankFor 27 = .ok (.aload 5, 2) := by decide +kernel
theorem dX7_plankFor_29 : decode cX7_plankFor 29 = .ok (.getfield 29, 3) := by decide +kernel
theorem dX7_plankFor_32 : decode cX7_plankFor 32 = .ok (.aload_n 0, 1) := by decide +kernel
theorem dX7_plankFor_33 : decode cX7_plankFor 33 = .ok (.getfield 11, 3) := by decide +kernel
theorem dX7_plankFor_36 : decode cX7_plankFor 36 = .ok (.iload_n 3, 1) := by decide +kernel
theorem dX7_plankFor_37 : decode cX7_plankFor 37 = .ok (.aaload, 1) := by decide +kernel
theorem dX7_plankFor_38 : decode cX7_plankFor 38 = .ok (.getfield 29, 3) := by decide +kernel
theorem dX7_plankFor_41 : decode cX7_plankFor 41 = .ok (.if_icmp .ge 7, 3) := by decide +kernel
theorem dX7_plankFor_44 : decode cX7_plankFor 44 = .ok (.iconst 1, 1) := by decide +kernel
theorem dX7_plankFor_45 : decode cX7_plankFor 45 = .ok (.goto 4, 3) := by decide +kernel
theorem dX7_plankFor_48 : decode cX7_plankFor 48 = .ok (.iconst 0, 1) := by decide +kernel
theorem dX7_plankFor_49 : decode cX7_plankFor 49 = .ok (.istore 6, 2) := by decide +kernel
theorem dX7_plankFor_51 : decode cX7_plankFor 51 = .ok (.aload 5, 2) := by decide +kernel
theorem dX7_plankFor_53 : decode cX7_plankFor 53 = .ok (.getfield 32, 3) := by decide +kernel
theorem dX7_plankFor_56 : decode cX7_plankFor 56 = .ok (.iload_n 1, 1) := by decide +kernel
theorem dX7_plankFor_57 : decode cX7_plankFor 57 = .ok (.if_icmp .ne 20, 3) := by decide +kernel
theorem dX7_plankFor_60 : decode cX7_plankFor 60 = .ok (.iload 6, 2) := by decide +kernel
theorem dX7_plankFor_62 : decode cX7_plankFor 62 = .ok (.ifCond .eq 15, 3) := by decide +kernel
theorem dX7_plankFor_65 : decode cX7_plankFor 65 = .ok (.aload 5, 2) := by decide +kernel
theorem dX7_plankFor_67 : decode cX7_plankFor 67 = .ok (.iload_n 2, 1) := by decide +kernel
theorem dX7_plankFor_68 : decode cX7_plankFor 68 = .ok (.invokevirtual 35, 3) := by decide +kernel
theorem dX7_plankFor_71 : decode cX7_plankFor 71 = .ok (.ifCond .lt 6, 3) := by decide +kernel
theorem dX7_plankFor_74 : decode cX7_plankFor 74 = .ok (.iload 4, 2) := by decide +kernel
theorem dX7_plankFor_76 : decode cX7_plankFor 76 = .ok (.istore_n 3, 1) := by decide +kernel
theorem dX7_plankFor_77 : decode cX7_plankFor 77 = .ok (.iinc 4 1, 3) := by decide +kernel
theorem dX7_plankFor_80 : decode cX7_plankFor 80 = .ok (.goto (-75), 3) := by decide +kernel
theorem dX7_plankFor_83 : decode cX7_plankFor 83 = .ok (.iload_n 3, 1) := by decide +kernel
theorem dX7_plankFor_84 : decode cX7_plankFor 84 = .ok (.ireturn, 1) := by decide +kernel
theorem dX7_cutAway_0 : decode cX7_cutAway 0 = .ok (.iload_n 2, 1) := by decide +kernel
theorem dX7_cutAway_1 : decode cX7_cutAway 1 = .ok (.iload_n 3, 1) := by decide +kernel
theorem dX7_cutAway_2 : decode cX7_cutAway 2 = .ok (.iadd, 1) := by decide +kernel
theorem dX7_cutAway_3 : decode cX7_cutAway 3 = .ok (.istore 4, 2) := by decide +kernel
theorem dX7_cutAway_5 : decode cX7_cutAway 5 = .ok (.aload_n 1, 1) := by decide +kernel
theorem dX7_cutAway_6 : decode cX7_cutAway 6 = .ok (.getfield 29, 3) := by decide +kernel
theorem dX7_cutAway_9 : decode cX7_cutAway 9 = .ok (.iload 4, 2) := by decide +kernel
theorem dX7_cutAway_11 : decode cX7_cutAway 11 = .ok (.isub, 1) := by decide +kernel
theorem dX7_cutAway_12 : decode cX7_cutAway 12 = .ok (.istore 5, 2) := by decide +kernel
theorem dX7_cutAway_14 : decode cX7_cutAway 14 = .ok (.iload 5, 2) := by decide +kernel
theorem dX7_cutAway_16 : decode cX7_cutAway 16 = .ok (.bipush 10, 2) := by decide +kernel
theorem dX7_cutAway_18 : decode cX7_cutAway 18 = .ok (.if_icmp .lt 12, 3) := by decide +kernel
theorem dX7_cutAway_21 : decode cX7_cutAway 21 = .ok (.aload_n 0, 1) := by decide +kernel
theorem dX7_cutAway_22 : decode cX7_cutAway 22 = .ok (.getfield 17, 3) := by decide +kernel
theorem dX7_cutAway_25 : decode cX7_cutAway 25 = .ok (.bipush 60, 2) := by decide +kernel
theorem dX7_cutAway_27 : decode cX7_cutAway 27 = .ok (.if_icmp .lt 17, 3) := by decide +kernel
theorem dX7_cutAway_30 : decode cX7_cutAway 30 = .ok (.aload_n 0, 1) := by decide +kernel
theorem dX7_cutAway_31 : decode cX7_cutAway 31 = .ok (.dup, 1) := by decide +kernel
theorem dX7_cutAway_32 : decode cX7_cutAway 32 = .ok (.getfield 21, 3) := by decide +kernel
theorem dX7_cutAway_35 : decode cX7_cutAway 35 = .ok (.iload 5, 2) := by decide +kernel
theorem dX7_cutAway_37 : decode cX7_cutAway 37 = .ok (.iadd, 1) := by decide +kernel
theorem dX7_cutAway_38 : decode cX7_cutAway 38 = .ok (.putfield 21, 3) := by decide +kernel
theorem dX7_cutAway_41 : decode cX7_cutAway 41 = .ok (.goto 28, 3) := by decide +kernel
theorem dX7_cutAway_44 : decode cX7_cutAway 44 = .ok (.aload_n 0, 1) := by decide +kernel
theorem dX7_cutAway_45 : decode cX7_cutAway 45 = .ok (.getfield 11, 3) := by decide +kernel
theorem dX7_cutAway_48 : decode cX7_cutAway 48 = .ok (.aload_n 0, 1) := by decide +kernel
theorem dX7_cutAway_49 : decode cX7_cutAway 49 = .ok (.getfield 17, 3) := by decide +kernel
theorem dX7_cutAway_52 : decode cX7_cutAway 52 = .ok (.aaload, 1) := by decide +kernel
theorem dX7_cutAway_53 : decode cX7_cutAway 53 = .ok (.aload_n 1, 1) := by decide +kernel
theorem dX7_cutAway_54 : decode cX7_cutAway 54 = .ok (.iload 4, 2) := by decide +kernel
theorem dX7_cutAway_56 : decode cX7_cutAway 56 = .ok (.invokevirtual 39, 3) := by decide +kernel
theorem dX7_cutAway_59 : decode cX7_cutAway 59 = .ok (.aload_n 0, 1) := by decide +kernel
theorem dX7_cutAway_60 : decode cX7_cutAway 60 = .ok (.dup, 1) := by decide +kernel
theorem dX7_cutAway_61 : decode cX7_cutAway 61 = .ok (.getfield 17, 3) := by decide +kernel
theorem dX7_cutAway_64 : decode cX7_cutAway 64 = .ok (.iconst 1, 1) := by decide +kernel
theorem dX7_cutAway_65 : decode cX7_cutAway 65 = .ok (.iadd, 1) := by decide +kernel
theorem dX7_cutAway_66 : decode cX7_cutAway 66 = .ok (.putfield 17, 3) := by decide +kernel
theorem dX7_cutAway_69 : decode cX7_cutAway 69 = .ok (.iload_n 2, 1) := by decide +kernel
theorem dX7_cutAway_70 : decode cX7_cutAway 70 = .ok (.bipush 10, 2) := by decide +kernel
theorem dX7_cutAway_72 : decode cX7_cutAway 72 = .ok (.if_icmp .ge 21, 3) := by decide +kernel
theorem dX7_cutAway_75 : decode cX7_cutAway 75 = .ok (.aload_n 0, 1) := by decide +kernel
theorem dX7_cutAway_76 : decode cX7_cutAway 76 = .ok (.dup, 1) := by decide +kernel
theorem dX7_cutAway_77 : decode cX7_cutAway 77 = .ok (.getfield 21, 3) := by decide +kernel
theorem dX7_cutAway_80 : decode cX7_cutAway 80 = .ok (.iload_n 2, 1) := by decide +kernel
theorem dX7_cutAway_81 : decode cX7_cutAway 81 = .ok (.iadd, 1) := by decide +kernel
theorem dX7_cutAway_82 : decode cX7_cutAway 82 = .ok (.putfield 21, 3) := by decide +kernel
theorem dX7_cutAway_85 : decode cX7_cutAway 85 = .ok (.aload_n 1, 1) := by decide +kernel
theorem dX7_cutAway_86 : decode cX7_cutAway 86 = .ok (.iconst 0, 1) := by decide +kernel
theorem dX7_cutAway_87 : decode cX7_cutAway 87 = .ok (.invokevirtual 43, 3) := by decide +kernel
theorem dX7_cutAway_90 : decode cX7_cutAway 90 = .ok (.goto 8, 3) := by decide +kernel
theorem dX7_cutAway_93 : decode cX7_cutAway 93 = .ok (.aload_n 1, 1) := by decide +kernel
theorem dX7_cutAway_94 : decode cX7_cutAway 94 = .ok (.iload_n 2, 1) := by decide +kernel
theorem dX7_cutAway_95 : decode cX7_cutAway 95 = .ok (.invokevirtual 43, 3) := by decide +kernel
theorem dX7_cutAway_98 : decode cX7_cutAway 98 = .ok (.return_, 1) := by decide +kernel
theorem dX7_moveWetness_0 : decode cX7_moveWetness 0 = .ok (.iconst 0, 1) := by decide +kernel
theorem dX7_moveWetness_1 : decode cX7_moveWetness 1 = .ok (.istore_n 1, 1) := by decide +kernel
theorem dX7_moveWetness_2 : decode cX7_moveWetness 2 = .ok (.iload_n 1, 1) := by decide +kernel
theorem dX7_moveWetness_3 : decode cX7_moveWetness 3 = .ok (.aload_n 0, 1) := by decide +kernel
theorem dX7_moveWetness_4 : decode cX7_moveWetness 4 = .ok (.getfield 17, 3) := by decide +kernel
theorem dX7_moveWetness_7 : decode cX7_moveWetness 7 = .ok (.if_icmp .ge 45, 3) := by decide +kernel
theorem dX7_moveWetness_10 : decode cX7_moveWetness 10 = .ok (.aload_n 0, 1) := by decide +kernel
theorem dX7_moveWetness_11 : decode cX7_moveWetness 11 = .ok (.getfield 11, 3) := by decide +kernel
theorem dX7_moveWetness_14 : decode cX7_moveWetness 14 = .ok (.iload_n 1, 1) := by decide +kernel
theorem dX7_moveWetness_15 : decode cX7_moveWetness 15 = .ok (.aaload, 1) := by decide +kernel
theorem dX7_moveWetness_16 : decode cX7_moveWetness 16 = .ok (.getfield 29, 3) := by decide +kernel
theorem dX7_moveWetness_19 : decode cX7_moveWetness 19 = .ok (.ifCond .le 27, 3) := by decide +kernel
theorem dX7_moveWetness_22 : decode cX7_moveWetness 22 = .ok (.aload_n 0, 1) := by decide +kernel
theorem dX7_moveWetness_23 : decode cX7_moveWetness 23 = .ok (.getfield 11, 3) := by decide +kernel
theorem dX7_moveWetness_26 : decode cX7_moveWetness 26 = .ok (.iload_n 1, 1) := by decide +kernel
theorem dX7_moveWetness_27 : decode cX7_moveWetness 27 = .ok (.aaload, 1) := by decide +kernel
theorem dX7_moveWetness_28 : decode cX7_moveWetness 28 = .ok (.aload_n 0, 1) := by decide +kernel
theorem dX7_moveWetness_29 : decode cX7_moveWetness 29 = .ok (.getfield 11, 3) := by decide +kernel
theorem dX7_moveWetness_32 : decode cX7_moveWetness 32 = .ok (.iload_n 1, 1) := by decide +kernel
theorem dX7_moveWetness_33 : decode cX7_moveWetness 33 = .ok (.aaload, 1) := by decide +kernel
theorem dX7_moveWetness_34 : decode cX7_moveWetness 34 = .ok (.getfield 47, 3) := by decide +kernel
theorem dX7_moveWetness_37 : decode cX7_moveWetness 37 = .ok (.bipush 15, 2) := by decide +kernel
theorem dX7_moveWetness_39 : decode cX7_moveWetness 39 = .ok (.iconst 1, 1) := by decide +kernel
theorem dX7_moveWetness_40 : decode cX7_moveWetness 40 = .ok (.invokestatic 50, 3) := by decide +kernel
theorem dX7_moveWetness_43 : decode cX7_moveWetness 43 = .ok (.putfield 47, 3) := by decide +kernel
theorem dX7_moveWetness_46 : decode cX7_moveWetness 46 = .ok (.iinc 1 1, 3) := by decide +kernel
theorem dX7_moveWetness_49 : decode cX7_moveWetness 49 = .ok (.goto (-47), 3) := by decide +kernel
theorem dX7_moveWetness_52 : decode cX7_moveWetness 52 = .ok (.return_, 1) := by decide +kernel
theorem dX7_lengthOfAll_0 : decode cX7_lengthOfAll 0 = .ok (.iconst 0, 1) := by decide +kernel
theorem dX7_lengthOfAll_1 : decode cX7_lengthOfAll 1 = .ok (.istore_n 1, 1) := by decide +kernel
theorem dX7_lengthOfAll_2 : decode cX7_lengthOfAll 2 = .ok (.iconst 0, 1) := by decide +kernel
theorem dX7_lengthOfAll_3 : decode cX7_lengthOfAll 3 = .ok (.istore_n 2, 1) := by decide +kernel
theorem dX7_lengthOfAll_4 : decode cX7_lengthOfAll 4 = .ok (.iload_n 2, 1) := by decide +kernel
theorem dX7_lengthOfAll_5 : decode cX7_lengthOfAll 5 = .ok (.aload_n 0, 1) := by decide +kernel
theorem dX7_lengthOfAll_6 : decode cX7_lengthOfAll 6 = .ok (.getfield 17, 3) := by decide +kernel
theorem dX7_lengthOfAll_9 : decode cX7_lengthOfAll 9 = .ok (.if_icmp .ge 21, 3) := by decide +kernel
theorem dX7_lengthOfAll_12 : decode cX7_lengthOfAll 12 = .ok (.iload_n 1, 1) := by decide +kernel
theorem dX7_lengthOfAll_13 : decode cX7_lengthOfAll 13 = .ok (.aload_n 0, 1) := by decide +kernel
theorem dX7_lengthOfAll_14 : decode cX7_lengthOfAll 14 = .ok (.getfield 11, 3) := by decide +kernel
theorem dX7_lengthOfAll_17 : decode cX7_lengthOfAll 17 = .ok (.iload_n 2, 1) := by decide +kernel
theorem dX7_lengthOfAll_18 : decode cX7_lengthOfAll 18 = .ok (.aaload, 1) := by decide +kernel
theorem dX7_lengthOfAll_19 : decode cX7_lengthOfAll 19 = .ok (.getfield 29, 3) := by decide +kernel
theorem dX7_lengthOfAll_22 : decode cX7_lengthOfAll 22 = .ok (.iadd, 1) := by decide +kernel
theorem dX7_lengthOfAll_23 : decode cX7_lengthOfAll 23 = .ok (.istore_n 1, 1) := by decide +kernel
theorem dX7_lengthOfAll_24 : decode cX7_lengthOfAll 24 = .ok (.iinc 2 1, 3) := by decide +kernel
theorem dX7_lengthOfAll_27 : decode cX7_lengthOfAll 27 = .ok (.goto (-23), 3) := by decide +kernel
theorem dX7_lengthOfAll_30 : decode cX7_lengthOfAll 30 = .ok (.iload_n 1, 1) := by decide +kernel
theorem dX7_lengthOfAll_31 : decode cX7_lengthOfAll 31 = .ok (.ireturn, 1) := by decide +kernel
theorem dX7_copyFrom_0 : decode cX7_copyFrom 0 = .ok (.aload_n 0, 1) := by decide +kernel
theorem dX7_copyFrom_1 : decode cX7_copyFrom 1 = .ok (.aload_n 1, 1) := by decide +kernel
theorem dX7_copyFrom_2 : decode cX7_copyFrom 2 = .ok (.getfield 17, 3) := by decide +kernel
theorem dX7_copyFrom_5 : decode cX7_copyFrom 5 = .ok (.putfield 17, 3) := by decide +kernel
theorem dX7_copyFrom_8 : decode cX7_copyFrom 8 = .ok (.aload_n 0, 1) := by decide +kernel
theorem dX7_copyFrom_9 : decode cX7_copyFrom 9 = .ok (.aload_n 1, 1) := by decide +kernel
theorem dX7_copyFrom_10 : decode cX7_copyFrom 10 = .ok (.getfield 21, 3) := by decide +kernel
theorem dX7_copyFrom_13 : decode cX7_copyFrom 13 = .ok (.putfield 21, 3) := by decide +kernel
theorem dX7_copyFrom_16 : decode cX7_copyFrom 16 = .ok (.iconst 0, 1) := by decide +kernel
theorem dX7_copyFrom_17 : decode cX7_copyFrom 17 = .ok (.istore_n 2, 1) := by decide +kernel
theorem dX7_copyFrom_18 : decode cX7_copyFrom 18 = .ok (.iload_n 2, 1) := by decide +kernel
theorem dX7_copyFrom_19 : decode cX7_copyFrom 19 = .ok (.aload_n 0, 1) := by decide +kernel
theorem dX7_copyFrom_20 : decode cX7_copyFrom 20 = .ok (.getfield 17, 3) := by decide +kernel
theorem dX7_copyFrom_23 : decode cX7_copyFrom 23 = .ok (.if_icmp .ge 24, 3) := by decide +kernel
theorem dX7_copyFrom_26 : decode cX7_copyFrom 26 = .ok (.aload_n 0, 1) := by decide +kernel
theorem dX7_copyFrom_27 : decode cX7_copyFrom 27 = .ok (.getfield 11, 3) := by decide +kernel
theorem dX7_copyFrom_30 : decode cX7_copyFrom 30 = .ok (.iload_n 2, 1) := by decide +kernel
theorem dX7_copyFrom_31 : decode cX7_copyFrom 31 = .ok (.aaload, 1) := by decide +kernel
theorem dX7_copyFrom_32 : decode cX7_copyFrom 32 = .ok (.aload_n 1, 1) := by decide +kernel
theorem dX7_copyFrom_33 : decode cX7_copyFrom 33 = .ok (.getfield 11, 3) := by decide +kernel
theorem dX7_copyFrom_36 : decode cX7_copyFrom 36 = .ok (.iload_n 2, 1) := by decide +kernel
theorem dX7_copyFrom_37 : decode cX7_copyFrom 37 = .ok (.aaload, 1) := by decide +kernel
theorem dX7_copyFrom_38 : decode cX7_copyFrom 38 = .ok (.invokevirtual 54, 3) := by decide +kernel
theorem dX7_copyFrom_41 : decode cX7_copyFrom 41 = .ok (.iinc 2 1, 3) := by decide +kernel
theorem dX7_copyFrom_44 : decode cX7_copyFrom 44 = .ok (.goto (-26), 3) := by decide +kernel
theorem dX7_copyFrom_47 : decode cX7_copyFrom 47 = .ok (.return_, 1) := by decide +kernel
theorem dX8_init_0 : decode cX8_init 0 = .ok (.aload_n 0, 1) := by decide +kernel
theorem dX8_init_1 : decode cX8_init 1 = .ok (.invokespecial 3, 3) := by decide +kernel
theorem dX8_init_4 : decode cX8_init 4 = .ok (.aload_n 0, 1) := by decide +kernel
theorem dX8_init_5 : decode cX8_init 5 = .ok (.sipush 1000, 3) := by decide +kernel
theorem dX8_init_8 : decode cX8_init 8 = .ok (.newarray .byte, 2) := by decide +kernel
theorem dX8_init_10 : decode cX8_init 10 = .ok (.putfield 9, 3) := by decide +kernel
theorem dX8_init_13 : decode cX8_init 13 = .ok (.aload_n 0, 1) := by decide +kernel
theorem dX8_init_14 : decode cX8_init 14 = .ok (.iconst 0, 1) := by decide +kernel
theorem dX8_init_15 : decode cX8_init 15 = .ok (.putfield 15, 3) := by decide +kernel
theorem dX8_init_18 : decode cX8_init 18 = .ok (.return_, 1) := by decide +kernel
theorem dX8_append_0 : decode cX8_append 0 = .ok (.bipush 24, 2) := by decide +kernel
theorem dX8_append_2 : decode cX8_append 2 = .ok (.istore_n 2, 1) := by decide +kernel
theorem dX8_append_3 : decode cX8_append 3 = .ok (.iload_n 2, 1) := by decide +kernel
theorem dX8_append_4 : decode cX8_append 4 = .ok (.ifCond .lt 42, 3) := by decide +kernel
theorem dX8_append_7 : decode cX8_append 7 = .ok (.aload_n 0, 1) := by decide +kernel
theorem dX8_append_8 : decode cX8_append 8 = .ok (.getfield 15, 3) := by decide +kernel
theorem dX8_append_11 : decode cX8_append 11 = .ok (.sipush 1000, 3) := by decide +kernel
theorem dX8_append_14 : decode cX8_append 14 = .ok (.if_icmp .ge 32, 3) := by decide +kernel
theorem dX8_append_17 : decode cX8_append 17 = .ok (.aload_n 0, 1) := by decide +kernel
theorem dX8_append_18 : decode cX8_append 18 = .ok (.getfield 9, 3) := by decide +kernel
theorem dX8_append_21 : decode cX8_append 21 = .ok (.aload_n 0, 1) := by decide +kernel
theorem dX8_append_22 : decode cX8_append 22 = .ok (.getfield 15, 3) := by decide +kernel
theorem dX8_append_25 : decode cX8_append 25 = .ok (.iload_n 1, 1) := by decide +kernel
theorem dX8_append_26 : decode cX8_append 26 = .ok (.iload_n 2, 1) := by decide +kernel
theorem dX8_append_27 : decode cX8_append 27 = .ok (.iushr, 1) := by decide +kernel
theorem dX8_append_28 : decode cX8_append 28 = .ok (.i2b, 1) := by decide +kernel
theorem dX8_append_29 : decode cX8_append 29 = .ok (.bastore, 1) := by decide +kernel
theorem dX8_append_30 : decode cX8_append 30 = .ok (.aload_n 0, 1) := by decide +kernel
theorem dX8_append_31 : decode cX8_append 31 = .ok (.dup, 1) := by decide +kernel
theorem dX8_append_32 : decode cX8_append 32 = .ok (.getfield 15, 3) := by decide +kernel
theorem dX8_append_35 : decode cX8_append 35 = .ok (.iconst 1, 1) := by decide +kernel
theorem dX8_append_36 : decode cX8_append 36 = .ok (.iadd, 1) := by decide +kernel
theorem dX8_append_37 : decode cX8_append 37 = .ok (.putfield 15, 3) := by decide +kernel
theorem dX8_append_40 : decode cX8_append 40 = .ok (.iinc 2 (-8), 3) := by decide +kernel
theorem dX8_append_43 : decode cX8_append 43 = .ok (.goto (-40), 3) := by decide +kernel
theorem dX8_append_46 : decode cX8_append 46 = .ok (.return_, 1) := by decide +kernel
theorem dX8_at_0 : decode cX8_at 0 = .ok (.iload_n 1, 1) := by decide +kernel
theorem dX8_at_1 : decode cX8_at 1 = .ok (.ifCond .lt 24, 3) := by decide +kernel
theorem dX8_at_4 : decode cX8_at 4 = .ok (.iload_n 1, 1) := by decide +kernel
theorem dX8_at_5 : decode cX8_at 5 = .ok (.aload_n 0, 1) := by decide +kernel
theorem dX8_at_6 : decode cX8_at 6 = .ok (.getfield 15, 3) := by decide +kernel
theorem dX8_at_9 : decode cX8_at 9 = .ok (.if_icmp .ge 16, 3) := by decide +kernel
theorem dX8_at_12 : decode cX8_at 12 = .ok (.aload_n 0, 1) := by decide +kernel
theorem dX8_at_13 : decode cX8_at 13 = .ok (.getfield 9, 3) := by decide +kernel
theorem dX8_at_16 : decode cX8_at 16 = .ok (.iload_n 1, 1) := by decide +kernel
theorem dX8_at_17 : decode cX8_at 17 = .ok (.baload, 1) := by decide +kernel
theorem dX8_at_18 : decode cX8_at 18 = .ok (.sipush 255, 3) := by decide +kernel
theorem dX8_at_21 : decode cX8_at 21 = .ok (.iand, 1) := by decide +kernel
theorem dX8_at_22 : decode cX8_at 22 = .ok (.goto 4, 3) := by decide +kernel
theorem dX8_at_25 : decode cX8_at 25 = .ok (.iconst (-1), 1) := by decide +kernel
theorem dX8_at_26 : decode cX8_at 26 = .ok (.ireturn, 1) := by decide +kernel
theorem dX9_init_0 : decode cX9_init 0 = .ok (.aload_n 0, 1) := by decide +kernel
theorem dX9_init_1 : decode cX9_init 1 = .ok (.invokespecial 3, 3) := by decide +kernel
theorem dX9_init_4 : decode cX9_init 4 = .ok (.aload_n 0, 1) := by decide +kernel
theorem dX9_init_5 : decode cX9_init 5 = .ok (.iconst 0, 1) := by decide +kernel
theorem dX9_init_6 : decode cX9_init 6 = .ok (.putfield 9, 3) := by decide +kernel
theorem dX9_init_9 : decode cX9_init 9 = .ok (.aload_n 0, 1) := by decide +kernel
theorem dX9_init_10 : decode cX9_init 10 = .ok (.new 15, 3) := by decide +kernel
theorem dX9_init_13 : decode cX9_init 13 = .ok (.dup, 1) := by decide +kernel
theorem dX9_init_14 : decode cX9_init 14 = .ok (.invokespecial 17, 3) := by decide +kernel
theorem dX9_init_17 : decode cX9_init 17 = .ok (.putfield 18, 3) := by decide +kernel
theorem dX9_init_20 : decode cX9_init 20 = .ok (.aload_n 0, 1) := by decide +kernel
theorem dX9_init_21 : decode cX9_init 21 = .ok (.iconst 5, 1) := by decide +kernel
theorem dX9_init_22 : decode cX9_init 22 = .ok (.newarray .int, 2) := by decide +kernel
theorem dX9_init_24 : decode cX9_init 24 = .ok (.putfield 22, 3) := by decide +kernel
theorem dX9_init_27 : decode cX9_init 27 = .ok (.aload_n 0, 1) := by decide +kernel
theorem dX9_init_28 : decode cX9_init 28 = .ok (.iconst 5, 1) := by decide +kernel
theorem dX9_init_29 : decode cX9_init 29 = .ok (.newarray .int, 2) := by decide +kernel
theorem dX9_init_31 : decode cX9_init 31 = .ok (.putfield 26, 3) := by decide +kernel
theorem dX9_init_34 : decode cX9_init 34 = .ok (.aload_n 0, 1) := by decide +kernel
theorem dX9_init_35 : decode cX9_init 35 = .ok (.bipush 6, 2) := by decide +kernel
theorem dX9_init_37 : decode cX9_init 37 = .ok (.anewarray 29, 3) := by decide +kernel
theorem dX9_init_40 : decode cX9_init 40 = .ok (.putfield 31, 3) := by decide +kernel
theorem dX9_init_43 : decode cX9_init 43 = .ok (.aload_n 0, 1) := by decide +kernel
theorem dX9_init_44 : decode cX9_init 44 = .ok (.iconst 0, 1) := by decide +kernel
theorem dX9_init_45 : decode cX9_init 45 = .ok (.putfield 35, 3) := by decide +kernel
theorem dX9_init_48 : decode cX9_init 48 = .ok (.aload_n 0, 1) := by decide +kernel
theorem dX9_init_49 : decode cX9_init 49 = .ok (.bipush 40, 2) := by decide +kernel
theorem dX9_init_51 : decode cX9_init 51 = .ok (.bipush 6, 2) := by decide +kernel
theorem dX9_init_53 : decode cX9_init 53 = .ok (.multianewarray 38 2, 4) := by decide +kernel
theorem dX9_init_57 : decode cX9_init 57 = .ok (.putfield 40, 3) := by decide +kernel
theorem dX9_init_60 : decode cX9_init 60 = .ok (.aload_n 0, 1) := by decide +kernel
theorem dX9_init_61 : decode cX9_init 61 = .ok (.iconst 0, 1) := by decide +kernel
theorem dX9_init_62 : decode cX9_init 62 = .ok (.putfield 43, 3) := by decide +kernel
theorem dX9_init_65 : decode cX9_init 65 = .ok (.aload_n 0, 1) := by decide +kernel
theorem dX9_init_66 : decode cX9_init 66 = .ok (.iconst 0, 1) := by decide +kernel
theorem dX9_init_67 : decode cX9_init 67 = .ok (.putfield 46, 3) := by decide +kernel
theorem dX9_init_70 : decode cX9_init 70 = .ok (.iconst 0, 1) := by decide +kernel
theorem dX9_init_71 : decode cX9_init 71 = .ok (.istore_n 1, 1) := by decide +kernel
theorem dX9_init_72 : decode cX9_init 72 = .ok (.iload_n 1, 1) := by decide +kernel
theorem dX9_init_73 : decode cX9_init 73 = .ok (.bipush 6, 2) := by decide +kernel
theorem dX9_init_75 : decode cX9_init 75 = .ok (.if_icmp .ge 22, 3) := by decide +kernel
theorem dX9_init_78 : decode cX9_init 78 = .ok (.aload_n 0, 1) := by decide +kernel
theorem dX9_init_79 : decode cX9_init 79 = .ok (.getfield 31, 3) := by decide +kernel
theorem dX9_init_82 : decode cX9_init 82 = .ok (.iload_n 1, 1) := by decide +kernel
theorem dX9_init_83 : decode cX9_init 83 = .ok (.new 29, 3) := by decide +kernel
theorem dX9_init_86 : decode cX9_init 86 = .ok (.dup, 1) := by decide +kernel
theorem dX9_init_87 : decode cX9_init 87 = .ok (.invokespecial 49, 3) := by decide +kernel
theorem dX9_init_90 : decode cX9_init 90 = .ok (.aastore, 1) := by decide +kernel
theorem dX9_init_91 : decode cX9_init 91 = .ok (.iinc 1 1, 3) := by decide +kernel
theorem dX9_init_94 : decode cX9_init 94 = .ok (.goto (-22), 3) := by decide +kernel
theorem dX9_init_97 : decode cX9_init 97 = .ok (.return_, 1) := by decide +kernel
theorem dX9_passTick_0 : decode cX9_passTick 0 = .ok (.aload_n 0, 1) := by decide +kernel
theorem dX9_passTick_1 : decode cX9_passTick 1 = .ok (.dup, 1) := by decide +kernel
theorem dX9_passTick_2 : decode cX9_passTick 2 = .ok (.getfield 9, 3) := by decide +kernel
theorem dX9_passTick_5 : decode cX9_passTick 5 = .ok (.iconst 1, 1) := by decide +kernel
theorem dX9_passTick_6 : decode cX9_passTick 6 = .ok (.iadd, 1) := by decide +kernel
theorem dX9_passTick_7 : decode cX9_passTick 7 = .ok (.putfield 9, 3) := by decide +kernel
theorem dX9_passTick_10 : decode cX9_passTick 10 = .ok (.aload_n 0, 1) := by decide +kernel
theorem dX9_passTick_11 : decode cX9_passTick 11 = .ok (.invokevirtual 50, 3) := by decide +kernel
theorem dX9_passTick_14 : decode cX9_passTick 14 = .ok (.iconst 0, 1) := by decide +kernel
theorem dX9_passTick_15 : decode cX9_passTick 15 = .ok (.istore_n 1, 1) := by decide +kernel
theorem dX9_passTick_16 : decode cX9_passTick 16 = .ok (.iload_n 1, 1) := by decide +kernel
theorem dX9_passTick_17 : decode cX9_passTick 17 = .ok (.aload_n 0, 1) := by decide +kernel
theorem dX9_passTick_18 : decode cX9_passTick 18 = .ok (.getfield 35, 3) := by decide +kernel
theorem dX9_passTick_21 : decode cX9_passTick 21 = .ok (.if_icmp .ge 36, 3) := by decide +kernel
theorem dX9_passTick_24 : decode cX9_passTick 24 = .ok (.aload_n 0, 1) := by decide +kernel
theorem dX9_passTick_25 : decode cX9_passTick 25 = .ok (.getfield 31, 3) := by decide +kernel
theorem dX9_passTick_28 : decode cX9_passTick 28 = .ok (.iload_n 1, 1) := by decide +kernel
theorem dX9_passTick_29 : decode cX9_passTick 29 = .ok (.aaload, 1) := by decide +kernel
theorem dX9_passTick_30 : decode cX9_passTick 30 = .ok (.getfield 53, 3) := by decide +kernel
theorem dX9_passTick_33 : decode cX9_passTick 33 = .ok (.ifCond .ne 18, 3) := by decide +kernel
theorem dX9_passTick_36 : decode cX9_passTick 36 = .ok (.aload_n 0, 1) := by decide +kernel
theorem dX9_passTick_37 : decode cX9_passTick 37 = .ok (.iload_n 1, 1) := by decide +kernel
theorem dX9_passTick_38 : decode cX9_passTick 38 = .ok (.aload_n 0, 1) := by decide +kernel
theorem dX9_passTick_39 : decode cX9_passTick 39 = .ok (.aload_n 0, 1) := by decide +kernel
theorem dX9_passTick_40 : decode cX9_passTick 40 = .ok (.getfield 31, 3) := by decide +kernel
theorem dX9_passTick_43 : decode cX9_passTick 43 = .ok (.iload_n 1, 1) := by decide +kernel
theorem dX9_passTick_44 : decode cX9_passTick 44 = .ok (.aaload, 1) := by decide +kernel
theorem dX9_passTick_45 : decode cX9_passTick 45 = .ok (.invokevirtual 57, 3) := by decide +kernel
theorem dX9_passTick_48 : decode cX9_passTick 48 = .ok (.invokevirtual 61, 3) := by decide +kernel
theorem dX9_passTick_51 : decode cX9_passTick 51 = .ok (.iinc 1 1, 3) := by decide +kernel
theorem dX9_passTick_54 : decode cX9_passTick 54 = .ok (.goto (-38), 3) := by decide +kernel
theorem dX9_passTick_57 : decode cX9_passTick 57 = .ok (.aload_n 0, 1) := by decide +kernel
theorem dX9_passTick_58 : decode cX9_passTick 58 = .ok (.getfield 9, 3) := by decide +kernel
theorem dX9_passTick_61 : decode cX9_passTick 61 = .ok (.iconst 5, 1) := by decide +kernel
theorem dX9_passTick_62 : decode cX9_passTick 62 = .ok (.irem, 1) := by decide +kernel
theorem dX9_passTick_63 : decode cX9_passTick 63 = .ok (.ifCond .ne 10, 3) := by decide +kernel
theorem dX9_passTick_66 : decode cX9_passTick 66 = .ok (.aload_n 0, 1) := by decide +kernel
theorem dX9_passTick_67 : decode cX9_passTick 67 = .ok (.getfield 18, 3) := by decide +kernel
theorem dX9_passTick_70 : decode cX9_passTick 70 = .ok (.invokevirtual 65, 3) := by decide +kernel
theorem dX9_passTick_73 : decode cX9_passTick 73 = .ok (.return_, 1) := by decide +kernel
theorem dX9_grantFrames_0 : decode cX9_grantFrames 0 = .ok (.iconst 0, 1) := by decide +kernel
theorem dX9_grantFrames_1 : decode cX9_grantFrames 1 = .ok (.istore_n 1, 1) := by decide +kernel
theorem dX9_grantFrames_2 : decode cX9_grantFrames 2 = .ok (.iconst 0, 1) := by decide +kernel
theorem dX9_grantFrames_3 : decode cX9_grantFrames 3 = .ok (.istore_n 2, 1) := by decide +kernel
theorem dX9_grantFrames_4 : decode cX9_grantFrames 4 = .ok (.iload_n 2, 1) := by decide +kernel
theorem dX9_grantFrames_5 : decode cX9_grantFrames 5 = .ok (.aload_n 0, 1) := by decide +kernel
theorem dX9_grantFrames_6 : decode cX9_grantFrames 6 = .ok (.getfield 35, 3) := by decide +kernel
theorem dX9_grantFrames_9 : decode cX9_grantFrames 9 = .ok (.if_icmp .ge 78, 3) := by decide +kernel
theorem dX9_grantFrames_12 : decode cX9_grantFrames 12 = .ok (.aload_n 0, 1) := by decide +kernel
theorem dX9_grantFrames_13 : decode cX9_grantFrames 13 = .ok (.iload_n 1, 1) := by decide +kernel
theorem dX9_grantFrames_14 : decode cX9_grantFrames 14 = .ok (.invokevirtual 68, 3) := by decide +kernel
theorem dX9_grantFrames_17 : decode cX9_grantFrames 17 = .ok (.istore_n 3, 1) := by decide +kernel
theorem dX9_grantFrames_18 : decode cX9_grantFrames 18 = .ok (.iload_n 3, 1) := by decide +kernel
theorem dX9_grantFrames_19 : decode cX9_grantFrames 19 = .ok (.ifCond .ge 4, 3) := by decide +kernel
theorem dX9_grantFrames_22 : decode cX9_grantFrames 22 = .ok (.return_, 1) := by decide +kernel
theorem dX9_grantFrames_23 : decode cX9_grantFrames 23 = .ok (.iload_n 1, 1) := by decide +kernel
theorem dX9_grantFrames_24 : decode cX9_grantFrames 24 = .ok (.iconst 1, 1) := by decide +kernel
theorem dX9_grantFrames_25 : decode cX9_grantFrames 25 = .ok (.iload_n 3, 1) := by decide +kernel
theorem dX9_grantFrames_26 : decode cX9_grantFrames 26 = .ok (.ishl, 1) := by decide +kernel
theorem dX9_grantFrames_27 : decode cX9_grantFrames 27 = .ok (.ior, 1) := by decide +kernel
theorem dX9_grantFrames_28 : decode cX9_grantFrames 28 = .ok (.istore_n 1, 1) := by decide +kernel
theorem dX9_grantFrames_29 : decode cX9_grantFrames 29 = .ok (.aload_n 0, 1) := by decide +kernel
theorem dX9_grantFrames_30 : decode cX9_grantFrames 30 = .ok (.getfield 31, 3) := by decide +kernel
theorem dX9_grantFrames_33 : decode cX9_grantFrames 33 = .ok (.iload_n 3, 1) := by decide +kernel
theorem dX9_grantFrames_34 : decode cX9_grantFrames 34 = .ok (.aaload, 1) := by decide +kernel
theorem dX9_grantFrames_35 : decode cX9_grantFrames 35 = .ok (.getfield 72, 3) := by decide +kernel
theorem dX9_grantFrames_38 : decode cX9_grantFrames 38 = .ok (.istore 4, 2) := by decide +kernel
theorem dX9_grantFrames_40 : decode cX9_grantFrames 40 = .ok (.iload 4, 2) := by decide +kernel
theorem dX9_grantFrames_42 : decode cX9_grantFrames 42 = .ok (.iconst 5, 1) := by decide +kernel
theorem dX9_grantFrames_43 : decode cX9_grantFrames 43 = .ok (.invokestatic 75, 3) := by decide +kernel
theorem dX9_grantFrames_46 : decode cX9_grantFrames 46 = .ok (.ifCond .eq 35, 3) := by decide +kernel
theorem dX9_grantFrames_49 : decode cX9_grantFrames 49 = .ok (.aload_n 0, 1) := by decide +kernel
theorem dX9_grantFrames_50 : decode cX9_grantFrames 50 = .ok (.getfield 26, 3) := by decide +kernel
theorem dX9_grantFrames_53 : decode cX9_grantFrames 53 = .ok (.iload 4, 2) := by decide +kernel
theorem dX9_grantFrames_55 : decode cX9_grantFrames 55 = .ok (.iaload, 1) := by decide +kernel
theorem dX9_grantFrames_56 : decode cX9_grantFrames 56 = .ok (.ifCond .le 25, 3) := by decide +kernel
theorem dX9_grantFrames_59 : decode cX9_grantFrames 59 = .ok (.aload_n 0, 1) := by decide +kernel
theorem dX9_grantFrames_60 : decode cX9_grantFrames 60 = .ok (.getfield 26, 3) := by decide +kernel
theorem dX9_grantFrames_63 : decode cX9_grantFrames 63 = .ok (.iload 4, 2) := by decide +kernel
theorem dX9_grantFrames_65 : decode cX9_grantFrames 65 = .ok (.dup2, 1) := by decide +kernel
theorem dX9_grantFrames_66 : decode cX9_grantFrames 66 = .ok (.iaload, 1) := by decide +kernel
theorem dX9_grantFrames_67 : decode cX9_grantFrames 67 = .ok (.iconst 1, 1) := by decide +kernel
theorem dX9_grantFrames_68 : decode cX9_grantFrames 68 = .ok (.isub, 1) := by decide +kernel
theorem dX9_grantFrames_69 : decode cX9_grantFrames 69 = .ok (.iastore, 1) := by decide +kernel
theorem dX9_grantFrames_70 : decode cX9_grantFrames 70 = .ok (.aload_n 0, 1) := by decide +kernel
theorem dX9_grantFrames_71 : decode cX9_grantFrames 71 = .ok (.getfield 31, 3) := by decide +kernel
theorem dX9_grantFrames_74 : decode cX9_grantFrames 74 = .ok (.iload_n 3, 1) := by decide +kernel
theorem dX9_grantFrames_75 : decode cX9_grantFrames 75 = .ok (.aaload, 1) := by decide +kernel
theorem dX9_grantFrames_76 : decode cX9_grantFrames 76 = .ok (.iload 4, 2) := by decide +kernel
theorem dX9_grantFrames_78 : decode cX9_grantFrames 78 = .ok (.invokevirtual 79, 3) := by decide +kernel
theorem dX9_grantFrames_81 : decode cX9_grantFrames 81 = .ok (.iinc 2 1, 3) := by decide +kernel
theorem dX9_grantFrames_84 : decode cX9_grantFrames 84 = .ok (.goto (-80), 3) := by decide +kernel
theorem dX9_grantFrames_87 : decode cX9_grantFrames 87 = .ok (.return_, 1) := by decide +kernel
theorem dX9_longestWaiting_0 : decode cX9_longestWaiting 0 = .ok (.iconst (-1), 1) := by decide +kernel
theorem dX9_longestWaiting_1 : decode cX9_longestWaiting 1 = .ok (.istore_n 2, 1) := by decide +kernel
theorem dX9_longestWaiting_2 : decode cX9_longestWaiting 2 = .ok (.iconst 0, 1) := by decide +kernel
theorem dX9_longestWaiting_3 : decode cX9_longestWaiting 3 = .ok (.istore_n 3, 1) := by decide +kernel
theorem dX9_longestWaiting_4 : decode cX9_longestWaiting 4 = .ok (.iload_n 3, 1) := by decide +kernel
theorem dX9_longestWaiting_5 : decode cX9_longestWaiting 5 = .ok (.aload_n 0, 1) := by decide +kernel
theorem dX9_longestWaiting_6 : decode cX9_longestWaiting 6 = .ok (.getfield 35, 3) := by decide +kernel
theorem dX9_longestWaiting_9 : decode cX9_longestWaiting 9 = .ok (.if_icmp .ge 68, 3) := by decide +kernel
theorem dX9_longestWaiting_12 : decode cX9_longestWaiting 12 = .ok (.iload_n 2, 1) := by decide +kernel
theorem dX9_longestWaiting_13 : decode cX9_longestWaiting 13 = .ok (.ifCond .lt 24, 3) := by decide +kernel
theorem dX9_longestWaiting_16 : decode cX9_longestWaiting 16 = .ok (.aload_n 0, 1) := by decide +kernel
theorem dX9_longestWaiting_17 : decode cX9_longestWaiting 17 = .ok (.getfield 31, 3) := by decide +kernel
theorem dX9_longestWaiting_20 : decode cX9_longestWaiting 20 = .ok (.iload_n 3, 1) := by decide +kernel
theorem dX9_longestWaiting_21 : decode cX9_longestWaiting 21 = .ok (.aaload, 1) := by decide +kernel
theorem dX9_longestWaiting_22 : decode cX9_longestWaiting 22 = .ok (.getfield 83, 3) := by decide +kernel
theorem dX9_longestWaiting_25 : decode cX9_longestWaiting 25 = .ok (.aload_n 0, 1) := by decide +kernel
theorem dX9_longestWaiting_26 : decode cX9_longestWaiting 26 = .ok (.getfield 31, 3) := by decide +kernel
theorem dX9_longestWaiting_29 : decode cX9_longestWaiting 29 = .ok (.iload_n 2, 1) := by decide +kernel
theorem dX9_longestWaiting_30 : decode cX9_longestWaiting 30 = .ok (.aaload, 1) := by decide +kernel
theorem dX9_longestWaiting_31 : decode cX9_longestWaiting 31 = .ok (.getfield 83, 3) := by decide +kernel
theorem dX9_longestWaiting_34 : decode cX9_longestWaiting 34 = .ok (.if_icmp .ge 7, 3) := by decide +kernel
theorem dX9_longestWaiting_37 : decode cX9_longestWaiting 37 = .ok (.iconst 1, 1) := by decide +kernel
theorem dX9_longestWaiting_38 : decode cX9_longestWaiting 38 = .ok (.goto 4, 3) := by decide +kernel
theorem dX9_longestWaiting_41 : decode cX9_longestWaiting 41 = .ok (.iconst 0, 1) := by decide +kernel
theorem dX9_longestWaiting_42 : decode cX9_longestWaiting 42 = .ok (.istore 4, 2) := by decide +kernel
theorem dX9_longestWaiting_44 : decode cX9_longestWaiting 44 = .ok (.aload_n 0, 1) := by decide +kernel
theorem dX9_longestWaiting_45 : decode cX9_longestWaiting 45 = .ok (.getfield 31, 3) := by decide +kernel
theorem dX9_longestWaiting_48 : decode cX9_longestWaiting 48 = .ok (.iload_n 3, 1) := by decide +kernel
theorem dX9_longestWaiting_49 : decode cX9_longestWaiting 49 = .ok (.aaload, 1) := by decide +kernel
theorem dX9_longestWaiting_50 : decode cX9_longestWaiting 50 = .ok (.invokevirtual 86, 3) := by decide +kernel
theorem dX9_longestWaiting_53 : decode cX9_longestWaiting 53 = .ok (.ifCond .eq 18, 3) := by decide +kernel
theorem dX9_longestWaiting_56 : decode cX9_longestWaiting 56 = .ok (.iload_n 1, 1) := by decide +kernel
theorem dX9_longestWaiting_57 : decode cX9_longestWaiting 57 = .ok (.iconst 1, 1) := by decide +kernel
theorem dX9_longestWaiting_58 : decode cX9_longestWaiting 58 = .ok (.iload_n 3, 1) := by decide +kernel
theorem dX9_longestWaiting_59 : decode cX9_longestWaiting 59 = .ok (.ishl, 1) := by decide +kernel
theorem dX9_longestWaiting_60 : decode cX9_longestWaiting 60 = .ok (.iand, 1) := by decide +kernel
theorem dX9_longestWaiting_61 : decode cX9_longestWaiting 61 = .ok (.ifCond .ne 10, 3) := by decide +kernel
theorem dX9_longestWaiting_64 : decode cX9_longestWaiting 64 = .ok (.iload 4, 2) := by decide +kernel
theorem dX9_longestWaiting_66 : decode cX9_longestWaiting 66 = .ok (.ifCond .eq 5, 3) := by decide +kernel
theorem dX9_longestWaiting_69 : decode cX9_longestWaiting 69 = .ok (.iload_n 3, 1) := by decide +kernel
theorem dX9_longestWaiting_70 : decode cX9_longestWaiting 70 = .ok (.istore_n 2, 1) := by decide +kernel
theorem dX9_longestWaiting_71 : decode cX9_longestWaiting 71 = .ok (.iinc 3 1, 3) := by decide +kernel
theorem dX9_longestWaiting_74 : decode cX9_longestWaiting 74 = .ok (.goto (-70), 3) := by decide +kernel
theorem dX9_longestWaiting_77 : decode cX9_longestWaiting 77 = .ok (.iload_n 2, 1) := by decide +kernel
theorem dX9_longestWaiting_78 : decode cX9_longestWaiting 78 = .ok (.ireturn, 1) := by decide +kernel
theorem dX9_work_0 : decode cX9_work 0 = .ok (.aload_n 1, 1) := by decide +kernel
theorem dX9_work_1 : decode cX9_work 1 = .ok (.invokevirtual 90, 3) := by decide +kernel
theorem dX9_work_4 : decode cX9_work 4 = .ok (.astore_n 2, 1) := by decide +kernel
theorem dX9_work_5 : decode cX9_work 5 = .ok (.aload_n 2, 1) := by decide +kernel
theorem dX9_work_6 : decode cX9_work 6 = .ok (.ifnonnull 5, 3) := by decide +kernel
theorem dX9_work_9 : decode cX9_work 9 = .ok (.iconst 0, 1) := by decide +kernel
theorem dX9_work_10 : decode cX9_work 10 = .ok (.ireturn, 1) := by decide +kernel
theorem dX9_work_11 : decode cX9_work 11 = .ok (.aload_n 2, 1) := by decide +kernel
theorem dX9_work_12 : decode cX9_work 12 = .ok (.getfield 94, 3) := by decide +kernel
theorem dX9_work_15 : decode cX9_work 15 = .ok (.tableswitch 93 0 7 #[45, 55, 65, 93, 93, 79, 93, 88], 45) := by decide +kernel
theorem dX9_work_60 : decode cX9_work 60 = .ok (.aload_n 0, 1) := by decide +kernel
theorem dX9_work_61 : decode cX9_work 61 = .ok (.aload_n 1, 1) := by decide +kernel
theorem dX9_work_62 : decode cX9_work 62 = .ok (.aload_n 2, 1) := by decide +kernel
theorem dX9_work_63 : decode cX9_work 63 = .ok (.getfield 99, 3) := by decide +kernel
theorem dX9_work_66 : decode cX9_work 66 = .ok (.invokevirtual 102, 3) := by decide +kernel
theorem dX9_work_69 : decode cX9_work 69 = .ok (.ireturn, 1) := by decide +kernel
theorem dX9_work_70 : decode cX9_work 70 = .ok (.aload_n 0, 1) := by decide +kernel
theorem dX9_work_71 : decode cX9_work 71 = .ok (.aload_n 1, 1) := by decide +kernel
theorem dX9_work_72 : decode cX9_work 72 = .ok (.aload_n 2, 1) := by decide +kernel
theorem dX9_work_73 : decode cX9_work 73 = .ok (.getfield 99, 3) := by decide +kernel
theorem dX9_work_76 : decode cX9_work 76 = .ok (.invokevirtual 106, 3) := by decide +kernel
theorem dX9_work_79 : decode cX9_work 79 = .ok (.ireturn, 1) := by decide +kernel
theorem dX9_work_80 : decode cX9_work 80 = .ok (.aload_n 0, 1) := by decide +kernel
theorem dX9_work_81 : decode cX9_work 81 = .ok (.aload_n 1, 1) := by decide +kernel
theorem dX9_work_82 : decode cX9_work 82 = .ok (.aload_n 2, 1) := by decide +kernel
theorem dX9_work_83 : decode cX9_work 83 = .ok (.getfield 99, 3) := by decide +kernel
theorem dX9_work_86 : decode cX9_work 86 = .ok (.aload_n 2, 1) := by decide +kernel
theorem dX9_work_87 : decode cX9_work 87 = .ok (.getfield 109, 3) := by decide +kernel
theorem dX9_work_90 : decode cX9_work 90 = .ok (.invokevirtual 112, 3) := by decide +kernel
theorem dX9_work_93 : decode cX9_work 93 = .ok (.ireturn, 1) := by decide +kernel
theorem dX9_work_94 : decode cX9_work 94 = .ok (.aload_n 1, 1) := by decide +kernel
theorem dX9_work_95 : decode cX9_work 95 = .ok (.getfield 116, 3) := by decide +kernel
theorem dX9_work_98 : decode cX9_work 98 = .ok (.aload_n 2, 1) := by decide +kernel
theorem dX9_work_99 : decode cX9_work 99 = .ok (.invokevirtual 120, 3) := by decide +kernel
theorem dX9_work_102 : decode cX9_work 102 = .ok (.ireturn, 1) := by decide +kernel
theorem dX9_work_103 : decode cX9_work 103 = .ok (.aload_n 1, 1) := by decide +kernel
theorem dX9_work_104 : decode cX9_work 104 = .ok (.invokevirtual 126, 3) := by decide +kernel
theorem dX9_work_107 : decode cX9_work 107 = .ok (.ireturn, 1) := by decide +kernel
theorem dX9_work_108 : decode cX9_work 108 = .ok (.aload_n 1, 1) := by decide +kernel
theorem dX9_work_109 : decode cX9_work 109 = .ok (.aload_n 2, 1) := by decide +kernel
theorem dX9_work_110 : decode cX9_work 110 = .ok (.invokevirtual 130, 3) := by decide +kernel
theorem dX9_work_113 : decode cX9_work 113 = .ok (.ireturn, 1) := by decide +kernel
theorem dX9_settle_0 : decode cX9_settle 0 = .ok (.aload_n 0, 1) := by decide +kernel
theorem dX9_settle_1 : decode cX9_settle 1 = .ok (.getfield 31, 3) := by decide +kernel
theorem dX9_settle_4 : decode cX9_settle 4 = .ok (.iload_n 1, 1) := by decide +kernel
theorem dX9_settle_5 : decode cX9_settle 5 = .ok (.aaload, 1) := by decide +kernel
theorem dX9_settle_6 : decode cX9_settle 6 = .ok (.astore_n 3, 1) := by decide +kernel
theorem dX9_settle_7 : decode cX9_settle 7 = .ok (.iload_n 2, 1) := by decide +kernel
theorem dX9_settle_8 : decode cX9_settle 8 = .ok (.iconst 2, 1) := by decide +kernel
theorem dX9_settle_9 : decode cX9_settle 9 = .ok (.if_icmp .ne 20, 3) := by decide +kernel
theorem dX9_settle_12 : decode cX9_settle 12 = .ok (.aload_n 3, 1) := by decide +kernel
theorem dX9_settle_13 : decode cX9_settle 13 = .ok (.invokevirtual 133, 3) := by decide +kernel
theorem dX9_settle_16 : decode cX9_settle 16 = .ok (.aload_n 0, 1) := by decide +kernel
theorem dX9_settle_17 : decode cX9_settle 17 = .ok (.dup, 1) := by decide +kernel
theorem dX9_settle_18 : decode cX9_settle 18 = .ok (.getfield 46, 3) := by decide +kernel
theorem dX9_settle_21 : decode cX9_settle 21 = .ok (.iconst 1, 1) := by decide +kernel
theorem dX9_settle_22 : decode cX9_settle 22 = .ok (.iadd, 1) := by decide +kernel
theorem dX9_settle_23 : decode cX9_settle 23 = .ok (.putfield 46, 3) := by decide +kernel
theorem dX9_settle_26 : decode cX9_settle 26 = .ok (.goto 24, 3) := by decide +kernel
theorem dX9_settle_29 : decode cX9_settle 29 = .ok (.iload_n 2, 1) := by decide +kernel
theorem dX9_settle_30 : decode cX9_settle 30 = .ok (.iconst 1, 1) := by decide +kernel
theorem dX9_settle_31 : decode cX9_settle 31 = .ok (.if_icmp .ne 19, 3) := by decide +kernel
theorem dX9_settle_34 : decode cX9_settle 34 = .ok (.aload_n 3, 1) := by decide +kernel
theorem dX9_settle_35 : decode cX9_settle 35 = .ok (.invokevirtual 136, 3) := by decide +kernel
theorem dX9_settle_38 : decode cX9_settle 38 = .ok (.aload_n 3, 1) := by decide +kernel
theorem dX9_settle_39 : decode cX9_settle 39 = .ok (.invokevirtual 90, 3) := by decide +kernel
theorem dX9_settle_42 : decode cX9_settle 42 = .ok (.ifnonnull 8, 3) := by decide +kernel
theorem dX9_settle_45 : decode cX9_settle 45 = .ok (.aload_n 0, 1) := by decide +kernel
theorem dX9_settle_46 : decode cX9_settle 46 = .ok (.iload_n 1, 1) := by decide +kernel
theorem dX9_settle_47 : decode cX9_settle 47 = .ok (.invokevirtual 139, 3) := by decide +kernel
theorem dX9_settle_50 : decode cX9_settle 50 = .ok (.return_, 1) := by decide +kernel
theorem dX9_takeFrame_0 : decode cX9_takeFrame 0 = .ok (.aload_n 1, 1) := by decide +kernel
theorem dX9_takeFrame_1 : decode cX9_takeFrame 1 = .ok (.iload_n 2, 1) := by decide +kernel
theorem dX9_takeFrame_2 : decode cX9_takeFrame 2 = .ok (.invokevirtual 142, 3) := by decide +kernel
theorem dX9_takeFrame_5 : decode cX9_takeFrame 5 = .ok (.ifCond .eq 5, 3) := by decide +kernel
theorem dX9_takeFrame_8 : decode cX9_takeFrame 8 = .ok (.iconst 1, 1) := by decide +kernel
theorem dX9_takeFrame_9 : decode cX9_takeFrame 9 = .ok (.ireturn, 1) := by decide +kernel
theorem dX9_takeFrame_10 : decode cX9_takeFrame 10 = .ok (.aload_n 1, 1) := by decide +kernel
theorem dX9_takeFrame_11 : decode cX9_takeFrame 11 = .ok (.invokevirtual 86, 3) := by decide +kernel
theorem dX9_takeFrame_14 : decode cX9_takeFrame 14 = .ok (.ifCond .ne 13, 3) := by decide +kernel
theorem dX9_takeFrame_17 : decode cX9_takeFrame 17 = .ok (.aload_n 1, 1) := by decide +kernel
theorem dX9_takeFrame_18 : decode cX9_takeFrame 18 = .ok (.iload_n 2, 1) := by decide +kernel
theorem dX9_takeFrame_19 : decode cX9_takeFrame 19 = .ok (.aload_n 0, 1) := by decide +kernel
theorem dX9_takeFrame_20 : decode cX9_takeFrame 20 = .ok (.getfield 9, 3) := by decide +kernel
theorem dX9_takeFrame_23 : decode cX9_takeFrame 23 = .ok (.iconst 0, 1) := by decide +kernel
theorem dX9_takeFrame_24 : decode cX9_takeFrame 24 = .ok (.invokevirtual 146, 3) := by decide +kernel
theorem dX9_takeFrame_27 : decode cX9_takeFrame 27 = .ok (.iconst 0, 1) := by decide +kernel
theorem dX9_takeFrame_28 : decode cX9_takeFrame 28 = .ok (.ireturn, 1) := by decide +kernel
theorem dX9_giveFrame_0 : decode cX9_giveFrame 0 = .ok (.aload_n 1, 1) := by decide +kernel
theorem dX9_giveFrame_1 : decode cX9_giveFrame 1 = .ok (.iload_n 2, 1) := by decide +kernel
theorem dX9_giveFrame_2 : decode cX9_giveFrame 2 = .ok (.invokevirtual 142, 3) := by decide +kernel
theorem dX9_giveFrame_5 : decode cX9_giveFrame 5 = .ok (.ifCond .eq 26, 3) := by decide +kernel
theorem dX9_giveFrame_8 : decode cX9_giveFrame 8 = .ok (.iload_n 2, 1) := by decide +kernel
theorem dX9_giveFrame_9 : decode cX9_giveFrame 9 = .ok (.iconst 5, 1) := by decide +kernel
theorem dX9_giveFrame_10 : decode cX9_giveFrame 10 = .ok (.invokestatic 75, 3) := by decide +kernel
theorem dX9_giveFrame_13 : decode cX9_giveFrame 13 = .ok (.ifCond .eq 18, 3) := by decide +kernel
theorem dX9_giveFrame_16 : decode cX9_giveFrame 16 = .ok (.aload_n 1, 1) := by decide +kernel
theorem dX9_giveFrame_17 : decode cX9_giveFrame 17 = .ok (.iload_n 2, 1) := by decide +kernel
theorem dX9_giveFrame_18 : decode cX9_giveFrame 18 = .ok (.invokevirtual 150, 3) := by decide +kernel
theorem dX9_giveFrame_21 : decode cX9_giveFrame 21 = .ok (.aload_n 0, 1) := by decide +kernel
theorem dX9_giveFrame_22 : decode cX9_giveFrame 22 = .ok (.getfield 26, 3) := by decide +kernel
theorem dX9_giveFrame_25 : decode cX9_giveFrame 25 = .ok (.iload_n 2, 1) := by decide +kernel
theorem dX9_giveFrame_26 : decode cX9_giveFrame 26 = .ok (.dup2, 1) := by decide +kernel
theorem dX9_giveFrame_27 : decode cX9_giveFrame 27 = .ok (.iaload, 1) := by decide +kernel
theorem dX9_giveFrame_28 : decode cX9_giveFrame 28 = .ok (.iconst 1, 1) := by decide +kernel
theorem dX9_giveFrame_29 : decode cX9_giveFrame 29 = .ok (.iadd, 1) := by decide +kernel
theorem dX9_giveFrame_30 : decode cX9_giveFrame 30 = .ok (.iastore, 1) := by decide +kernel
theorem dX9_giveFrame_31 : decode cX9_giveFrame 31 = .ok (.iconst 1, 1) := by decide +kernel
theorem dX9_giveFrame_32 : decode cX9_giveFrame 32 = .ok (.ireturn, 1) := by decide +kernel
theorem dX9_cutPiece_0 : decode cX9_cutPiece 0 = .ok (.aload_n 0, 1) := by decide +kernel
theorem dX9_cutPiece_1 : decode cX9_cutPiece 1 = .ok (.getfield 18, 3) := by decide +kernel
theorem dX9_cutPiece_4 : decode cX9_cutPiece 4 = .ok (.iload_n 2, 1) := by decide +kernel
theorem dX9_cutPiece_5 : decode cX9_cutPiece 5 = .ok (.iload_n 3, 1) := by decide +kernel
theorem dX9_cutPiece_6 : decode cX9_cutPiece 6 = .ok (.invokevirtual 153, 3) := by decide +kernel
theorem dX9_cutPiece_9 : decode cX9_cutPiece 9 = .ok (.istore 4, 2) := by decide +kernel
theorem dX9_cutPiece_11 : decode cX9_cutPiece 11 = .ok (.iload 4, 2) := by decide +kernel
theorem dX9_cutPiece_13 : decode cX9_cutPiece 13 = .ok (.ifCond .ge 5, 3) := by decide +kernel
theorem dX9_cutPiece_16 : decode cX9_cutPiece 16 = .ok (.iconst 0, 1) := by decide +kernel
theorem dX9_cutPiece_17 : decode cX9_cutPiece 17 = .ok (.ireturn, 1) := by decide +kernel
theorem dX9_cutPiece_18 : decode cX9_cutPiece 18 = .ok (.aload_n 0, 1) := by decide +kernel
theorem dX9_cutPiece_19 : decode cX9_cutPiece 19 = .ok (.getfield 18, 3) := by decide +kernel
theorem dX9_cutPiece_22 : decode cX9_cutPiece 22 = .ok (.getfield 157, 3) := by decide +kernel
theorem dX9_cutPiece_25 : decode cX9_cutPiece 25 = .ok (.iload 4, 2) := by decide +kernel
theorem dX9_cutPiece_27 : decode cX9_cutPiece 27 = .ok (.aaload, 1) := by decide +kernel
theorem dX9_cutPiece_28 : decode cX9_cutPiece 28 = .ok (.astore 5, 2) := by decide +kernel
theorem dX9_cutPiece_30 : decode cX9_cutPiece 30 = .ok (.aload_n 1, 1) := by decide +kernel
theorem dX9_cutPiece_31 : decode cX9_cutPiece 31 = .ok (.iload_n 2, 1) := by decide +kernel
theorem dX9_cutPiece_32 : decode cX9_cutPiece 32 = .ok (.aload 5, 2) := by decide +kernel
theorem dX9_cutPiece_34 : decode cX9_cutPiece 34 = .ok (.getfield 161, 3) := by decide +kernel
theorem dX9_cutPiece_37 : decode cX9_cutPiece 37 = .ok (.invokevirtual 166, 3) := by decide +kernel
theorem dX9_cutPiece_40 : decode cX9_cutPiece 40 = .ok (.aload_n 0, 1) := by decide +kernel
theorem dX9_cutPiece_41 : decode cX9_cutPiece 41 = .ok (.getfield 18, 3) := by decide +kernel
theorem dX9_cutPiece_44 : decode cX9_cutPiece 44 = .ok (.aload 5, 2) := by decide +kernel
theorem dX9_cutPiece_46 : decode cX9_cutPiece 46 = .ok (.aload 5, 2) := by decide +kernel
theorem dX9_cutPiece_48 : decode cX9_cutPiece 48 = .ok (.iload_n 3, 1) := by decide +kernel
theorem dX9_cutPiece_49 : decode cX9_cutPiece 49 = .ok (.invokevirtual 169, 3) := by decide +kernel
theorem dX9_cutPiece_52 : decode cX9_cutPiece 52 = .ok (.iload_n 3, 1) := by decide +kernel
theorem dX9_cutPiece_53 : decode cX9_cutPiece 53 = .ok (.invokevirtual 172, 3) := by decide +kernel
theorem dX9_cutPiece_56 : decode cX9_cutPiece 56 = .ok (.iconst 1, 1) := by decide +kernel
theorem dX9_cutPiece_57 : decode cX9_cutPiece 57 = .ok (.ireturn, 1) := by decide +kernel
theorem dX9_finishHull_0 : decode cX9_finishHull 0 = .ok (.aload_n 0, 1) := by decide +kernel
theorem dX9_finishHull_1 : decode cX9_finishHull 1 = .ok (.getfield 31, 3) := by decide +kernel
theorem dX9_finishHull_4 : decode cX9_finishHull 4 = .ok (.iload_n 1, 1) := by decide +kernel
theorem dX9_finishHull_5 : decode cX9_finishHull 5 = .ok (.aaload, 1) := by decide +kernel
theorem dX9_finishHull_6 : decode cX9_finishHull 6 = .ok (.astore_n 2, 1) := by decide +kernel
theorem dX9_finishHull_7 : decode cX9_finishHull 7 = .ok (.aload_n 2, 1) := by decide +kernel
theorem dX9_finishHull_8 : decode cX9_finishHull 8 = .ok (.iconst 0, 1) := by decide +kernel
theorem dX9_finishHull_9 : decode cX9_finishHull 9 = .ok (.putfield 176, 3) := by decide +kernel
theorem dX9_finishHull_12 : decode cX9_finishHull 12 = .ok (.aload_n 0, 1) := by decide +kernel
theorem dX9_finishHull_13 : decode cX9_finishHull 13 = .ok (.getfield 43, 3) := by decide +kernel
theorem dX9_finishHull_16 : decode cX9_finishHull 16 = .ok (.bipush 40, 2) := by decide +kernel
theorem dX9_finishHull_18 : decode cX9_finishHull 18 = .ok (.if_icmp .ge 52, 3) := by decide +kernel
theorem dX9_finishHull_21 : decode cX9_finishHull 21 = .ok (.aload_n 0, 1) := by decide +kernel
theorem dX9_finishHull_22 : decode cX9_finishHull 22 = .ok (.getfield 40, 3) := by decide +kernel
theorem dX9_finishHull_25 : decode cX9_finishHull 25 = .ok (.aload_n 0, 1) := by decide +kernel
theorem dX9_finishHull_26 : decode cX9_finishHull 26 = .ok (.getfield 43, 3) := by decide +kernel
theorem dX9_finishHull_29 : decode cX9_finishHull 29 = .ok (.aaload, 1) := by decide +kernel
theorem dX9_finishHull_30 : decode cX9_finishHull 30 = .ok (.astore_n 3, 1) := by decide +kernel
theorem dX9_finishHull_31 : decode cX9_finishHull 31 = .ok (.aload_n 3, 1) := by decide +kernel
theorem dX9_finishHull_32 : decode cX9_finishHull 32 = .ok (.iconst 0, 1) := by decide +kernel
theorem dX9_finishHull_33 : decode cX9_finishHull 33 = .ok (.iload_n 1, 1) := by decide +kernel
theorem dX9_finishHull_34 : decode cX9_finishHull 34 = .ok (.iastore, 1) := by decide +kernel
theorem dX9_finishHull_35 : decode cX9_finishHull 35 = .ok (.aload_n 3, 1) := by decide +kernel
theorem dX9_finishHull_36 : decode cX9_finishHull 36 = .ok (.iconst 1, 1) := by decide +kernel
theorem dX9_finishHull_37 : decode cX9_finishHull 37 = .ok (.aload_n 2, 1) := by decide +kernel
theorem dX9_finishHull_38 : decode cX9_finishHull 38 = .ok (.getfield 179, 3) := by decide +kernel
theorem dX9_finishHull_41 : decode cX9_finishHull 41 = .ok (.iastore, 1) := by decide +kernel
theorem dX9_finishHull_42 : decode cX9_finishHull 42 = .ok (.aload_n 3, 1) := by decide +kernel
theorem dX9_finishHull_43 : decode cX9_finishHull 43 = .ok (.iconst 2, 1) := by decide +kernel
theorem dX9_finishHull_44 : decode cX9_finishHull 44 = .ok (.aload_n 2, 1) := by decide +kernel
theorem dX9_finishHull_45 : decode cX9_finishHull 45 = .ok (.getfield 182, 3) := by decide +kernel
theorem dX9_finishHull_48 : decode cX9_finishHull 48 = .ok (.iastore, 1) := by decide +kernel
theorem dX9_finishHull_49 : decode cX9_finishHull 49 = .ok (.aload_n 3, 1) := by decide +kernel
theorem dX9_finishHull_50 : decode cX9_finishHull 50 = .ok (.iconst 3, 1) := by decide +kernel
theorem dX9_finishHull_51 : decode cX9_finishHull 51 = .ok (.aload_n 2, 1) := by decide +kernel
theorem dX9_finishHull_52 : decode cX9_finishHull 52 = .ok (.getfield 185, 3) := by decide +kernel
theorem dX9_finishHull_55 : decode cX9_finishHull 55 = .ok (.iastore, 1) := by decide +kernel
theorem dX9_finishHull_56 : decode cX9_finishHull 56 = .ok (.aload_n 3, 1) := by decide +kernel
theorem dX9_finishHull_57 : decode cX9_finishHull 57 = .ok (.iconst 4, 1) := by decide +kernel
theorem dX9_finishHull_58 : decode cX9_finishHull 58 = .ok (.aload_n 2, 1) := by decide +kernel
theorem dX9_finishHull_59 : decode cX9_finishHull 59 = .ok (.getfield 188, 3) := by decide +kernel
theorem dX9_finishHull_62 : decode cX9_finishHull 62 = .ok (.iastore, 1) := by decide +kernel
theorem dX9_finishHull_63 : decode cX9_finishHull 63 = .ok (.aload_n 3, 1) := by decide +kernel
theorem dX9_finishHull_64 : decode cX9_finishHull 64 = .ok (.iconst 5, 1) := by decide +kernel
theorem dX9_finishHull_65 : decode cX9_finishHull 65 = .ok (.aload_n 0, 1) := by decide +kernel
theorem dX9_finishHull_66 : decode cX9_finishHull 66 = .ok (.getfield 9, 3) := by decide +kernel
theorem dX9_finishHull_69 : decode cX9_finishHull 69 = .ok (.iastore, 1) := by decide +kernel
theorem dX9_finishHull_70 : decode cX9_finishHull 70 = .ok (.aload_n 0, 1) := by decide +kernel
theorem dX9_finishHull_71 : decode cX9_finishHull 71 = .ok (.dup, 1) := by decide +kernel
theorem dX9_finishHull_72 : decode cX9_finishHull 72 = .ok (.getfield 43, 3) := by decide +kernel
theorem dX9_finishHull_75 : decode cX9_finishHull 75 = .ok (.iconst 1, 1) := by decide +kernel
theorem dX9_finishHull_76 : decode cX9_finishHull 76 = .ok (.iadd, 1) := by decide +kernel
theorem dX9_finishHull_77 : decode cX9_finishHull 77 = .ok (.putfield 43, 3) := by decide +kernel
theorem dX9_finishHull_80 : decode cX9_finishHull 80 = .ok (.return_, 1) := by decide +kernel
theorem dX9_keptHulls_0 : decode cX9_keptHulls 0 = .ok (.aload_n 0, 1) := by decide +kernel
theorem dX9_keptHulls_1 : decode cX9_keptHulls 1 = .ok (.getfield 43, 3) := by decide +kernel
theorem dX9_keptHulls_4 : decode cX9_keptHulls 4 = .ok (.bipush 40, 2) := by decide +kernel
theorem dX9_keptHulls_6 : decode cX9_keptHulls 6 = .ok (.invokestatic 191, 3) := by decide +kernel
theorem dX9_keptHulls_9 : decode cX9_keptHulls 9 = .ok (.ireturn, 1) := by decide +kernel
theorem dX9_stuckSlips_0 : decode cX9_stuckSlips 0 = .ok (.iconst 0, 1) := by decide +kernel
theorem dX9_stuckSlips_1 : decode cX9_stuckSlips 1 = .ok (.istore_n 1, 1) := by decide +kernel
theorem dX9_stuckSlips_2 : decode cX9_stuckSlips 2 = .ok (.iconst 0, 1) := by decide +kernel
theorem dX9_stuckSlips_3 : decode cX9_stuckSlips 3 = .ok (.istore_n 2, 1) := by decide +kernel
theorem dX9_stuckSlips_4 : decode cX9_stuckSlips 4 = .ok (.iload_n 2, 1) := by decide +kernel
theorem dX9_stuckSlips_5 : decode cX9_stuckSlips 5 = .ok (.iconst 5, 1) := by decide +kernel
theorem dX9_stuckSlips_6 : decode cX9_stuckSlips 6 = .ok (.if_icmp .ge 28, 3) := by decide +kernel
theorem dX9_stuckSlips_9 : decode cX9_stuckSlips 9 = .ok (.iload_n 1, 1) := by decide +kernel
theorem dX9_stuckSlips_10 : decode cX9_stuckSlips 10 = .ok (.aload_n 0, 1) := by decide +kernel
theorem dX9_stuckSlips_11 : decode cX9_stuckSlips 11 = .ok (.getfield 26, 3) := by decide +kernel
theorem dX9_stuckSlips_14 : decode cX9_stuckSlips 14 = .ok (.iload_n 2, 1) := by decide +kernel
theorem dX9_stuckSlips_15 : decode cX9_stuckSlips 15 = .ok (.iaload, 1) := by decide +kernel
theorem dX9_stuckSlips_16 : decode cX9_stuckSlips 16 = .ok (.ifCond .le 9, 3) := by decide +kernel
theorem dX9_stuckSlips_19 : decode cX9_stuckSlips 19 = .ok (.iconst 1, 1) := by decide +kernel
theorem dX9_stuckSlips_20 : decode cX9_stuckSlips 20 = .ok (.iload_n 2, 1) := by decide +kernel
theorem dX9_stuckSlips_21 : decode cX9_stuckSlips 21 = .ok (.ishl, 1) := by decide +kernel
theorem dX9_stuckSlips_22 : decode cX9_stuckSlips 22 = .ok (.goto 4, 3) := by decide +kernel
theorem dX9_stuckSlips_25 : decode cX9_stuckSlips 25 = .ok (.iconst 0, 1) := by decide +kernel
theorem dX9_stuckSlips_26 : decode cX9_stuckSlips 26 = .ok (.ior, 1) := by decide +kernel
theorem dX9_stuckSlips_27 : decode cX9_stuckSlips 27 = .ok (.istore_n 1, 1) := by decide +kernel
theorem dX9_stuckSlips_28 : decode cX9_stuckSlips 28 = .ok (.iinc 2 1, 3) := by decide +kernel
theorem dX9_stuckSlips_31 : decode cX9_stuckSlips 31 = .ok (.goto (-27), 3) := by decide +kernel
theorem dX9_stuckSlips_34 : decode cX9_stuckSlips 34 = .ok (.iconst 0, 1) := by decide +kernel
theorem dX9_stuckSlips_35 : decode cX9_stuckSlips 35 = .ok (.istore_n 2, 1) := by decide +kernel
theorem dX9_stuckSlips_36 : decode cX9_stuckSlips 36 = .ok (.iload_n 2, 1) := by decide +kernel
theorem dX9_stuckSlips_37 : decode cX9_stuckSlips 37 = .ok (.aload_n 0, 1) := by decide +kernel
theorem dX9_stuckSlips_38 : decode cX9_stuckSlips 38 = .ok (.getfield 35, 3) := by decide +kernel
theorem dX9_stuckSlips_41 : decode cX9_stuckSlips 41 = .ok (.if_icmp .ge 54, 3) := by decide +kernel
theorem dX9_stuckSlips_44 : decode cX9_stuckSlips 44 = .ok (.iconst 0, 1) := by decide +kernel
theorem dX9_stuckSlips_45 : decode cX9_stuckSlips 45 = .ok (.istore_n 3, 1) := by decide +kernel
theorem dX9_stuckSlips_46 : decode cX9_stuckSlips 46 = .ok (.iload_n 3, 1) := by decide +kernel
theorem dX9_stuckSlips_47 : decode cX9_stuckSlips 47 = .ok (.aload_n 0, 1) := by decide +kernel
theorem dX9_stuckSlips_48 : decode cX9_stuckSlips 48 = .ok (.getfield 35, 3) := by decide +kernel
theorem dX9_stuckSlips_51 : decode cX9_stuckSlips 51 = .ok (.if_icmp .ge 38, 3) := by decide +kernel
theorem dX9_stuckSlips_54 : decode cX9_stuckSlips 54 = .ok (.iload_n 1, 1) := by decide +kernel
theorem dX9_stuckSlips_55 : decode cX9_stuckSlips 55 = .ok (.aload_n 0, 1) := by decide +kernel
theorem dX9_stuckSlips_56 : decode cX9_stuckSlips 56 = .ok (.getfield 31, 3) := by decide +kernel
theorem dX9_stuckSlips_59 : decode cX9_stuckSlips 59 = .ok (.iload_n 3, 1) := by decide +kernel
theorem dX9_stuckSlips_60 : decode cX9_stuckSlips 60 = .ok (.aaload, 1) := by decide +kernel
theorem dX9_stuckSlips_61 : decode cX9_stuckSlips 61 = .ok (.iload_n 1, 1) := by decide +kernel
theorem dX9_stuckSlips_62 : decode cX9_stuckSlips 62 = .ok (.invokevirtual 196, 3) := by decide +kernel
theorem dX9_stuckSlips_65 : decode cX9_stuckSlips 65 = .ok (.ifCond .eq 15, 3) := by decide +kernel
theorem dX9_stuckSlips_68 : decode cX9_stuckSlips 68 = .ok (.aload_n 0, 1) := by decide +kernel
theorem dX9_stuckSlips_69 : decode cX9_stuckSlips 69 = .ok (.getfield 31, 3) := by decide +kernel
theorem dX9_stuckSlips_72 : decode cX9_stuckSlips 72 = .ok (.iload_n 3, 1) := by decide +kernel
theorem dX9_stuckSlips_73 : decode cX9_stuckSlips 73 = .ok (.aaload, 1) := by decide +kernel
theorem dX9_stuckSlips_74 : decode cX9_stuckSlips 74 = .ok (.invokevirtual 199, 3) := by decide +kernel
theorem dX9_stuckSlips_77 : decode cX9_stuckSlips 77 = .ok (.goto 4, 3) := by decide +kernel
theorem dX9_stuckSlips_80 : decode cX9_stuckSlips 80 = .ok (.iconst 0, 1) := by decide +kernel
theorem dX9_stuckSlips_81 : decode cX9_stuckSlips 81 = .ok (.ior, 1) := by decide +kernel
theorem dX9_stuckSlips_82 : decode cX9_stuckSlips 82 = .ok (.istore_n 1, 1) := by decide +kernel
theorem dX9_stuckSlips_83 : decode cX9_stuckSlips 83 = .ok (.iinc 3 1, 3) := by decide +kernel
theorem dX9_stuckSlips_86 : decode cX9_stuckSlips 86 = .ok (.goto (-40), 3) := by decide +kernel
theorem dX9_stuckSlips_89 : decode cX9_stuckSlips 89 = .ok (.iinc 2 1, 3) := by decide +kernel
theorem dX9_stuckSlips_92 : decode cX9_stuckSlips 92 = .ok (.goto (-56), 3) := by decide +kernel
theorem dX9_stuckSlips_95 : decode cX9_stuckSlips 95 = .ok (.iconst 0, 1) := by decide +kernel
theorem dX9_stuckSlips_96 : decode cX9_stuckSlips 96 = .ok (.istore_n 2, 1) := by decide +kernel
theorem dX9_stuckSlips_97 : decode cX9_stuckSlips 97 = .ok (.iconst 0, 1) := by decide +kernel
theorem dX9_stuckSlips_98 : decode cX9_stuckSlips 98 = .ok (.istore_n 3, 1) := by decide +kernel
theorem dX9_stuckSlips_99 : decode cX9_stuckSlips 99 = .ok (.iload_n 3, 1) := by decide +kernel
theorem dX9_stuckSlips_100 : decode cX9_stuckSlips 100 = .ok (.aload_n 0, 1) := by decide +kernel
theorem dX9_stuckSlips_101 : decode cX9_stuckSlips 101 = .ok (.getfield 35, 3) := by decide +kernel
theorem dX9_stuckSlips_104 : decode cX9_stuckSlips 104 = .ok (.if_icmp .ge 32, 3) := by decide +kernel
theorem dX9_stuckSlips_107 : decode cX9_stuckSlips 107 = .ok (.iload_n 2, 1) := by decide +kernel
theorem dX9_stuckSlips_108 : decode cX9_stuckSlips 108 = .ok (.aload_n 0, 1) := by decide +kernel
theorem dX9_stuckSlips_109 : decode cX9_stuckSlips 109 = .ok (.getfield 31, 3) := by decide +kernel
theorem dX9_stuckSlips_112 : decode cX9_stuckSlips 112 = .ok (.iload_n 3, 1) := by decide +kernel
theorem dX9_stuckSlips_113 : decode cX9_stuckSlips 113 = .ok (.aaload, 1) := by decide +kernel
theorem dX9_stuckSlips_114 : decode cX9_stuckSlips 114 = .ok (.iload_n 1, 1) := by decide +kernel
theorem dX9_stuckSlips_115 : decode cX9_stuckSlips 115 = .ok (.invokevirtual 196, 3) := by decide +kernel
theorem dX9_stuckSlips_118 : decode cX9_stuckSlips 118 = .ok (.ifCond .eq 7, 3) := by decide +kernel
theorem dX9_stuckSlips_121 : decode cX9_stuckSlips 121 = .ok (.iconst 0, 1) := by decide +kernel
theorem dX9_stuckSlips_122 : decode cX9_stuckSlips 122 = .ok (.goto 6, 3) := by decide +kernel
theorem dX9_stuckSlips_125 : decode cX9_stuckSlips 125 = .ok (.iconst 1, 1) := by decide +kernel
theorem dX9_stuckSlips_126 : decode cX9_stuckSlips 126 = .ok (.iload_n 3, 1) := by decide +kernel
theorem dX9_stuckSlips_127 : decode cX9_stuckSlips 127 = .ok (.ishl, 1) := by decide +kernel
theorem dX9_stuckSlips_128 : decode cX9_stuckSlips 128 = .ok (.ior, 1) := by decide +kernel
theorem dX9_stuckSlips_129 : decode cX9_stuckSlips 129 = .ok (.istore_n 2, 1) := by decide +kernel
theorem dX9_stuckSlips_130 : decode cX9_stuckSlips 130 = .ok (.iinc 3 1, 3) := by decide +kernel
theorem dX9_stuckSlips_133 : decode cX9_stuckSlips 133 = .ok (.goto (-34), 3) := by decide +kernel
theorem dX9_stuckSlips_136 : decode cX9_stuckSlips 136 = .ok (.iload_n 2, 1) := by decide +kernel
theorem dX9_stuckSlips_137 : decode cX9_stuckSlips 137 = .ok (.ireturn, 1) := by decide +kernel
theorem dX9_buildingSlips_0 : decode cX9_buildingSlips 0 = .ok (.iconst 0, 1) := by decide +kernel
theorem dX9_buildingSlips_1 : decode cX9_buildingSlips 1 = .ok (.istore_n 1, 1) := by decide +kernel
theorem dX9_buildingSlips_2 : decode cX9_buildingSlips 2 = .ok (.iconst 0, 1) := by decide +kernel
theorem dX9_buildingSlips_3 : decode cX9_buildingSlips 3 = .ok (.istore_n 2, 1) := by decide +kernel
theorem dX9_buildingSlips_4 : decode cX9_buildingSlips 4 = .ok (.iload_n 2, 1) := by decide +kernel
theorem dX9_buildingSlips_5 : decode cX9_buildingSlips 5 = .ok (.aload_n 0, 1) := by decide +kernel
theorem dX9_buildingSlips_6 : decode cX9_buildingSlips 6 = .ok (.getfield 35, 3) := by decide +kernel
theorem dX9_buildingSlips_9 : decode cX9_buildingSlips 9 = .ok (.if_icmp .ge 29, 3) := by decide +kernel
theorem dX9_buildingSlips_12 : decode cX9_buildingSlips 12 = .ok (.iload_n 1, 1) := by decide +kernel
theorem dX9_buildingSlips_13 : decode cX9_buildingSlips 13 = .ok (.aload_n 0, 1) := by decide +kernel
theorem dX9_buildingSlips_14 : decode cX9_buildingSlips 14 = .ok (.getfield 31, 3) := by decide +kernel
theorem dX9_buildingSlips_17 : decode cX9_buildingSlips 17 = .ok (.iload_n 2, 1) := by decide +kernel
theorem dX9_buildingSlips_18 : decode cX9_buildingSlips 18 = .ok (.aaload, 1) := by decide +kernel
theorem dX9_buildingSlips_19 : decode cX9_buildingSlips 19 = .ok (.getfield 176, 3) := by decide +kernel
theorem dX9_buildingSlips_22 : decode cX9_buildingSlips 22 = .ok (.ifCond .eq 7, 3) := by decide +kernel
theorem dX9_buildingSlips_25 : decode cX9_buildingSlips 25 = .ok (.iconst 1, 1) := by decide +kernel
theorem dX9_buildingSlips_26 : decode cX9_buildingSlips 26 = .ok (.goto 4, 3) := by decide +kernel
theorem dX9_buildingSlips_29 : decode cX9_buildingSlips 29 = .ok (.iconst 0, 1) := by decide +kernel
theorem dX9_buildingSlips_30 : decode cX9_buildingSlips 30 = .ok (.iadd, 1) := by decide +kernel
theorem dX9_buildingSlips_31 : decode cX9_buildingSlips 31 = .ok (.istore_n 1, 1) := by decide +kernel
theorem dX9_buildingSlips_32 : decode cX9_buildingSlips 32 = .ok (.iinc 2 1, 3) := by decide +kernel
theorem dX9_buildingSlips_35 : decode cX9_buildingSlips 35 = .ok (.goto (-31), 3) := by decide +kernel
theorem dX9_buildingSlips_38 : decode cX9_buildingSlips 38 = .ok (.iload_n 1, 1) := by decide +kernel
theorem dX9_buildingSlips_39 : decode cX9_buildingSlips 39 = .ok (.ireturn, 1) := by decide +kernel
theorem dX9_waitingSlips_0 : decode cX9_waitingSlips 0 = .ok (.iconst 0, 1) := by decide +kernel
theorem dX9_waitingSlips_1 : decode cX9_waitingSlips 1 = .ok (.istore_n 1, 1) := by decide +kernel
theorem dX9_waitingSlips_2 : decode cX9_waitingSlips 2 = .ok (.iconst 0, 1) := by decide +kernel
theorem dX9_waitingSlips_3 : decode cX9_waitingSlips 3 = .ok (.istore_n 2, 1) := by decide +kernel
theorem dX9_waitingSlips_4 : decode cX9_waitingSlips 4 = .ok (.iload_n 2, 1) := by decide +kernel
theorem dX9_waitingSlips_5 : decode cX9_waitingSlips 5 = .ok (.iconst 5, 1) := by decide +kernel
theorem dX9_waitingSlips_6 : decode cX9_waitingSlips 6 = .ok (.if_icmp .ge 17, 3) := by decide +kernel
theorem dX9_waitingSlips_9 : decode cX9_waitingSlips 9 = .ok (.iload_n 1, 1) := by decide +kernel
theorem dX9_waitingSlips_10 : decode cX9_waitingSlips 10 = .ok (.aload_n 0, 1) := by decide +kernel
theorem dX9_waitingSlips_11 : decode cX9_waitingSlips 11 = .ok (.iload_n 2, 1) := by decide +kernel
theorem dX9_waitingSlips_12 : decode cX9_waitingSlips 12 = .ok (.invokevirtual 202, 3) := by decide +kernel
theorem dX9_waitingSlips_15 : decode cX9_waitingSlips 15 = .ok (.iadd, 1) := by decide +kernel
theorem dX9_waitingSlips_16 : decode cX9_waitingSlips 16 = .ok (.istore_n 1, 1) := by decide +kernel
theorem dX9_waitingSlips_17 : decode cX9_waitingSlips 17 = .ok (.iinc 2 1, 3) := by decide +kernel
theorem dX9_waitingSlips_20 : decode cX9_waitingSlips 20 = .ok (.goto (-16), 3) := by decide +kernel
theorem dX9_waitingSlips_23 : decode cX9_waitingSlips 23 = .ok (.iload_n 1, 1) := by decide +kernel
theorem dX9_waitingSlips_24 : decode cX9_waitingSlips 24 = .ok (.ireturn, 1) := by decide +kernel
theorem dX9_slipsWaitingFor_0 : decode cX9_slipsWaitingFor 0 = .ok (.iconst 0, 1) := by decide +kernel
theorem dX9_slipsWaitingFor_1 : decode cX9_slipsWaitingFor 1 = .ok (.istore_n 2, 1) := by decide +kernel
theorem dX9_slipsWaitingFor_2 : decode cX9_slipsWaitingFor 2 = .ok (.iconst 0, 1) := by decide +kernel
theorem dX9_slipsWaitingFor_3 : decode cX9_slipsWaitingFor 3 = .ok (.istore_n 3, 1) := by decide +kernel
theorem dX9_slipsWaitingFor_4 : decode cX9_slipsWaitingFor 4 = .ok (.iload_n 3, 1) := by decide +kernel
theorem dX9_slipsWaitingFor_5 : decode cX9_slipsWaitingFor 5 = .ok (.aload_n 0, 1) := by decide +kernel
theorem dX9_slipsWaitingFor_6 : decode cX9_slipsWaitingFor 6 = .ok (.getfield 35, 3) := by decide +kernel
theorem dX9_slipsWaitingFor_9 : decode cX9_slipsWaitingFor 9 = .ok (.if_icmp .ge 30, 3) := by decide +kernel
theorem dX9_slipsWaitingFor_12 : decode cX9_slipsWaitingFor 12 = .ok (.iload_n 2, 1) := by decide +kernel
theorem dX9_slipsWaitingFor_13 : decode cX9_slipsWaitingFor 13 = .ok (.aload_n 0, 1) := by decide +kernel
theorem dX9_slipsWaitingFor_14 : decode cX9_slipsWaitingFor 14 = .ok (.getfield 31, 3) := by decide +kernel
theorem dX9_slipsWaitingFor_17 : decode cX9_slipsWaitingFor 17 = .ok (.iload_n 3, 1) := by decide +kernel
theorem dX9_slipsWaitingFor_18 : decode cX9_slipsWaitingFor 18 = .ok (.aaload, 1) := by decide +kernel
theorem dX9_slipsWaitingFor_19 : decode cX9_slipsWaitingFor 19 = .ok (.getfield 72, 3) := by decide +kernel
theorem dX9_slipsWaitingFor_22 : decode cX9_slipsWaitingFor 22 = .ok (.iload_n 1, 1) := by decide +kernel
theorem dX9_slipsWaitingFor_23 : decode cX9_slipsWaitingFor 23 = .ok (.if_icmp .ne 7, 3) := by decide +kernel
theorem dX9_slipsWaitingFor_26 : decode cX9_slipsWaitingFor 26 = .ok (.iconst 1, 1) := by decide +kernel
theorem dX9_slipsWaitingFor_27 : decode cX9_slipsWaitingFor 27 = .ok (.goto 4, 3) := by decide +kernel
theorem dX9_slipsWaitingFor_30 : decode cX9_slipsWaitingFor 30 = .ok (.iconst 0, 1) := by decide +kernel
theorem dX9_slipsWaitingFor_31 : decode cX9_slipsWaitingFor 31 = .ok (.iadd, 1) := by decide +kernel
theorem dX9_slipsWaitingFor_32 : decode cX9_slipsWaitingFor 32 = .ok (.istore_n 2, 1) := by decide +kernel
theorem dX9_slipsWaitingFor_33 : decode cX9_slipsWaitingFor 33 = .ok (.iinc 3 1, 3) := by decide +kernel
theorem dX9_slipsWaitingFor_36 : decode cX9_slipsWaitingFor 36 = .ok (.goto (-32), 3) := by decide +kernel
theorem dX9_slipsWaitingFor_39 : decode cX9_slipsWaitingFor 39 = .ok (.iload_n 2, 1) := by decide +kernel
theorem dX9_slipsWaitingFor_40 : decode cX9_slipsWaitingFor 40 = .ok (.ireturn, 1) := by decide +kernel
theorem dX9_tellFrames_0 : decode cX9_tellFrames 0 = .ok (.iload_n 1, 1) := by decide +kernel
theorem dX9_tellFrames_1 : decode cX9_tellFrames 1 = .ok (.iconst 5, 1) := by decide +kernel
theorem dX9_tellFrames_2 : decode cX9_tellFrames 2 = .ok (.invokestatic 75, 3) := by decide +kernel
theorem dX9_tellFrames_5 : decode cX9_tellFrames 5 = .ok (.ifCond .ne 5, 3) := by decide +kernel
theorem dX9_tellFrames_8 : decode cX9_tellFrames 8 = .ok (.iconst 0, 1) := by decide +kernel
theorem dX9_tellFrames_9 : decode cX9_tellFrames 9 = .ok (.ireturn, 1) := by decide +kernel
theorem dX9_tellFrames_10 : decode cX9_tellFrames 10 = .ok (.iload_n 2, 1) := by decide +kernel
theorem dX9_tellFrames_11 : decode cX9_tellFrames 11 = .ok (.lookupswitch 39 #[(0, 25), (1, 32)], 25) := by decide +kernel
theorem dX9_tellFrames_36 : decode cX9_tellFrames 36 = .ok (.aload_n 0, 1) := by decide +kernel
theorem dX9_tellFrames_37 : decode cX9_tellFrames 37 = .ok (.getfield 22, 3) := by decide +kernel
theorem dX9_tellFrames_40 : decode cX9_tellFrames 40 = .ok (.iload_n 1, 1) := by decide +kernel
theorem dX9_tellFrames_41 : decode cX9_tellFrames 41 = .ok (.iaload, 1) := by decide +kernel
theorem dX9_tellFrames_42 : decode cX9_tellFrames 42 = .ok (.ireturn, 1) := by decide +kernel
theorem dX9_tellFrames_43 : decode cX9_tellFrames 43 = .ok (.aload_n 0, 1) := by decide +kernel
theorem dX9_tellFrames_44 : decode cX9_tellFrames 44 = .ok (.getfield 26, 3) := by decide +kernel
theorem dX9_tellFrames_47 : decode cX9_tellFrames 47 = .ok (.iload_n 1, 1) := by decide +kernel
theorem dX9_tellFrames_48 : decode cX9_tellFrames 48 = .ok (.iaload, 1) := by decide +kernel
theorem dX9_tellFrames_49 : decode cX9_tellFrames 49 = .ok (.ireturn, 1) := by decide +kernel
theorem dX9_tellFrames_50 : decode cX9_tellFrames 50 = .ok (.aload_n 0, 1) := by decide +kernel
theorem dX9_tellFrames_51 : decode cX9_tellFrames 51 = .ok (.iload_n 1, 1) := by decide +kernel
theorem dX9_tellFrames_52 : decode cX9_tellFrames 52 = .ok (.invokevirtual 202, 3) := by decide +kernel
theorem dX9_tellFrames_55 : decode cX9_tellFrames 55 = .ok (.ireturn, 1) := by decide +kernel
theorem dX9_tellCount_0 : decode cX9_tellCount 0 = .ok (.iload_n 1, 1) := by decide +kernel
theorem dX9_tellCount_1 : decode cX9_tellCount 1 = .ok (.tableswitch 93 0 7 #[47, 52, 60, 65, 70, 75, 80, 85], 47) := by decide +kernel
theorem dX9_tellCount_48 : decode cX9_tellCount 48 = .ok (.aload_n 0, 1) := by decide +kernel
theorem dX9_tellCount_49 : decode cX9_tellCount 49 = .ok (.getfield 9, 3) := by decide +kernel
theorem dX9_tellCount_52 : decode cX9_tellCount 52 = .ok (.ireturn, 1) := by decide +kernel
theorem dX9_tellCount_53 : decode cX9_tellCount 53 = .ok (.aload_n 0, 1) := by decide +kernel
theorem dX9_tellCount_54 : decode cX9_tellCount 54 = .ok (.getfield 18, 3) := by decide +kernel
theorem dX9_tellCount_57 : decode cX9_tellCount 57 = .ok (.getfield 205, 3) := by decide +kernel
theorem dX9_tellCount_60 : decode cX9_tellCount 60 = .ok (.ireturn, 1) := by decide +kernel
theorem dX9_tellCount_61 : decode cX9_tellCount 61 = .ok (.aload_n 0, 1) := by decide +kernel
theorem dX9_tellCount_62 : decode cX9_tellCount 62 = .ok (.getfield 35, 3) := by decide +kernel
theorem dX9_tellCount_65 : decode cX9_tellCount 65 = .ok (.ireturn, 1) := by decide +kernel
theorem dX9_tellCount_66 : decode cX9_tellCount 66 = .ok (.aload_n 0, 1) := by decide +kernel
theorem dX9_tellCount_67 : decode cX9_tellCount 67 = .ok (.invokevirtual 208, 3) := by decide +kernel
theorem dX9_tellCount_70 : decode cX9_tellCount 70 = .ok (.ireturn, 1) := by decide +kernel
theorem dX9_tellCount_71 : decode cX9_tellCount 71 = .ok (.aload_n 0, 1) := by decide +kernel
theorem dX9_tellCount_72 : decode cX9_tellCount 72 = .ok (.invokevirtual 211, 3) := by decide +kernel
theorem dX9_tellCount_75 : decode cX9_tellCount 75 = .ok (.ireturn, 1) := by decide +kernel
theorem dX9_tellCount_76 : decode cX9_tellCount 76 = .ok (.aload_n 0, 1) := by decide +kernel
theorem dX9_tellCount_77 : decode cX9_tellCount 77 = .ok (.getfield 43, 3) := by decide +kernel
theorem dX9_tellCount_80 : decode cX9_tellCount 80 = .ok (.ireturn, 1) := by decide +kernel
theorem dX9_tellCount_81 : decode cX9_tellCount 81 = .ok (.aload_n 0, 1) := by decide +kernel
theorem dX9_tellCount_82 : decode cX9_tellCount 82 = .ok (.getfield 46, 3) := by decide +kernel
theorem dX9_tellCount_85 : decode cX9_tellCount 85 = .ok (.ireturn, 1) := by decide +kernel
theorem dX9_tellCount_86 : decode cX9_tellCount 86 = .ok (.aload_n 0, 1) := by decide +kernel
theorem dX9_tellCount_87 : decode cX9_tellCount 87 = .ok (.getfield 18, 3) := by decide +kernel
theorem dX9_tellCount_90 : decode cX9_tellCount 90 = .ok (.getfield 214, 3) := by decide +kernel
theorem dX9_tellCount_93 : decode cX9_tellCount 93 = .ok (.ireturn, 1) := by decide +kernel
theorem dX9_tellCount_94 : decode cX9_tellCount 94 = .ok (.aload_n 0, 1) := by decide +kernel
theorem dX9_tellCount_95 : decode cX9_tellCount 95 = .ok (.getfield 18, 3) := by decide +kernel
theorem dX9_tellCount_98 : decode cX9_tellCount 98 = .ok (.invokevirtual 217, 3) := by decide +kernel
theorem dX9_tellCount_101 : decode cX9_tellCount 101 = .ok (.ireturn, 1) := by decide +kernel
theorem dX9_copyFrom_0 : decode cX9_copyFrom 0 = .ok (.aload_n 0, 1) := by decide +kernel
theorem dX9_copyFrom_1 : decode cX9_copyFrom 1 = .ok (.aload_n 1, 1) := by decide +kernel
theorem dX9_copyFrom_2 : decode cX9_copyFrom 2 = .ok (.getfield 9, 3) := by decide +kernel
theorem dX9_copyFrom_5 : decode cX9_copyFrom 5 = .ok (.putfield 9, 3) := by decide +kernel
theorem dX9_copyFrom_8 : decode cX9_copyFrom 8 = .ok (.aload_n 0, 1) := by decide +kernel
theorem dX9_copyFrom_9 : decode cX9_copyFrom 9 = .ok (.aload_n 1, 1) := by decide +kernel
theorem dX9_copyFrom_10 : decode cX9_copyFrom 10 = .ok (.getfield 35, 3) := by decide +kernel
theorem dX9_copyFrom_13 : decode cX9_copyFrom 13 = .ok (.putfield 35, 3) := by decide +kernel
theorem dX9_copyFrom_16 : decode cX9_copyFrom 16 = .ok (.aload_n 0, 1) := by decide +kernel
theorem dX9_copyFrom_17 : decode cX9_copyFrom 17 = .ok (.aload_n 1, 1) := by decide +kernel
theorem dX9_copyFrom_18 : decode cX9_copyFrom 18 = .ok (.getfield 43, 3) := by decide +kernel
theorem dX9_copyFrom_21 : decode cX9_copyFrom 21 = .ok (.putfield 43, 3) := by decide +kernel
theorem dX9_copyFrom_24 : decode cX9_copyFrom 24 = .ok (.aload_n 0, 1) := by decide +kernel
theorem dX9_copyFrom_25 : decode cX9_copyFrom 25 = .ok (.aload_n 1, 1) := by decide +kernel
theorem dX9_copyFrom_26 : decode cX9_copyFrom 26 = .ok (.getfield 46, 3) := by decide +kernel
theorem dX9_copyFrom_29 : decode cX9_copyFrom 29 = .ok (.putfield 46, 3) := by decide +kernel
theorem dX9_copyFrom_32 : decode cX9_copyFrom 32 = .ok (.aload_n 0, 1) := by decide +kernel
theorem dX9_copyFrom_33 : decode cX9_copyFrom 33 = .ok (.getfield 18, 3) := by decide +kernel
theorem dX9_copyFrom_36 : decode cX9_copyFrom 36 = .ok (.aload_n 1, 1) := by decide +kernel
theorem dX9_copyFrom_37 : decode cX9_copyFrom 37 = .ok (.getfield 18, 3) := by decide +kernel
theorem dX9_copyFrom_40 : decode cX9_copyFrom 40 = .ok (.invokevirtual 220, 3) := by decide +kernel
theorem dX9_copyFrom_43 : decode cX9_copyFrom 43 = .ok (.aload_n 1, 1) := by decide +kernel
theorem dX9_copyFrom_44 : decode cX9_copyFrom 44 = .ok (.getfield 22, 3) := by decide +kernel
theorem dX9_copyFrom_47 : decode cX9_copyFrom 47 = .ok (.iconst 0, 1) := by decide +kernel
theorem dX9_copyFrom_48 : decode cX9_copyFrom 48 = .ok (.aload_n 0, 1) := by decide +kernel
theorem dX9_copyFrom_49 : decode cX9_copyFrom 49 = .ok (.getfield 22, 3) := by decide +kernel
theorem dX9_copyFrom_52 : decode cX9_copyFrom 52 = .ok (.iconst 0, 1) := by decide +kernel
theorem dX9_copyFrom_53 : decode cX9_copyFrom 53 = .ok (.iconst 5, 1) := by decide +kernel
theorem dX9_copyFrom_54 : decode cX9_copyFrom 54 = .ok (.invokestatic 224, 3) := by decide +kernel
theorem dX9_copyFrom_57 : decode cX9_copyFrom 57 = .ok (.aload_n 1, 1) := by decide +kernel
theorem dX9_copyFrom_58 : decode cX9_copyFrom 58 = .ok (.getfield 26, 3) := by decide +kernel
theorem dX9_copyFrom_61 : decode cX9_copyFrom 61 = .ok (.iconst 0, 1) := by decide +kernel
theorem dX9_copyFrom_62 : decode cX9_copyFrom 62 = .ok (.aload_n 0, 1) := by decide +kernel
theorem dX9_copyFrom_63 : decode cX9_copyFrom 63 = .ok (.getfield 26, 3) := by decide +kernel
theorem dX9_copyFrom_66 : decode cX9_copyFrom 66 = .ok (.iconst 0, 1) := by decide +kernel
theorem dX9_copyFrom_67 : decode cX9_copyFrom 67 = .ok (.iconst 5, 1) := by decide +kernel
theorem dX9_copyFrom_68 : decode cX9_copyFrom 68 = .ok (.invokestatic 224, 3) := by decide +kernel
theorem dX9_copyFrom_71 : decode cX9_copyFrom 71 = .ok (.iconst 0, 1) := by decide +kernel
theorem dX9_copyFrom_72 : decode cX9_copyFrom 72 = .ok (.istore_n 2, 1) := by decide +kernel
theorem dX9_copyFrom_73 : decode cX9_copyFrom 73 = .ok (.iload_n 2, 1) := by decide +kernel
theorem dX9_copyFrom_74 : decode cX9_copyFrom 74 = .ok (.aload_n 0, 1) := by decide +kernel
theorem dX9_copyFrom_75 : decode cX9_copyFrom 75 = .ok (.getfield 35, 3) := by decide +kernel
theorem dX9_copyFrom_78 : decode cX9_copyFrom 78 = .ok (.if_icmp .ge 24, 3) := by decide +kernel
theorem dX9_copyFrom_81 : decode cX9_copyFrom 81 = .ok (.aload_n 0, 1) := by decide +kernel
theorem dX9_copyFrom_82 : decode cX9_copyFrom 82 = .ok (.getfield 31, 3) := by decide +kernel
theorem dX9_copyFrom_85 : decode cX9_copyFrom 85 = .ok (.iload_n 2, 1) := by decide +kernel
theorem dX9_copyFrom_86 : decode cX9_copyFrom 86 = .ok (.aaload, 1) := by decide +kernel
theorem dX9_copyFrom_87 : decode cX9_copyFrom 87 = .ok (.aload_n 1, 1) := by decide +kernel
theorem dX9_copyFrom_88 : decode cX9_copyFrom 88 = .ok (.getfield 31, 3) := by decide +kernel
theorem dX9_copyFrom_91 : decode cX9_copyFrom 91 = .ok (.iload_n 2, 1) := by decide +kernel
theorem dX9_copyFrom_92 : decode cX9_copyFrom 92 = .ok (.aaload, 1) := by decide +kernel
theorem dX9_copyFrom_93 : decode cX9_copyFrom 93 = .ok (.invokevirtual 230, 3) := by decide +kernel
theorem dX9_copyFrom_96 : decode cX9_copyFrom 96 = .ok (.iinc 2 1, 3) := by decide +kernel
theorem dX9_copyFrom_99 : decode cX9_copyFrom 99 = .ok (.goto (-26), 3) := by decide +kernel
theorem dX9_copyFrom_102 : decode cX9_copyFrom 102 = .ok (.return_, 1) := by decide +kernel
theorem dX10_init_0 : decode cX10_init 0 = .ok (.aload_n 0, 1) := by decide +kernel
theorem dX10_init_1 : decode cX10_init 1 = .ok (.invokespecial 1, 3) := by decide +kernel
theorem dX10_init_4 : decode cX10_init 4 = .ok (.aload_n 0, 1) := by decide +kernel
theorem dX10_init_5 : decode cX10_init 5 = .ok (.new 7, 3) := by decide +kernel
theorem dX10_init_8 : decode cX10_init 8 = .ok (.dup, 1) := by decide +kernel
theorem dX10_init_9 : decode cX10_init 9 = .ok (.invokespecial 9, 3) := by decide +kernel
theorem dX10_init_12 : decode cX10_init 12 = .ok (.putfield 10, 3) := by decide +kernel
theorem dX10_init_15 : decode cX10_init 15 = .ok (.aload_n 0, 1) := by decide +kernel
theorem dX10_init_16 : decode cX10_init 16 = .ok (.new 16, 3) := by decide +kernel
theorem dX10_init_19 : decode cX10_init 19 = .ok (.dup, 1) := by decide +kernel
theorem dX10_init_20 : decode cX10_init 20 = .ok (.aload_n 0, 1) := by decide +kernel
theorem dX10_init_21 : decode cX10_init 21 = .ok (.getfield 10, 3) := by decide +kernel
theorem dX10_init_24 : decode cX10_init 24 = .ok (.invokespecial 18, 3) := by decide +kernel
theorem dX10_init_27 : decode cX10_init 27 = .ok (.putfield 21, 3) := by decide +kernel
theorem dX10_init_30 : decode cX10_init 30 = .ok (.aload_n 0, 1) := by decide +kernel
theorem dX10_init_31 : decode cX10_init 31 = .ok (.bipush 6, 2) := by decide +kernel
theorem dX10_init_33 : decode cX10_init 33 = .ok (.anewarray 25, 3) := by decide +kernel
theorem dX10_init_36 : decode cX10_init 36 = .ok (.putfield 27, 3) := by decide +kernel
theorem dX10_init_39 : decode cX10_init 39 = .ok (.aload_n 0, 1) := by decide +kernel
theorem dX10_init_40 : decode cX10_init 40 = .ok (.new 31, 3) := by decide +kernel
theorem dX10_init_43 : decode cX10_init 43 = .ok (.dup, 1) := by decide +kernel
theorem dX10_init_44 : decode cX10_init 44 = .ok (.invokespecial 33, 3) := by decide +kernel
theorem dX10_init_47 : decode cX10_init 47 = .ok (.putfield 34, 3) := by decide +kernel
theorem dX10_init_50 : decode cX10_init 50 = .ok (.aload_n 0, 1) := by decide +kernel
theorem dX10_init_51 : decode cX10_init 51 = .ok (.new 31, 3) := by decide +kernel
theorem dX10_init_54 : decode cX10_init 54 = .ok (.dup, 1) := by decide +kernel
theorem dX10_init_55 : decode cX10_init 55 = .ok (.invokespecial 33, 3) := by decide +kernel
theorem dX10_init_58 : decode cX10_init 58 = .ok (.putfield 38, 3) := by decide +kernel
theorem dX10_init_61 : decode cX10_init 61 = .ok (.iconst 0, 1) := by decide +kernel
theorem dX10_init_62 : decode cX10_init 62 = .ok (.istore_n 1, 1) := by decide +kernel
theorem dX10_init_63 : decode cX10_init 63 = .ok (.iload_n 1, 1) := by decide +kernel
theorem dX10_init_64 : decode cX10_init 64 = .ok (.bipush 6, 2) := by decide +kernel
theorem dX10_init_66 : decode cX10_init 66 = .ok (.if_icmp .ge 22, 3) := by decide +kernel
theorem dX10_init_69 : decode cX10_init 69 = .ok (.aload_n 0, 1) := by decide +kernel
theorem dX10_init_70 : decode cX10_init 70 = .ok (.getfield 27, 3) := by decide +kernel
theorem dX10_init_73 : decode cX10_init 73 = .ok (.iload_n 1, 1) := by decide +kernel
theorem dX10_init_74 : decode cX10_init 74 = .ok (.new 25, 3) := by decide +kernel
theorem dX10_init_77 : decode cX10_init 77 = .ok (.dup, 1) := by decide +kernel
theorem dX10_init_78 : decode cX10_init 78 = .ok (.invokespecial 41, 3) := by decide +kernel
theorem dX10_init_81 : decode cX10_init 81 = .ok (.aastore, 1) := by decide +kernel
theorem dX10_init_82 : decode cX10_init 82 = .ok (.iinc 1 1, 3) := by decide +kernel
theorem dX10_init_85 : decode cX10_init 85 = .ok (.goto (-22), 3) := by decide +kernel
theorem dX10_init_88 : decode cX10_init 88 = .ok (.return_, 1) := by decide +kernel
theorem dX10_feed_0 : decode cX10_feed 0 = .ok (.aload_n 0, 1) := by decide +kernel
theorem dX10_feed_1 : decode cX10_feed 1 = .ok (.getfield 10, 3) := by decide +kernel
theorem dX10_feed_4 : decode cX10_feed 4 = .ok (.getfield 42, 3) := by decide +kernel
theorem dX10_feed_7 : decode cX10_feed 7 = .ok (.bipush 20, 2) := by decide +kernel
theorem dX10_feed_9 : decode cX10_feed 9 = .ok (.iadd, 1) := by decide +kernel
theorem dX10_feed_10 : decode cX10_feed 10 = .ok (.sipush 1000, 3) := by decide +kernel
theorem dX10_feed_13 : decode cX10_feed 13 = .ok (.if_icmp .le 13, 3) := by decide +kernel
theorem dX10_feed_16 : decode cX10_feed 16 = .ok (.new 46, 3) := by decide +kernel
theorem dX10_feed_19 : decode cX10_feed 19 = .ok (.dup, 1) := by decide +kernel
theorem dX10_feed_20 : decode cX10_feed 20 = .ok (.ldc 48, 2) := by decide +kernel
theorem dX10_feed_22 : decode cX10_feed 22 = .ok (.invokespecial 50, 3) := by decide +kernel
theorem dX10_feed_25 : decode cX10_feed 25 = .ok (.athrow, 1) := by decide +kernel
theorem dX10_feed_26 : decode cX10_feed 26 = .ok (.aload_n 0, 1) := by decide +kernel
theorem dX10_feed_27 : decode cX10_feed 27 = .ok (.getfield 10, 3) := by decide +kernel
theorem dX10_feed_30 : decode cX10_feed 30 = .ok (.iload_n 1, 1) := by decide +kernel
theorem dX10_feed_31 : decode cX10_feed 31 = .ok (.invokevirtual 53, 3) := by decide +kernel
theorem dX10_feed_34 : decode cX10_feed 34 = .ok (.aload_n 0, 1) := by decide +kernel
theorem dX10_feed_35 : decode cX10_feed 35 = .ok (.getfield 10, 3) := by decide +kernel
theorem dX10_feed_38 : decode cX10_feed 38 = .ok (.iload_n 2, 1) := by decide +kernel
theorem dX10_feed_39 : decode cX10_feed 39 = .ok (.invokevirtual 53, 3) := by decide +kernel
theorem dX10_feed_42 : decode cX10_feed 42 = .ok (.aload_n 0, 1) := by decide +kernel
theorem dX10_feed_43 : decode cX10_feed 43 = .ok (.getfield 10, 3) := by decide +kernel
theorem dX10_feed_46 : decode cX10_feed 46 = .ok (.iload_n 3, 1) := by decide +kernel
theorem dX10_feed_47 : decode cX10_feed 47 = .ok (.invokevirtual 53, 3) := by decide +kernel
theorem dX10_feed_50 : decode cX10_feed 50 = .ok (.aload_n 0, 1) := by decide +kernel
theorem dX10_feed_51 : decode cX10_feed 51 = .ok (.getfield 10, 3) := by decide +kernel
theorem dX10_feed_54 : decode cX10_feed 54 = .ok (.iload 4, 2) := by decide +kernel
theorem dX10_feed_56 : decode cX10_feed 56 = .ok (.invokevirtual 53, 3) := by decide +kernel
theorem dX10_feed_59 : decode cX10_feed 59 = .ok (.aload_n 0, 1) := by decide +kernel
theorem dX10_feed_60 : decode cX10_feed 60 = .ok (.getfield 10, 3) := by decide +kernel
theorem dX10_feed_63 : decode cX10_feed 63 = .ok (.iload 5, 2) := by decide +kernel
theorem dX10_feed_65 : decode cX10_feed 65 = .ok (.invokevirtual 53, 3) := by decide +kernel
theorem dX10_feed_68 : decode cX10_feed 68 = .ok (.aload_n 0, 1) := by decide +kernel
theorem dX10_feed_69 : decode cX10_feed 69 = .ok (.getfield 10, 3) := by decide +kernel
theorem dX10_feed_72 : decode cX10_feed 72 = .ok (.getfield 42, 3) := by decide +kernel
theorem dX10_feed_75 : decode cX10_feed 75 = .ok (.ireturn, 1) := by decide +kernel
theorem dX10_trim_0 : decode cX10_trim 0 = .ok (.iload_n 1, 1) := by decide +kernel
theorem dX10_trim_1 : decode cX10_trim 1 = .ok (.ifCond .lt 14, 3) := by decide +kernel
theorem dX10_trim_4 : decode cX10_trim 4 = .ok (.iload_n 1, 1) := by decide +kernel
theorem dX10_trim_5 : decode cX10_trim 5 = .ok (.aload_n 0, 1) := by decide +kernel
theorem dX10_trim_6 : decode cX10_trim 6 = .ok (.getfield 10, 3) := by decide +kernel
theorem dX10_trim_9 : decode cX10_trim 9 = .ok (.getfield 42, 3) := by decide +kernel
theorem dX10_trim_12 : decode cX10_trim 12 = .ok (.if_icmp .le 13, 3) := by decide +kernel
theorem dX10_trim_15 : decode cX10_trim 15 = .ok (.new 57, 3) := by decide +kernel
theorem dX10_trim_18 : decode cX10_trim 18 = .ok (.dup, 1) := by decide +kernel
theorem dX10_trim_19 : decode cX10_trim 19 = .ok (.ldc 59, 2) := by decide +kernel
theorem dX10_trim_21 : decode cX10_trim 21 = .ok (.invokespecial 61, 3) := by decide +kernel
theorem dX10_trim_24 : decode cX10_trim 24 = .ok (.athrow, 1) := by decide +kernel
theorem dX10_trim_25 : decode cX10_trim 25 = .ok (.aload_n 0, 1) := by decide +kernel
theorem dX10_trim_26 : decode cX10_trim 26 = .ok (.getfield 10, 3) := by decide +kernel
theorem dX10_trim_29 : decode cX10_trim 29 = .ok (.iload_n 1, 1) := by decide +kernel
theorem dX10_trim_30 : decode cX10_trim 30 = .ok (.putfield 42, 3) := by decide +kernel
theorem dX10_trim_33 : decode cX10_trim 33 = .ok (.iload_n 1, 1) := by decide +kernel
theorem dX10_trim_34 : decode cX10_trim 34 = .ok (.ireturn, 1) := by decide +kernel
theorem dX10_compile_0 : decode cX10_compile 0 = .ok (.iload_n 1, 1) := by decide +kernel
theorem dX10_compile_1 : decode cX10_compile 1 = .ok (.bipush 6, 2) := by decide +kernel
theorem dX10_compile_3 : decode cX10_compile 3 = .ok (.invokestatic 62, 3) := by decide +kernel
theorem dX10_compile_6 : decode cX10_compile 6 = .ok (.ifCond .ne 13, 3) := by decide +kernel
theorem dX10_compile_9 : decode cX10_compile 9 = .ok (.new 66, 3) := by decide +kernel
theorem dX10_compile_12 : decode cX10_compile 12 = .ok (.dup, 1) := by decide +kernel
theorem dX10_compile_13 : decode cX10_compile 13 = .ok (.ldc 68, 2) := by decide +kernel
theorem dX10_compile_15 : decode cX10_compile 15 = .ok (.invokespecial 70, 3) := by decide +kernel
theorem dX10_compile_18 : decode cX10_compile 18 = .ok (.athrow, 1) := by decide +kernel
theorem dX10_compile_19 : decode cX10_compile 19 = .ok (.new 25, 3) := by decide +kernel
theorem dX10_compile_22 : decode cX10_compile 22 = .ok (.dup, 1) := by decide +kernel
theorem dX10_compile_23 : decode cX10_compile 23 = .ok (.invokespecial 41, 3) := by decide +kernel
theorem dX10_compile_26 : decode cX10_compile 26 = .ok (.astore_n 2, 1) := by decide +kernel
theorem dX10_compile_27 : decode cX10_compile 27 = .ok (.aload_n 0, 1) := by decide +kernel
theorem dX10_compile_28 : decode cX10_compile 28 = .ok (.getfield 21, 3) := by decide +kernel
theorem dX10_compile_31 : decode cX10_compile 31 = .ok (.invokevirtual 71, 3) := by decide +kernel
theorem dX10_compile_34 : decode cX10_compile 34 = .ok (.istore_n 3, 1) := by decide +kernel
theorem dX10_compile_35 : decode cX10_compile 35 = .ok (.iload_n 3, 1) := by decide +kernel
theorem dX10_compile_36 : decode cX10_compile 36 = .ok (.ifCond .ne 12, 3) := by decide +kernel
theorem dX10_compile_39 : decode cX10_compile 39 = .ok (.aload_n 0, 1) := by decide +kernel
theorem dX10_compile_40 : decode cX10_compile 40 = .ok (.getfield 21, 3) := by decide +kernel
theorem dX10_compile_43 : decode cX10_compile 43 = .ok (.aload_n 2, 1) := by decide +kernel
theorem dX10_compile_44 : decode cX10_compile 44 = .ok (.invokevirtual 75, 3) := by decide +kernel
theorem dX10_compile_47 : decode cX10_compile 47 = .ok (.istore_n 3, 1) := by decide +kernel
theorem dX10_compile_48 : decode cX10_compile 48 = .ok (.iload_n 3, 1) := by decide +kernel
theorem dX10_compile_49 : decode cX10_compile 49 = .ok (.ifCond .ne 10, 3) := by decide +kernel
theorem dX10_compile_52 : decode cX10_compile 52 = .ok (.aload_n 0, 1) := by decide +kernel
theorem dX10_compile_53 : decode cX10_compile 53 = .ok (.getfield 27, 3) := by decide +kernel
theorem dX10_compile_56 : decode cX10_compile 56 = .ok (.iload_n 1, 1) := by decide +kernel
theorem dX10_compile_57 : decode cX10_compile 57 = .ok (.aload_n 2, 1) := by decide +kernel
theorem dX10_compile_58 : decode cX10_compile 58 = .ok (.aastore, 1) := by decide +kernel
theorem dX10_compile_59 : decode cX10_compile 59 = .ok (.aload_n 0, 1) := by decide +kernel
theorem dX10_compile_60 : decode cX10_compile 60 = .ok (.getfield 10, 3) := by decide +kernel
theorem dX10_compile_63 : decode cX10_compile 63 = .ok (.iconst 0, 1) := by decide +kernel
theorem dX10_compile_64 : decode cX10_compile 64 = .ok (.putfield 42, 3) := by decide +kernel
theorem dX10_compile_67 : decode cX10_compile 67 = .ok (.iload_n 3, 1) := by decide +kernel
theorem dX10_compile_68 : decode cX10_compile 68 = .ok (.ireturn, 1) := by decide +kernel
theorem dX10_errorAt_0 : decode cX10_errorAt 0 = .ok (.aload_n 0, 1) := by decide +kernel
theorem dX10_errorAt_1 : decode cX10_errorAt 1 = .ok (.getfield 21, 3) := by decide +kernel
theorem dX10_errorAt_4 : decode cX10_errorAt 4 = .ok (.getfield 79, 3) := by decide +kernel
theorem dX10_errorAt_7 : decode cX10_errorAt 7 = .ok (.ireturn, 1) := by decide +kernel
theorem dX10_plan_0 : decode cX10_plan 0 = .ok (.iload_n 1, 1) := by decide +kernel
theorem dX10_plan_1 : decode cX10_plan 1 = .ok (.bipush 6, 2) := by decide +kernel
theorem dX10_plan_3 : decode cX10_plan 3 = .ok (.invokestatic 62, 3) := by decide +kernel
theorem dX10_plan_6 : decode cX10_plan 6 = .ok (.ifCond .eq 11, 3) := by decide +kernel
theorem dX10_plan_9 : decode cX10_plan 9 = .ok (.iload_n 2, 1) := by decide +kernel
theorem dX10_plan_10 : decode cX10_plan 10 = .ok (.iconst 4, 1) := by decide +kernel
theorem dX10_plan_11 : decode cX10_plan 11 = .ok (.invokestatic 62, 3) := by decide +kernel
theorem dX10_plan_14 : decode cX10_plan 14 = .ok (.ifCond .ne 13, 3) := by decide +kernel
theorem dX10_plan_17 : decode cX10_plan 17 = .ok (.new 66, 3) := by decide +kernel
theorem dX10_plan_20 : decode cX10_plan 20 = .ok (.dup, 1) := by decide +kernel
theorem dX10_plan_21 : decode cX10_plan 21 = .ok (.ldc 82, 2) := by decide +kernel
theorem dX10_plan_23 : decode cX10_plan 23 = .ok (.invokespecial 70, 3) := by decide +kernel
theorem dX10_plan_26 : decode cX10_plan 26 = .ok (.athrow, 1) := by decide +kernel
theorem dX10_plan_27 : decode cX10_plan 27 = .ok (.aload_n 0, 1) := by decide +kernel
theorem dX10_plan_28 : decode cX10_plan 28 = .ok (.getfield 27, 3) := by decide +kernel
theorem dX10_plan_31 : decode cX10_plan 31 = .ok (.iload_n 1, 1) := by decide +kernel
theorem dX10_plan_32 : decode cX10_plan 32 = .ok (.aaload, 1) := by decide +kernel
theorem dX10_plan_33 : decode cX10_plan 33 = .ok (.iload_n 2, 1) := by decide +kernel
theorem dX10_plan_34 : decode cX10_plan 34 = .ok (.invokevirtual 84, 3) := by decide +kernel
theorem dX10_plan_37 : decode cX10_plan 37 = .ok (.ireturn, 1) := by decide +kernel
theorem dX10_addPlank_0 : decode cX10_addPlank 0 = .ok (.iload_n 1, 1) := by decide +kernel
theorem dX10_addPlank_1 : decode cX10_addPlank 1 = .ok (.iconst 4, 1) := by decide +kernel
theorem dX10_addPlank_2 : decode cX10_addPlank 2 = .ok (.invokestatic 62, 3) := by decide +kernel
theorem dX10_addPlank_5 : decode cX10_addPlank 5 = .ok (.ifCond .eq 26, 3) := by decide +kernel
theorem dX10_addPlank_8 : decode cX10_addPlank 8 = .ok (.iload_n 2, 1) := by decide +kernel
theorem dX10_addPlank_9 : decode cX10_addPlank 9 = .ok (.bipush 10, 2) := by decide +kernel
theorem dX10_addPlank_11 : decode cX10_addPlank 11 = .ok (.if_icmp .lt 20, 3) := by decide +kernel
theorem dX10_addPlank_14 : decode cX10_addPlank 14 = .ok (.iload_n 2, 1) := by decide +kernel
theorem dX10_addPlank_15 : decode cX10_addPlank 15 = .ok (.sipush 300, 3) := by decide +kernel
theorem dX10_addPlank_18 : decode cX10_addPlank 18 = .ok (.if_icmp .gt 13, 3) := by decide +kernel
theorem dX10_addPlank_21 : decode cX10_addPlank 21 = .ok (.iload_n 3, 1) := by decide +kernel
theorem dX10_addPlank_22 : decode cX10_addPlank 22 = .ok (.ifCond .lt 9, 3) := by decide +kernel
theorem dX10_addPlank_25 : decode cX10_addPlank 25 = .ok (.iload_n 3, 1) := by decide +kernel
theorem dX10_addPlank_26 : decode cX10_addPlank 26 = .ok (.bipush 100, 2) := by decide +kernel
theorem dX10_addPlank_28 : decode cX10_addPlank 28 = .ok (.if_icmp .le 13, 3) := by decide +kernel
theorem dX10_addPlank_31 : decode cX10_addPlank 31 = .ok (.new 57, 3) := by decide +kernel
theorem dX10_addPlank_34 : decode cX10_addPlank 34 = .ok (.dup, 1) := by decide +kernel
theorem dX10_addPlank_35 : decode cX10_addPlank 35 = .ok (.ldc 88, 2) := by decide +kernel
theorem dX10_addPlank_37 : decode cX10_addPlank 37 = .ok (.invokespecial 61, 3) := by decide +kernel
theorem dX10_addPlank_40 : decode cX10_addPlank 40 = .ok (.athrow, 1) := by decide +kernel
theorem dX10_addPlank_41 : decode cX10_addPlank 41 = .ok (.aload_n 0, 1) := by decide +kernel
theorem dX10_addPlank_42 : decode cX10_addPlank 42 = .ok (.getfield 34, 3) := by decide +kernel
theorem dX10_addPlank_45 : decode cX10_addPlank 45 = .ok (.getfield 90, 3) := by decide +kernel
theorem dX10_addPlank_48 : decode cX10_addPlank 48 = .ok (.getfield 94, 3) := by decide +kernel
theorem dX10_addPlank_51 : decode cX10_addPlank 51 = .ok (.bipush 60, 2) := by decide +kernel
theorem dX10_addPlank_53 : decode cX10_addPlank 53 = .ok (.if_icmp .lt 13, 3) := by decide +kernel
theorem dX10_addPlank_56 : decode cX10_addPlank 56 = .ok (.new 46, 3) := by decide +kernel
theorem dX10_addPlank_59 : decode cX10_addPlank 59 = .ok (.dup, 1) := by decide +kernel
theorem dX10_addPlank_60 : decode cX10_addPlank 60 = .ok (.ldc 99, 2) := by decide +kernel
theorem dX10_addPlank_62 : decode cX10_addPlank 62 = .ok (.invokespecial 50, 3) := by decide +kernel
theorem dX10_addPlank_65 : decode cX10_addPlank 65 = .ok (.athrow, 1) := by decide +kernel
theorem dX10_addPlank_66 : decode cX10_addPlank 66 = .ok (.aload_n 0, 1) := by decide +kernel
theorem dX10_addPlank_67 : decode cX10_addPlank 67 = .ok (.getfield 34, 3) := by decide +kernel
theorem dX10_addPlank_70 : decode cX10_addPlank 70 = .ok (.getfield 90, 3) := by decide +kernel
theorem dX10_addPlank_73 : decode cX10_addPlank 73 = .ok (.iload_n 1, 1) := by decide +kernel
theorem dX10_addPlank_74 : decode cX10_addPlank 74 = .ok (.iload_n 2, 1) := by decide +kernel
theorem dX10_addPlank_75 : decode cX10_addPlank 75 = .ok (.iload_n 3, 1) := by decide +kernel
theorem dX10_addPlank_76 : decode cX10_addPlank 76 = .ok (.invokevirtual 101, 3) := by decide +kernel
theorem dX10_addPlank_79 : decode cX10_addPlank 79 = .ok (.ireturn, 1) := by decide +kernel
theorem dX10_addKnot_0 : decode cX10_addKnot 0 = .ok (.iload_n 1, 1) := by decide +kernel
theorem dX10_addKnot_1 : decode cX10_addKnot 1 = .ok (.aload_n 0, 1) := by decide +kernel
theorem dX10_addKnot_2 : decode cX10_addKnot 2 = .ok (.getfield 34, 3) := by decide +kernel
theorem dX10_addKnot_5 : decode cX10_addKnot 5 = .ok (.getfield 90, 3) := by decide +kernel
theorem dX10_addKnot_8 : decode cX10_addKnot 8 = .ok (.getfield 94, 3) := by decide +kernel
theorem dX10_addKnot_11 : decode cX10_addKnot 11 = .ok (.invokestatic 62, 3) := by decide +kernel
theorem dX10_addKnot_14 : decode cX10_addKnot 14 = .ok (.ifCond .ne 13, 3) := by decide +kernel
theorem dX10_addKnot_17 : decode cX10_addKnot 17 = .ok (.new 66, 3) := by decide +kernel
theorem dX10_addKnot_20 : decode cX10_addKnot 20 = .ok (.dup, 1) := by decide +kernel
theorem dX10_addKnot_21 : decode cX10_addKnot 21 = .ok (.ldc 105, 2) := by decide +kernel
theorem dX10_addKnot_23 : decode cX10_addKnot 23 = .ok (.invokespecial 70, 3) := by decide +kernel
theorem dX10_addKnot_26 : decode cX10_addKnot 26 = .ok (.athrow, 1) := by decide +kernel
theorem dX10_addKnot_27 : decode cX10_addKnot 27 = .ok (.aload_n 0, 1) := by decide +kernel
theorem dX10_addKnot_28 : decode cX10_addKnot 28 = .ok (.getfield 34, 3) := by decide +kernel
theorem dX10_addKnot_31 : decode cX10_addKnot 31 = .ok (.getfield 90, 3) := by decide +kernel
theorem dX10_addKnot_34 : decode cX10_addKnot 34 = .ok (.getfield 107, 3) := by decide +kernel
theorem dX10_addKnot_37 : decode cX10_addKnot 37 = .ok (.iload_n 1, 1) := by decide +kernel
theorem dX10_addKnot_38 : decode cX10_addKnot 38 = .ok (.aaload, 1) := by decide +kernel
theorem dX10_addKnot_39 : decode cX10_addKnot 39 = .ok (.astore_n 3, 1) := by decide +kernel
theorem dX10_addKnot_40 : decode cX10_addKnot 40 = .ok (.iload_n 2, 1) := by decide +kernel
theorem dX10_addKnot_41 : decode cX10_addKnot 41 = .ok (.aload_n 3, 1) := by decide +kernel
theorem dX10_addKnot_42 : decode cX10_addKnot 42 = .ok (.getfield 111, 3) := by decide +kernel
theorem dX10_addKnot_45 : decode cX10_addKnot 45 = .ok (.invokestatic 62, 3) := by decide +kernel
theorem dX10_addKnot_48 : decode cX10_addKnot 48 = .ok (.ifCond .ne 13, 3) := by decide +kernel
theorem dX10_addKnot_51 : decode cX10_addKnot 51 = .ok (.new 57, 3) := by decide +kernel
theorem dX10_addKnot_54 : decode cX10_addKnot 54 = .ok (.dup, 1) := by decide +kernel
theorem dX10_addKnot_55 : decode cX10_addKnot 55 = .ok (.ldc 114, 2) := by decide +kernel
theorem dX10_addKnot_57 : decode cX10_addKnot 57 = .ok (.invokespecial 61, 3) := by decide +kernel
theorem dX10_addKnot_60 : decode cX10_addKnot 60 = .ok (.athrow, 1) := by decide +kernel
theorem dX10_addKnot_61 : decode cX10_addKnot 61 = .ok (.aload_n 3, 1) := by decide +kernel
theorem dX10_addKnot_62 : decode cX10_addKnot 62 = .ok (.getfield 116, 3) := by decide +kernel
theorem dX10_addKnot_65 : decode cX10_addKnot 65 = .ok (.bipush 8, 2) := by decide +kernel
theorem dX10_addKnot_67 : decode cX10_addKnot 67 = .ok (.if_icmp .ge 11, 3) := by decide +kernel
theorem dX10_addKnot_70 : decode cX10_addKnot 70 = .ok (.aload_n 3, 1) := by decide +kernel
theorem dX10_addKnot_71 : decode cX10_addKnot 71 = .ok (.iload_n 2, 1) := by decide +kernel
theorem dX10_addKnot_72 : decode cX10_addKnot 72 = .ok (.invokevirtual 119, 3) := by decide +kernel
theorem dX10_addKnot_75 : decode cX10_addKnot 75 = .ok (.ifCond .eq 13, 3) := by decide +kernel
theorem dX10_addKnot_78 : decode cX10_addKnot 78 = .ok (.new 46, 3) := by decide +kernel
theorem dX10_addKnot_81 : decode cX10_addKnot 81 = .ok (.dup, 1) := by decide +kernel
theorem dX10_addKnot_82 : decode cX10_addKnot 82 = .ok (.ldc 123, 2) := by decide +kernel
theorem dX10_addKnot_84 : decode cX10_addKnot 84 = .ok (.invokespecial 50, 3) := by decide +kernel
theorem dX10_addKnot_87 : decode cX10_addKnot 87 = .ok (.athrow, 1) := by decide +kernel
theorem dX10_addKnot_88 : decode cX10_addKnot 88 = .ok (.aload_n 3, 1) := by decide +kernel
theorem dX10_addKnot_89 : decode cX10_addKnot 89 = .ok (.iload_n 2, 1) := by decide +kernel
theorem dX10_addKnot_90 : decode cX10_addKnot 90 = .ok (.invokevirtual 125, 3) := by decide +kernel
theorem dX10_addKnot_93 : decode cX10_addKnot 93 = .ok (.aload_n 3, 1) := by decide +kernel
theorem dX10_addKnot_94 : decode cX10_addKnot 94 = .ok (.getfield 116, 3) := by decide +kernel
theorem dX10_addKnot_97 : decode cX10_addKnot 97 = .ok (.ireturn, 1) := by decide +kernel
theorem dX10_plank_0 : decode cX10_plank 0 = .ok (.iload_n 1, 1) := by decide +kernel
theorem dX10_plank_1 : decode cX10_plank 1 = .ok (.aload_n 0, 1) := by decide +kernel
theorem dX10_plank_2 : decode cX10_plank 2 = .ok (.getfield 34, 3) := by decide +kernel
theorem dX10_plank_5 : decode cX10_plank 5 = .ok (.getfield 90, 3) := by decide +kernel
theorem dX10_plank_8 : decode cX10_plank 8 = .ok (.getfield 94, 3) := by decide +kernel
theorem dX10_plank_11 : decode cX10_plank 11 = .ok (.invokestatic 62, 3) := by decide +kernel
theorem dX10_plank_14 : decode cX10_plank 14 = .ok (.ifCond .eq 11, 3) := by decide +kernel
theorem dX10_plank_17 : decode cX10_plank 17 = .ok (.iload_n 2, 1) := by decide +kernel
theorem dX10_plank_18 : decode cX10_plank 18 = .ok (.iconst 5, 1) := by decide +kernel
theorem dX10_plank_19 : decode cX10_plank 19 = .ok (.invokestatic 62, 3) := by decide +kernel
theorem dX10_plank_22 : decode cX10_plank 22 = .ok (.ifCond .ne 13, 3) := by decide +kernel
theorem dX10_plank_25 : decode cX10_plank 25 = .ok (.new 66, 3) := by decide +kernel
theorem dX10_plank_28 : decode cX10_plank 28 = .ok (.dup, 1) := by decide +kernel
theorem dX10_plank_29 : decode cX10_plank 29 = .ok (.ldc 128, 2) := by decide +kernel
theorem dX10_plank_31 : decode cX10_plank 31 = .ok (.invokespecial 70, 3) := by decide +kernel
theorem dX10_plank_34 : decode cX10_plank 34 = .ok (.athrow, 1) := by decide +kernel
theorem dX10_plank_35 : decode cX10_plank 35 = .ok (.aload_n 0, 1) := by decide +kernel
theorem dX10_plank_36 : decode cX10_plank 36 = .ok (.getfield 34, 3) := by decide +kernel
theorem dX10_plank_39 : decode cX10_plank 39 = .ok (.getfield 90, 3) := by decide +kernel
theorem dX10_plank_42 : decode cX10_plank 42 = .ok (.getfield 107, 3) := by decide +kernel
theorem dX10_plank_45 : decode cX10_plank 45 = .ok (.iload_n 1, 1) := by decide +kernel
theorem dX10_plank_46 : decode cX10_plank 46 = .ok (.aaload, 1) := by decide +kernel
theorem dX10_plank_47 : decode cX10_plank 47 = .ok (.iload_n 2, 1) := by decide +kernel
theorem dX10_plank_48 : decode cX10_plank 48 = .ok (.invokevirtual 130, 3) := by decide +kernel
theorem dX10_plank_51 : decode cX10_plank 51 = .ok (.ireturn, 1) := by decide +kernel
theorem dX10_find_0 : decode cX10_find 0 = .ok (.iload_n 1, 1) := by decide +kernel
theorem dX10_find_1 : decode cX10_find 1 = .ok (.iconst 4, 1) := by decide +kernel
theorem dX10_find_2 : decode cX10_find 2 = .ok (.invokestatic 62, 3) := by decide +kernel
theorem dX10_find_5 : decode cX10_find 5 = .ok (.ifCond .eq 16, 3) := by decide +kernel
theorem dX10_find_8 : decode cX10_find 8 = .ok (.iload_n 2, 1) := by decide +kernel
theorem dX10_find_9 : decode cX10_find 9 = .ok (.bipush 10, 2) := by decide +kernel
theorem dX10_find_11 : decode cX10_find 11 = .ok (.if_icmp .lt 10, 3) := by decide +kernel
theorem dX10_find_14 : decode cX10_find 14 = .ok (.iload_n 2, 1) := by decide +kernel
theorem dX10_find_15 : decode cX10_find 15 = .ok (.sipush 200, 3) := by decide +kernel
theorem dX10_find_18 : decode cX10_find 18 = .ok (.if_icmp .le 13, 3) := by decide +kernel
theorem dX10_find_21 : decode cX10_find 21 = .ok (.new 57, 3) := by decide +kernel
theorem dX10_find_24 : decode cX10_find 24 = .ok (.dup, 1) := by decide +kernel
theorem dX10_find_25 : decode cX10_find 25 = .ok (.ldc 131, 2) := by decide +kernel
theorem dX10_find_27 : decode cX10_find 27 = .ok (.invokespecial 61, 3) := by decide +kernel
theorem dX10_find_30 : decode cX10_find 30 = .ok (.athrow, 1) := by decide +kernel
theorem dX10_find_31 : decode cX10_find 31 = .ok (.aload_n 0, 1) := by decide +kernel
theorem dX10_find_32 : decode cX10_find 32 = .ok (.getfield 34, 3) := by decide +kernel
theorem dX10_find_35 : decode cX10_find 35 = .ok (.getfield 90, 3) := by decide +kernel
theorem dX10_find_38 : decode cX10_find 38 = .ok (.iload_n 1, 1) := by decide +kernel
theorem dX10_find_39 : decode cX10_find 39 = .ok (.iload_n 2, 1) := by decide +kernel
theorem dX10_find_40 : decode cX10_find 40 = .ok (.invokevirtual 133, 3) := by decide +kernel
theorem dX10_find_43 : decode cX10_find 43 = .ok (.istore 4, 2) := by decide +kernel
theorem dX10_find_45 : decode cX10_find 45 = .ok (.iload 4, 2) := by decide +kernel
theorem dX10_find_47 : decode cX10_find 47 = .ok (.ifCond .lt 7, 3) := by decide +kernel
theorem dX10_find_50 : decode cX10_find 50 = .ok (.iload_n 3, 1) := by decide +kernel
theorem dX10_find_51 : decode cX10_find 51 = .ok (.ifCond .ne 6, 3) := by decide +kernel
theorem dX10_find_54 : decode cX10_find 54 = .ok (.iload 4, 2) := by decide +kernel
theorem dX10_find_56 : decode cX10_find 56 = .ok (.ireturn, 1) := by decide +kernel
theorem dX10_find_57 : decode cX10_find 57 = .ok (.aload_n 0, 1) := by decide +kernel
theorem dX10_find_58 : decode cX10_find 58 = .ok (.getfield 34, 3) := by decide +kernel
theorem dX10_find_61 : decode cX10_find 61 = .ok (.getfield 90, 3) := by decide +kernel
theorem dX10_find_64 : decode cX10_find 64 = .ok (.getfield 107, 3) := by decide +kernel
theorem dX10_find_67 : decode cX10_find 67 = .ok (.iload 4, 2) := by decide +kernel
theorem dX10_find_69 : decode cX10_find 69 = .ok (.aaload, 1) := by decide +kernel
theorem dX10_find_70 : decode cX10_find 70 = .ok (.iload_n 2, 1) := by decide +kernel
theorem dX10_find_71 : decode cX10_find 71 = .ok (.invokevirtual 137, 3) := by decide +kernel
theorem dX10_find_74 : decode cX10_find 74 = .ok (.ireturn, 1) := by decide +kernel
theorem dX10_addFrame_0 : decode cX10_addFrame 0 = .ok (.iload_n 1, 1) := by decide +kernel
theorem dX10_addFrame_1 : decode cX10_addFrame 1 = .ok (.iconst 5, 1) := by decide +kernel
theorem dX10_addFrame_2 : decode cX10_addFrame 2 = .ok (.invokestatic 62, 3) := by decide +kernel
theorem dX10_addFrame_5 : decode cX10_addFrame 5 = .ok (.ifCond .ne 13, 3) := by decide +kernel
theorem dX10_addFrame_8 : decode cX10_addFrame 8 = .ok (.new 57, 3) := by decide +kernel
theorem dX10_addFrame_11 : decode cX10_addFrame 11 = .ok (.dup, 1) := by decide +kernel
theorem dX10_addFrame_12 : decode cX10_addFrame 12 = .ok (.ldc 140, 2) := by decide +kernel
theorem dX10_addFrame_14 : decode cX10_addFrame 14 = .ok (.invokespecial 61, 3) := by decide +kernel
theorem dX10_addFrame_17 : decode cX10_addFrame 17 = .ok (.athrow, 1) := by decide +kernel
theorem dX10_addFrame_18 : decode cX10_addFrame 18 = .ok (.aload_n 0, 1) := by decide +kernel
theorem dX10_addFrame_19 : decode cX10_addFrame 19 = .ok (.getfield 34, 3) := by decide +kernel
theorem dX10_addFrame_22 : decode cX10_addFrame 22 = .ok (.getfield 142, 3) := by decide +kernel
theorem dX10_addFrame_25 : decode cX10_addFrame 25 = .ok (.iload_n 1, 1) := by decide +kernel
theorem dX10_addFrame_26 : decode cX10_addFrame 26 = .ok (.iaload, 1) := by decide +kernel
theorem dX10_addFrame_27 : decode cX10_addFrame 27 = .ok (.iconst 4, 1) := by decide +kernel
theorem dX10_addFrame_28 : decode cX10_addFrame 28 = .ok (.if_icmp .lt 13, 3) := by decide +kernel
theorem dX10_addFrame_31 : decode cX10_addFrame 31 = .ok (.new 46, 3) := by decide +kernel
theorem dX10_addFrame_34 : decode cX10_addFrame 34 = .ok (.dup, 1) := by decide +kernel
theorem dX10_addFrame_35 : decode cX10_addFrame 35 = .ok (.ldc 146, 2) := by decide +kernel
theorem dX10_addFrame_37 : decode cX10_addFrame 37 = .ok (.invokespecial 50, 3) := by decide +kernel
theorem dX10_addFrame_40 : decode cX10_addFrame 40 = .ok (.athrow, 1) := by decide +kernel
theorem dX10_addFrame_41 : decode cX10_addFrame 41 = .ok (.aload_n 0, 1) := by decide +kernel
theorem dX10_addFrame_42 : decode cX10_addFrame 42 = .ok (.getfield 34, 3) := by decide +kernel
theorem dX10_addFrame_45 : decode cX10_addFrame 45 = .ok (.getfield 142, 3) := by decide +kernel
theorem dX10_addFrame_48 : decode cX10_addFrame 48 = .ok (.iload_n 1, 1) := by decide +kernel
theorem dX10_addFrame_49 : decode cX10_addFrame 49 = .ok (.dup2, 1) := by decide +kernel
theorem dX10_addFrame_50 : decode cX10_addFrame 50 = .ok (.iaload, 1) := by decide +kernel
theorem dX10_addFrame_51 : decode cX10_addFrame 51 = .ok (.iconst 1, 1) := by decide +kernel
theorem dX10_addFrame_52 : decode cX10_addFrame 52 = .ok (.iadd, 1) := by decide +kernel
theorem dX10_addFrame_53 : decode cX10_addFrame 53 = .ok (.iastore, 1) := by decide +kernel
theorem dX10_addFrame_54 : decode cX10_addFrame 54 = .ok (.aload_n 0, 1) := by decide +kernel
theorem dX10_addFrame_55 : decode cX10_addFrame 55 = .ok (.getfield 34, 3) := by decide +kernel
theorem dX10_addFrame_58 : decode cX10_addFrame 58 = .ok (.getfield 148, 3) := by decide +kernel
theorem dX10_addFrame_61 : decode cX10_addFrame 61 = .ok (.iload_n 1, 1) := by decide +kernel
theorem dX10_addFrame_62 : decode cX10_addFrame 62 = .ok (.dup2, 1) := by decide +kernel
theorem dX10_addFrame_63 : decode cX10_addFrame 63 = .ok (.iaload, 1) := by decide +kernel
theorem dX10_addFrame_64 : decode cX10_addFrame 64 = .ok (.iconst 1, 1) := by decide +kernel
theorem dX10_addFrame_65 : decode cX10_addFrame 65 = .ok (.iadd, 1) := by decide +kernel
theorem dX10_addFrame_66 : decode cX10_addFrame 66 = .ok (.iastore, 1) := by decide +kernel
theorem dX10_addFrame_67 : decode cX10_addFrame 67 = .ok (.aload_n 0, 1) := by decide +kernel
theorem dX10_addFrame_68 : decode cX10_addFrame 68 = .ok (.getfield 34, 3) := by decide +kernel
theorem dX10_addFrame_71 : decode cX10_addFrame 71 = .ok (.getfield 142, 3) := by decide +kernel
theorem dX10_addFrame_74 : decode cX10_addFrame 74 = .ok (.iload_n 1, 1) := by decide +kernel
theorem dX10_addFrame_75 : decode cX10_addFrame 75 = .ok (.iaload, 1) := by decide +kernel
theorem dX10_addFrame_76 : decode cX10_addFrame 76 = .ok (.ireturn, 1) := by decide +kernel
theorem dX10_frames_0 : decode cX10_frames 0 = .ok (.iload_n 1, 1) := by decide +kernel
theorem dX10_frames_1 : decode cX10_frames 1 = .ok (.iconst 5, 1) := by decide +kernel
theorem dX10_frames_2 : decode cX10_frames 2 = .ok (.invokestatic 62, 3) := by decide +kernel
theorem dX10_frames_5 : decode cX10_frames 5 = .ok (.ifCond .eq 11, 3) := by decide +kernel
theorem dX10_frames_8 : decode cX10_frames 8 = .ok (.iload_n 2, 1) := by decide +kernel
theorem dX10_frames_9 : decode cX10_frames 9 = .ok (.iconst 3, 1) := by decide +kernel
theorem dX10_frames_10 : decode cX10_frames 10 = .ok (.invokestatic 62, 3) := by decide +kernel
theorem dX10_frames_13 : decode cX10_frames 13 = .ok (.ifCond .ne 13, 3) := by decide +kernel
theorem dX10_frames_16 : decode cX10_frames 16 = .ok (.new 66, 3) := by decide +kernel
theorem dX10_frames_19 : decode cX10_frames 19 = .ok (.dup, 1) := by decide +kernel
theorem dX10_frames_20 : decode cX10_frames 20 = .ok (.ldc 151, 2) := by decide +kernel
theorem dX10_frames_22 : decode cX10_frames 22 = .ok (.invokespecial 70, 3) := by decide +kernel
theorem dX10_frames_25 : decode cX10_frames 25 = .ok (.athrow, 1) := by decide +kernel
theorem dX10_frames_26 : decode cX10_frames 26 = .ok (.aload_n 0, 1) := by decide +kernel
theorem dX10_frames_27 : decode cX10_frames 27 = .ok (.getfield 34, 3) := by decide +kernel
theorem dX10_frames_30 : decode cX10_frames 30 = .ok (.iload_n 1, 1) := by decide +kernel
theorem dX10_frames_31 : decode cX10_frames 31 = .ok (.iload_n 2, 1) := by decide +kernel
theorem dX10_frames_32 : decode cX10_frames 32 = .ok (.invokevirtual 153, 3) := by decide +kernel
theorem dX10_frames_35 : decode cX10_frames 35 = .ok (.ireturn, 1) := by decide +kernel
theorem dX10_addSlip_0 : decode cX10_addSlip 0 = .ok (.aload_n 0, 1) := by decide +kernel
theorem dX10_addSlip_1 : decode cX10_addSlip 1 = .ok (.getfield 34, 3) := by decide +kernel
theorem dX10_addSlip_4 : decode cX10_addSlip 4 = .ok (.getfield 156, 3) := by decide +kernel
theorem dX10_addSlip_7 : decode cX10_addSlip 7 = .ok (.bipush 6, 2) := by decide +kernel
theorem dX10_addSlip_9 : decode cX10_addSlip 9 = .ok (.if_icmp .lt 13, 3) := by decide +kernel
theorem dX10_addSlip_12 : decode cX10_addSlip 12 = .ok (.new 46, 3) := by decide +kernel
theorem dX10_addSlip_15 : decode cX10_addSlip 15 = .ok (.dup, 1) := by decide +kernel
theorem dX10_addSlip_16 : decode cX10_addSlip 16 = .ok (.ldc 159, 2) := by decide +kernel
theorem dX10_addSlip_18 : decode cX10_addSlip 18 = .ok (.invokespecial 50, 3) := by decide +kernel
theorem dX10_addSlip_21 : decode cX10_addSlip 21 = .ok (.athrow, 1) := by decide +kernel
theorem dX10_addSlip_22 : decode cX10_addSlip 22 = .ok (.aload_n 0, 1) := by decide +kernel
theorem dX10_addSlip_23 : decode cX10_addSlip 23 = .ok (.getfield 34, 3) := by decide +kernel
theorem dX10_addSlip_26 : decode cX10_addSlip 26 = .ok (.dup, 1) := by decide +kernel
theorem dX10_addSlip_27 : decode cX10_addSlip 27 = .ok (.getfield 156, 3) := by decide +kernel
theorem dX10_addSlip_30 : decode cX10_addSlip 30 = .ok (.iconst 1, 1) := by decide +kernel
theorem dX10_addSlip_31 : decode cX10_addSlip 31 = .ok (.iadd, 1) := by decide +kernel
theorem dX10_addSlip_32 : decode cX10_addSlip 32 = .ok (.putfield 156, 3) := by decide +kernel
theorem dX10_addSlip_35 : decode cX10_addSlip 35 = .ok (.aload_n 0, 1) := by decide +kernel
theorem dX10_addSlip_36 : decode cX10_addSlip 36 = .ok (.getfield 34, 3) := by decide +kernel
theorem dX10_addSlip_39 : decode cX10_addSlip 39 = .ok (.getfield 156, 3) := by decide +kernel
theorem dX10_addSlip_42 : decode cX10_addSlip 42 = .ok (.iconst 1, 1) := by decide +kernel
theorem dX10_addSlip_43 : decode cX10_addSlip 43 = .ok (.isub, 1) := by decide +kernel
theorem dX10_addSlip_44 : decode cX10_addSlip 44 = .ok (.ireturn, 1) := by decide +kernel
theorem dX10_start_0 : decode cX10_start 0 = .ok (.iload_n 1, 1) := by decide +kernel
theorem dX10_start_1 : decode cX10_start 1 = .ok (.aload_n 0, 1) := by decide +kernel
theorem dX10_start_2 : decode cX10_start 2 = .ok (.getfield 34, 3) := by decide +kernel
theorem dX10_start_5 : decode cX10_start 5 = .ok (.getfield 156, 3) := by decide +kernel
theorem dX10_start_8 : decode cX10_start 8 = .ok (.invokestatic 62, 3) := by decide +kernel
theorem dX10_start_11 : decode cX10_start 11 = .ok (.ifCond .ne 13, 3) := by decide +kernel
theorem dX10_start_14 : decode cX10_start 14 = .ok (.new 66, 3) := by decide +kernel
theorem dX10_start_17 : decode cX10_start 17 = .ok (.dup, 1) := by decide +kernel
theorem dX10_start_18 : decode cX10_start 18 = .ok (.ldc 161, 2) := by decide +kernel
theorem dX10_start_20 : decode cX10_start 20 = .ok (.invokespecial 70, 3) := by decide +kernel
theorem dX10_start_23 : decode cX10_start 23 = .ok (.athrow, 1) := by decide +kernel
theorem dX10_start_24 : decode cX10_start 24 = .ok (.iload_n 2, 1) := by decide +kernel
theorem dX10_start_25 : decode cX10_start 25 = .ok (.bipush 6, 2) := by decide +kernel
theorem dX10_start_27 : decode cX10_start 27 = .ok (.invokestatic 62, 3) := by decide +kernel
theorem dX10_start_30 : decode cX10_start 30 = .ok (.ifCond .eq 13, 3) := by decide +kernel
theorem dX10_start_33 : decode cX10_start 33 = .ok (.iload_n 3, 1) := by decide +kernel
theorem dX10_start_34 : decode cX10_start 34 = .ok (.ifCond .lt 9, 3) := by decide +kernel
theorem dX10_start_37 : decode cX10_start 37 = .ok (.iload_n 3, 1) := by decide +kernel
theorem dX10_start_38 : decode cX10_start 38 = .ok (.bipush 60, 2) := by decide +kernel
theorem dX10_start_40 : decode cX10_start 40 = .ok (.if_icmp .le 13, 3) := by decide +kernel
theorem dX10_start_43 : decode cX10_start 43 = .ok (.new 57, 3) := by decide +kernel
theorem dX10_start_46 : decode cX10_start 46 = .ok (.dup, 1) := by decide +kernel
theorem dX10_start_47 : decode cX10_start 47 = .ok (.ldc 163, 2) := by decide +kernel
theorem dX10_start_49 : decode cX10_start 49 = .ok (.invokespecial 61, 3) := by decide +kernel
theorem dX10_start_52 : decode cX10_start 52 = .ok (.athrow, 1) := by decide +kernel
theorem dX10_start_53 : decode cX10_start 53 = .ok (.aload_n 0, 1) := by decide +kernel
theorem dX10_start_54 : decode cX10_start 54 = .ok (.getfield 27, 3) := by decide +kernel
theorem dX10_start_57 : decode cX10_start 57 = .ok (.iload_n 2, 1) := by decide +kernel
theorem dX10_start_58 : decode cX10_start 58 = .ok (.aaload, 1) := by decide +kernel
theorem dX10_start_59 : decode cX10_start 59 = .ok (.getfield 165, 3) := by decide +kernel
theorem dX10_start_62 : decode cX10_start 62 = .ok (.ifCond .eq 18, 3) := by decide +kernel
theorem dX10_start_65 : decode cX10_start 65 = .ok (.aload_n 0, 1) := by decide +kernel
theorem dX10_start_66 : decode cX10_start 66 = .ok (.getfield 34, 3) := by decide +kernel
theorem dX10_start_69 : decode cX10_start 69 = .ok (.getfield 168, 3) := by decide +kernel
theorem dX10_start_72 : decode cX10_start 72 = .ok (.iload_n 1, 1) := by decide +kernel
theorem dX10_start_73 : decode cX10_start 73 = .ok (.aaload, 1) := by decide +kernel
theorem dX10_start_74 : decode cX10_start 74 = .ok (.getfield 172, 3) := by decide +kernel
theorem dX10_start_77 : decode cX10_start 77 = .ok (.ifCond .eq 13, 3) := by decide +kernel
theorem dX10_start_80 : decode cX10_start 80 = .ok (.new 46, 3) := by decide +kernel
theorem dX10_start_83 : decode cX10_start 83 = .ok (.dup, 1) := by decide +kernel
theorem dX10_start_84 : decode cX10_start 84 = .ok (.ldc 178, 2) := by decide +kernel
theorem dX10_start_86 : decode cX10_start 86 = .ok (.invokespecial 50, 3) := by decide +kernel
theorem dX10_start_89 : decode cX10_start 89 = .ok (.athrow, 1) := by decide +kernel
theorem dX10_start_90 : decode cX10_start 90 = .ok (.aload_n 0, 1) := by decide +kernel
theorem dX10_start_91 : decode cX10_start 91 = .ok (.getfield 34, 3) := by decide +kernel
theorem dX10_start_94 : decode cX10_start 94 = .ok (.getfield 168, 3) := by decide +kernel
theorem dX10_start_97 : decode cX10_start 97 = .ok (.iload_n 1, 1) := by decide +kernel
theorem dX10_start_98 : decode cX10_start 98 = .ok (.aaload, 1) := by decide +kernel
theorem dX10_start_99 : decode cX10_start 99 = .ok (.aload_n 0, 1) := by decide +kernel
theorem dX10_start_100 : decode cX10_start 100 = .ok (.getfield 27, 3) := by decide +kernel
theorem dX10_start_103 : decode cX10_start 103 = .ok (.iload_n 2, 1) := by decide +kernel
theorem dX10_start_104 : decode cX10_start 104 = .ok (.aaload, 1) := by decide +kernel
theorem dX10_start_105 : decode cX10_start 105 = .ok (.iload_n 2, 1) := by decide +kernel
theorem dX10_start_106 : decode cX10_start 106 = .ok (.iload_n 3, 1) := by decide +kernel
theorem dX10_start_107 : decode cX10_start 107 = .ok (.aload_n 0, 1) := by decide +kernel
theorem dX10_start_108 : decode cX10_start 108 = .ok (.getfield 34, 3) := by decide +kernel
theorem dX10_start_111 : decode cX10_start 111 = .ok (.getfield 180, 3) := by decide +kernel
theorem dX10_start_114 : decode cX10_start 114 = .ok (.invokevirtual 183, 3) := by decide +kernel
theorem dX10_start_117 : decode cX10_start 117 = .ok (.aload_n 0, 1) := by decide +kernel
theorem dX10_start_118 : decode cX10_start 118 = .ok (.getfield 34, 3) := by decide +kernel
theorem dX10_start_121 : decode cX10_start 121 = .ok (.invokevirtual 187, 3) := by decide +kernel
theorem dX10_start_124 : decode cX10_start 124 = .ok (.ireturn, 1) := by decide +kernel
theorem dX10_lend_0 : decode cX10_lend 0 = .ok (.iload_n 1, 1) := by decide +kernel
theorem dX10_lend_1 : decode cX10_lend 1 = .ok (.aload_n 0, 1) := by decide +kernel
theorem dX10_lend_2 : decode cX10_lend 2 = .ok (.getfield 34, 3) := by decide +kernel
theorem dX10_lend_5 : decode cX10_lend 5 = .ok (.getfield 156, 3) := by decide +kernel
theorem dX10_lend_8 : decode cX10_lend 8 = .ok (.invokestatic 62, 3) := by decide +kernel
theorem dX10_lend_11 : decode cX10_lend 11 = .ok (.ifCond .eq 17, 3) := by decide +kernel
theorem dX10_lend_14 : decode cX10_lend 14 = .ok (.iload_n 2, 1) := by decide +kernel
theorem dX10_lend_15 : decode cX10_lend 15 = .ok (.aload_n 0, 1) := by decide +kernel
theorem dX10_lend_16 : decode cX10_lend 16 = .ok (.getfield 34, 3) := by decide +kernel
theorem dX10_lend_19 : decode cX10_lend 19 = .ok (.getfield 156, 3) := by decide +kernel
theorem dX10_lend_22 : decode cX10_lend 22 = .ok (.invokestatic 62, 3) := by decide +kernel
theorem dX10_lend_25 : decode cX10_lend 25 = .ok (.ifCond .ne 13, 3) := by decide +kernel
theorem dX10_lend_28 : decode cX10_lend 28 = .ok (.new 66, 3) := by decide +kernel
theorem dX10_lend_31 : decode cX10_lend 31 = .ok (.dup, 1) := by decide +kernel
theorem dX10_lend_32 : decode cX10_lend 32 = .ok (.ldc 161, 2) := by decide +kernel
theorem dX10_lend_34 : decode cX10_lend 34 = .ok (.invokespecial 70, 3) := by decide +kernel
theorem dX10_lend_37 : decode cX10_lend 37 = .ok (.athrow, 1) := by decide +kernel
theorem dX10_lend_38 : decode cX10_lend 38 = .ok (.iload_n 1, 1) := by decide +kernel
theorem dX10_lend_39 : decode cX10_lend 39 = .ok (.iload_n 2, 1) := by decide +kernel
theorem dX10_lend_40 : decode cX10_lend 40 = .ok (.if_icmp .eq 11, 3) := by decide +kernel
theorem dX10_lend_43 : decode cX10_lend 43 = .ok (.iload_n 3, 1) := by decide +kernel
theorem dX10_lend_44 : decode cX10_lend 44 = .ok (.iconst 5, 1) := by decide +kernel
theorem dX10_lend_45 : decode cX10_lend 45 = .ok (.invokestatic 62, 3) := by decide +kernel
theorem dX10_lend_48 : decode cX10_lend 48 = .ok (.ifCond .ne 13, 3) := by decide +kernel
theorem dX10_lend_51 : decode cX10_lend 51 = .ok (.new 57, 3) := by decide +kernel
theorem dX10_lend_54 : decode cX10_lend 54 = .ok (.dup, 1) := by decide +kernel
theorem dX10_lend_55 : decode cX10_lend 55 = .ok (.ldc 190, 2) := by decide +kernel
theorem dX10_lend_57 : decode cX10_lend 57 = .ok (.invokespecial 61, 3) := by decide +kernel
theorem dX10_lend_60 : decode cX10_lend 60 = .ok (.athrow, 1) := by decide +kernel
theorem dX10_lend_61 : decode cX10_lend 61 = .ok (.aload_n 0, 1) := by decide +kernel
theorem dX10_lend_62 : decode cX10_lend 62 = .ok (.getfield 34, 3) := by decide +kernel
theorem dX10_lend_65 : decode cX10_lend 65 = .ok (.getfield 168, 3) := by decide +kernel
theorem dX10_lend_68 : decode cX10_lend 68 = .ok (.iload_n 1, 1) := by decide +kernel
theorem dX10_lend_69 : decode cX10_lend 69 = .ok (.aaload, 1) := by decide +kernel
theorem dX10_lend_70 : decode cX10_lend 70 = .ok (.astore 4, 2) := by decide +kernel
theorem dX10_lend_72 : decode cX10_lend 72 = .ok (.aload_n 0, 1) := by decide +kernel
theorem dX10_lend_73 : decode cX10_lend 73 = .ok (.getfield 34, 3) := by decide +kernel
theorem dX10_lend_76 : decode cX10_lend 76 = .ok (.getfield 168, 3) := by decide +kernel
theorem dX10_lend_79 : decode cX10_lend 79 = .ok (.iload_n 2, 1) := by decide +kernel
theorem dX10_lend_80 : decode cX10_lend 80 = .ok (.aaload, 1) := by decide +kernel
theorem dX10_lend_81 : decode cX10_lend 81 = .ok (.astore 5, 2) := by decide +kernel
theorem dX10_lend_83 : decode cX10_lend 83 = .ok (.aload 4, 2) := by decide +kernel
theorem dX10_lend_85 : decode cX10_lend 85 = .ok (.iload_n 3, 1) := by decide +kernel
theorem dX10_lend_86 : decode cX10_lend 86 = .ok (.invokevirtual 192, 3) := by decide +kernel
theorem dX10_lend_89 : decode cX10_lend 89 = .ok (.ifCond .eq 20, 3) := by decide +kernel
theorem dX10_lend_92 : decode cX10_lend 92 = .ok (.aload 4, 2) := by decide +kernel
theorem dX10_lend_94 : decode cX10_lend 94 = .ok (.getfield 195, 3) := by decide +kernel
theorem dX10_lend_97 : decode cX10_lend 97 = .ok (.ifCond .ne 12, 3) := by decide +kernel
theorem dX10_lend_100 : decode cX10_lend 100 = .ok (.aload 5, 2) := by decide +kernel
theorem dX10_lend_102 : decode cX10_lend 102 = .ok (.getfield 198, 3) := by decide +kernel
theorem dX10_lend_105 : decode cX10_lend 105 = .ok (.iload_n 3, 1) := by decide +kernel
theorem dX10_lend_106 : decode cX10_lend 106 = .ok (.if_icmp .eq 13, 3) := by decide +kernel
theorem dX10_lend_109 : decode cX10_lend 109 = .ok (.new 46, 3) := by decide +kernel
theorem dX10_lend_112 : decode cX10_lend 112 = .ok (.dup, 1) := by decide +kernel
theorem dX10_lend_113 : decode cX10_lend 113 = .ok (.ldc 201, 2) := by decide +kernel
theorem dX10_lend_115 : decode cX10_lend 115 = .ok (.invokespecial 50, 3) := by decide +kernel
theorem dX10_lend_118 : decode cX10_lend 118 = .ok (.athrow, 1) := by decide +kernel
theorem dX10_lend_119 : decode cX10_lend 119 = .ok (.aload 4, 2) := by decide +kernel
theorem dX10_lend_121 : decode cX10_lend 121 = .ok (.iload_n 3, 1) := by decide +kernel
theorem dX10_lend_122 : decode cX10_lend 122 = .ok (.invokevirtual 203, 3) := by decide +kernel
theorem dX10_lend_125 : decode cX10_lend 125 = .ok (.aload 5, 2) := by decide +kernel
theorem dX10_lend_127 : decode cX10_lend 127 = .ok (.iload_n 3, 1) := by decide +kernel
theorem dX10_lend_128 : decode cX10_lend 128 = .ok (.invokevirtual 206, 3) := by decide +kernel
theorem dX10_lend_131 : decode cX10_lend 131 = .ok (.aload 4, 2) := by decide +kernel
theorem dX10_lend_133 : decode cX10_lend 133 = .ok (.iload_n 3, 1) := by decide +kernel
theorem dX10_lend_134 : decode cX10_lend 134 = .ok (.aload_n 0, 1) := by decide +kernel
theorem dX10_lend_135 : decode cX10_lend 135 = .ok (.getfield 34, 3) := by decide +kernel
theorem dX10_lend_138 : decode cX10_lend 138 = .ok (.getfield 180, 3) := by decide +kernel
theorem dX10_lend_141 : decode cX10_lend 141 = .ok (.iconst 1, 1) := by decide +kernel
theorem dX10_lend_142 : decode cX10_lend 142 = .ok (.invokevirtual 209, 3) := by decide +kernel
theorem dX10_lend_145 : decode cX10_lend 145 = .ok (.aload_n 0, 1) := by decide +kernel
theorem dX10_lend_146 : decode cX10_lend 146 = .ok (.getfield 34, 3) := by decide +kernel
theorem dX10_lend_149 : decode cX10_lend 149 = .ok (.invokevirtual 213, 3) := by decide +kernel
theorem dX10_lend_152 : decode cX10_lend 152 = .ok (.ireturn, 1) := by decide +kernel
theorem dX10_slip_0 : decode cX10_slip 0 = .ok (.iload_n 1, 1) := by decide +kernel
theorem dX10_slip_1 : decode cX10_slip 1 = .ok (.aload_n 0, 1) := by decide +kernel
theorem dX10_slip_2 : decode cX10_slip 2 = .ok (.getfield 34, 3) := by decide +kernel
theorem dX10_slip_5 : decode cX10_slip 5 = .ok (.getfield 156, 3) := by decide +kernel
theorem dX10_slip_8 : decode cX10_slip 8 = .ok (.invokestatic 62, 3) := by decide +kernel
theorem dX10_slip_11 : decode cX10_slip 11 = .ok (.ifCond .eq 12, 3) := by decide +kernel
theorem dX10_slip_14 : decode cX10_slip 14 = .ok (.iload_n 2, 1) := by decide +kernel
theorem dX10_slip_15 : decode cX10_slip 15 = .ok (.bipush 15, 2) := by decide +kernel
theorem dX10_slip_17 : decode cX10_slip 17 = .ok (.invokestatic 62, 3) := by decide +kernel
theorem dX10_slip_20 : decode cX10_slip 20 = .ok (.ifCond .ne 13, 3) := by decide +kernel
theorem dX10_slip_23 : decode cX10_slip 23 = .ok (.new 66, 3) := by decide +kernel
theorem dX10_slip_26 : decode cX10_slip 26 = .ok (.dup, 1) := by decide +kernel
theorem dX10_slip_27 : decode cX10_slip 27 = .ok (.ldc 216, 2) := by decide +kernel
theorem dX10_slip_29 : decode cX10_slip 29 = .ok (.invokespecial 70, 3) := by decide +kernel
theorem dX10_slip_32 : decode cX10_slip 32 = .ok (.athrow, 1) := by decide +kernel
theorem dX10_slip_33 : decode cX10_slip 33 = .ok (.aload_n 0, 1) := by decide +kernel
theorem dX10_slip_34 : decode cX10_slip 34 = .ok (.getfield 34, 3) := by decide +kernel
theorem dX10_slip_37 : decode cX10_slip 37 = .ok (.getfield 168, 3) := by decide +kernel
theorem dX10_slip_40 : decode cX10_slip 40 = .ok (.iload_n 1, 1) := by decide +kernel
theorem dX10_slip_41 : decode cX10_slip 41 = .ok (.aaload, 1) := by decide +kernel
theorem dX10_slip_42 : decode cX10_slip 42 = .ok (.iload_n 2, 1) := by decide +kernel
theorem dX10_slip_43 : decode cX10_slip 43 = .ok (.invokevirtual 218, 3) := by decide +kernel
theorem dX10_slip_46 : decode cX10_slip 46 = .ok (.ireturn, 1) := by decide +kernel
theorem dX10_bend_0 : decode cX10_bend 0 = .ok (.iload_n 1, 1) := by decide +kernel
theorem dX10_bend_1 : decode cX10_bend 1 = .ok (.aload_n 0, 1) := by decide +kernel
theorem dX10_bend_2 : decode cX10_bend 2 = .ok (.getfield 34, 3) := by decide +kernel
theorem dX10_bend_5 : decode cX10_bend 5 = .ok (.getfield 156, 3) := by decide +kernel
theorem dX10_bend_8 : decode cX10_bend 8 = .ok (.invokestatic 62, 3) := by decide +kernel
theorem dX10_bend_11 : decode cX10_bend 11 = .ok (.ifCond .eq 11, 3) := by decide +kernel
theorem dX10_bend_14 : decode cX10_bend 14 = .ok (.iload_n 2, 1) := by decide +kernel
theorem dX10_bend_15 : decode cX10_bend 15 = .ok (.iconst 3, 1) := by decide +kernel
theorem dX10_bend_16 : decode cX10_bend 16 = .ok (.invokestatic 62, 3) := by decide +kernel
theorem dX10_bend_19 : decode cX10_bend 19 = .ok (.ifCond .ne 13, 3) := by decide +kernel
theorem dX10_bend_22 : decode cX10_bend 22 = .ok (.new 66, 3) := by decide +kernel
theorem dX10_bend_25 : decode cX10_bend 25 = .ok (.dup, 1) := by decide +kernel
theorem dX10_bend_26 : decode cX10_bend 26 = .ok (.ldc 219, 2) := by decide +kernel
theorem dX10_bend_28 : decode cX10_bend 28 = .ok (.invokespecial 70, 3) := by decide +kernel
theorem dX10_bend_31 : decode cX10_bend 31 = .ok (.athrow, 1) := by decide +kernel
theorem dX10_bend_32 : decode cX10_bend 32 = .ok (.aload_n 0, 1) := by decide +kernel
theorem dX10_bend_33 : decode cX10_bend 33 = .ok (.getfield 34, 3) := by decide +kernel
theorem dX10_bend_36 : decode cX10_bend 36 = .ok (.getfield 168, 3) := by decide +kernel
theorem dX10_bend_39 : decode cX10_bend 39 = .ok (.iload_n 1, 1) := by decide +kernel
theorem dX10_bend_40 : decode cX10_bend 40 = .ok (.aaload, 1) := by decide +kernel
theorem dX10_bend_41 : decode cX10_bend 41 = .ok (.getfield 221, 3) := by decide +kernel
theorem dX10_bend_44 : decode cX10_bend 44 = .ok (.astore 4, 2) := by decide +kernel
theorem dX10_bend_46 : decode cX10_bend 46 = .ok (.iload_n 3, 1) := by decide +kernel
theorem dX10_bend_47 : decode cX10_bend 47 = .ok (.ifCond .eq 13, 3) := by decide +kernel
theorem dX10_bend_50 : decode cX10_bend 50 = .ok (.aload 4, 2) := by decide +kernel
theorem dX10_bend_52 : decode cX10_bend 52 = .ok (.getfield 225, 3) := by decide +kernel
theorem dX10_bend_55 : decode cX10_bend 55 = .ok (.iload_n 2, 1) := by decide +kernel
theorem dX10_bend_56 : decode cX10_bend 56 = .ok (.iaload, 1) := by decide +kernel
theorem dX10_bend_57 : decode cX10_bend 57 = .ok (.goto 10, 3) := by decide +kernel
theorem dX10_bend_60 : decode cX10_bend 60 = .ok (.aload 4, 2) := by decide +kernel
theorem dX10_bend_62 : decode cX10_bend 62 = .ok (.getfield 230, 3) := by decide +kernel
theorem dX10_bend_65 : decode cX10_bend 65 = .ok (.iload_n 2, 1) := by decide +kernel
theorem dX10_bend_66 : decode cX10_bend 66 = .ok (.iaload, 1) := by decide +kernel
theorem dX10_bend_67 : decode cX10_bend 67 = .ok (.ireturn, 1) := by decide +kernel
theorem dX10_stuck_0 : decode cX10_stuck 0 = .ok (.aload_n 0, 1) := by decide +kernel
theorem dX10_stuck_1 : decode cX10_stuck 1 = .ok (.getfield 34, 3) := by decide +kernel
theorem dX10_stuck_4 : decode cX10_stuck 4 = .ok (.invokevirtual 233, 3) := by decide +kernel
theorem dX10_stuck_7 : decode cX10_stuck 7 = .ok (.ireturn, 1) := by decide +kernel
theorem dX10_run_0 : decode cX10_run 0 = .ok (.iload_n 1, 1) := by decide +kernel
theorem dX10_run_1 : decode cX10_run 1 = .ok (.iconst 1, 1) := by decide +kernel
theorem dX10_run_2 : decode cX10_run 2 = .ok (.if_icmp .lt 10, 3) := by decide +kernel
theorem dX10_run_5 : decode cX10_run 5 = .ok (.iload_n 1, 1) := by decide +kernel
theorem dX10_run_6 : decode cX10_run 6 = .ok (.sipush 200, 3) := by decide +kernel
theorem dX10_run_9 : decode cX10_run 9 = .ok (.if_icmp .le 13, 3) := by decide +kernel
theorem dX10_run_12 : decode cX10_run 12 = .ok (.new 57, 3) := by decide +kernel
theorem dX10_run_15 : decode cX10_run 15 = .ok (.dup, 1) := by decide +kernel
theorem dX10_run_16 : decode cX10_run 16 = .ok (.ldc 236, 2) := by decide +kernel
theorem dX10_run_18 : decode cX10_run 18 = .ok (.invokespecial 61, 3) := by decide +kernel
theorem dX10_run_21 : decode cX10_run 21 = .ok (.athrow, 1) := by decide +kernel
theorem dX10_run_22 : decode cX10_run 22 = .ok (.aload_n 0, 1) := by decide +kernel
theorem dX10_run_23 : decode cX10_run 23 = .ok (.getfield 34, 3) := by decide +kernel
theorem dX10_run_26 : decode cX10_run 26 = .ok (.getfield 238, 3) := by decide +kernel
theorem dX10_run_29 : decode cX10_run 29 = .ok (.istore_n 2, 1) := by decide +kernel
theorem dX10_run_30 : decode cX10_run 30 = .ok (.iconst 0, 1) := by decide +kernel
theorem dX10_run_31 : decode cX10_run 31 = .ok (.istore_n 3, 1) := by decide +kernel
theorem dX10_run_32 : decode cX10_run 32 = .ok (.iload_n 3, 1) := by decide +kernel
theorem dX10_run_33 : decode cX10_run 33 = .ok (.iload_n 1, 1) := by decide +kernel
theorem dX10_run_34 : decode cX10_run 34 = .ok (.if_icmp .ge 16, 3) := by decide +kernel
theorem dX10_run_37 : decode cX10_run 37 = .ok (.aload_n 0, 1) := by decide +kernel
theorem dX10_run_38 : decode cX10_run 38 = .ok (.getfield 34, 3) := by decide +kernel
theorem dX10_run_41 : decode cX10_run 41 = .ok (.invokevirtual 241, 3) := by decide +kernel
theorem dX10_run_44 : decode cX10_run 44 = .ok (.iinc 3 1, 3) := by decide +kernel
theorem dX10_run_47 : decode cX10_run 47 = .ok (.goto (-15), 3) := by decide +kernel
theorem dX10_run_50 : decode cX10_run 50 = .ok (.aload_n 0, 1) := by decide +kernel
theorem dX10_run_51 : decode cX10_run 51 = .ok (.getfield 34, 3) := by decide +kernel
theorem dX10_run_54 : decode cX10_run 54 = .ok (.getfield 238, 3) := by decide +kernel
theorem dX10_run_57 : decode cX10_run 57 = .ok (.iload_n 2, 1) := by decide +kernel
theorem dX10_run_58 : decode cX10_run 58 = .ok (.isub, 1) := by decide +kernel
theorem dX10_run_59 : decode cX10_run 59 = .ok (.ireturn, 1) := by decide +kernel
theorem dX10_count_0 : decode cX10_count 0 = .ok (.iload_n 1, 1) := by decide +kernel
theorem dX10_count_1 : decode cX10_count 1 = .ok (.bipush 9, 2) := by decide +kernel
theorem dX10_count_3 : decode cX10_count 3 = .ok (.invokestatic 62, 3) := by decide +kernel
theorem dX10_count_6 : decode cX10_count 6 = .ok (.ifCond .ne 13, 3) := by decide +kernel
theorem dX10_count_9 : decode cX10_count 9 = .ok (.new 66, 3) := by decide +kernel
theorem dX10_count_12 : decode cX10_count 12 = .ok (.dup, 1) := by decide +kernel
theorem dX10_count_13 : decode cX10_count 13 = .ok (.ldc 244, 2) := by decide +kernel
theorem dX10_count_15 : decode cX10_count 15 = .ok (.invokespecial 70, 3) := by decide +kernel
theorem dX10_count_18 : decode cX10_count 18 = .ok (.athrow, 1) := by decide +kernel
theorem dX10_count_19 : decode cX10_count 19 = .ok (.aload_n 0, 1) := by decide +kernel
theorem dX10_count_20 : decode cX10_count 20 = .ok (.getfield 34, 3) := by decide +kernel
theorem dX10_count_23 : decode cX10_count 23 = .ok (.iload_n 1, 1) := by decide +kernel
theorem dX10_count_24 : decode cX10_count 24 = .ok (.invokevirtual 246, 3) := by decide +kernel
theorem dX10_count_27 : decode cX10_count 27 = .ok (.ireturn, 1) := by decide +kernel
theorem dX10_hull_0 : decode cX10_hull 0 = .ok (.iload_n 1, 1) := by decide +kernel
theorem dX10_hull_1 : decode cX10_hull 1 = .ok (.aload_n 0, 1) := by decide +kernel
theorem dX10_hull_2 : decode cX10_hull 2 = .ok (.getfield 34, 3) := by decide +kernel
theorem dX10_hull_5 : decode cX10_hull 5 = .ok (.invokevirtual 249, 3) := by decide +kernel
theorem dX10_hull_8 : decode cX10_hull 8 = .ok (.invokestatic 62, 3) := by decide +kernel
theorem dX10_hull_11 : decode cX10_hull 11 = .ok (.ifCond .eq 12, 3) := by decide +kernel
theorem dX10_hull_14 : decode cX10_hull 14 = .ok (.iload_n 2, 1) := by decide +kernel
theorem dX10_hull_15 : decode cX10_hull 15 = .ok (.bipush 6, 2) := by decide +kernel
theorem dX10_hull_17 : decode cX10_hull 17 = .ok (.invokestatic 62, 3) := by decide +kernel
theorem dX10_hull_20 : decode cX10_hull 20 = .ok (.ifCond .ne 13, 3) := by decide +kernel
theorem dX10_hull_23 : decode cX10_hull 23 = .ok (.new 66, 3) := by decide +kernel
theorem dX10_hull_26 : decode cX10_hull 26 = .ok (.dup, 1) := by decide +kernel
theorem dX10_hull_27 : decode cX10_hull 27 = .ok (.ldc 252, 2) := by decide +kernel
theorem dX10_hull_29 : decode cX10_hull 29 = .ok (.invokespecial 70, 3) := by decide +kernel
theorem dX10_hull_32 : decode cX10_hull 32 = .ok (.athrow, 1) := by decide +kernel
theorem dX10_hull_33 : decode cX10_hull 33 = .ok (.aload_n 0, 1) := by decide +kernel
theorem dX10_hull_34 : decode cX10_hull 34 = .ok (.getfield 34, 3) := by decide +kernel
theorem dX10_hull_37 : decode cX10_hull 37 = .ok (.getfield 254, 3) := by decide +kernel
theorem dX10_hull_40 : decode cX10_hull 40 = .ok (.iload_n 1, 1) := by decide +kernel
theorem dX10_hull_41 : decode cX10_hull 41 = .ok (.aaload, 1) := by decide +kernel
theorem dX10_hull_42 : decode cX10_hull 42 = .ok (.iload_n 2, 1) := by decide +kernel
theorem dX10_hull_43 : decode cX10_hull 43 = .ok (.iaload, 1) := by decide +kernel
theorem dX10_hull_44 : decode cX10_hull 44 = .ok (.ireturn, 1) := by decide +kernel
theorem dX10_foresee_0 : decode cX10_foresee 0 = .ok (.iload_n 1, 1) := by decide +kernel
theorem dX10_foresee_1 : decode cX10_foresee 1 = .ok (.iconst 1, 1) := by decide +kernel
theorem dX10_foresee_2 : decode cX10_foresee 2 = .ok (.if_icmp .lt 10, 3) := by decide +kernel
theorem dX10_foresee_5 : decode cX10_foresee 5 = .ok (.iload_n 1, 1) := by decide +kernel
theorem dX10_foresee_6 : decode cX10_foresee 6 = .ok (.sipush 200, 3) := by decide +kernel
theorem dX10_foresee_9 : decode cX10_foresee 9 = .ok (.if_icmp .le 13, 3) := by decide +kernel
theorem dX10_foresee_12 : decode cX10_foresee 12 = .ok (.new 57, 3) := by decide +kernel
theorem dX10_foresee_15 : decode cX10_foresee 15 = .ok (.dup, 1) := by decide +kernel
theorem dX10_foresee_16 : decode cX10_foresee 16 = .ok (.ldc 236, 2) := by decide +kernel
theorem dX10_foresee_18 : decode cX10_foresee 18 = .ok (.invokespecial 61, 3) := by decide +kernel
theorem dX10_foresee_21 : decode cX10_foresee 21 = .ok (.athrow, 1) := by decide +kernel
theorem dX10_foresee_22 : decode cX10_foresee 22 = .ok (.iload_n 2, 1) := by decide +kernel
theorem dX10_foresee_23 : decode cX10_foresee 23 = .ok (.iconst 4, 1) := by decide +kernel
theorem dX10_foresee_24 : decode cX10_foresee 24 = .ok (.invokestatic 62, 3) := by decide +kernel
theorem dX10_foresee_27 : decode cX10_foresee 27 = .ok (.ifCond .ne 13, 3) := by decide +kernel
theorem dX10_foresee_30 : decode cX10_foresee 30 = .ok (.new 66, 3) := by decide +kernel
theorem dX10_foresee_33 : decode cX10_foresee 33 = .ok (.dup, 1) := by decide +kernel
theorem dX10_foresee_34 : decode cX10_foresee 34 = .ok (.ldc 244, 2) := by decide +kernel
theorem dX10_foresee_36 : decode cX10_foresee 36 = .ok (.invokespecial 70, 3) := by decide +kernel
theorem dX10_foresee_39 : decode cX10_foresee 39 = .ok (.athrow, 1) := by decide +kernel
theorem dX10_foresee_40 : decode cX10_foresee 40 = .ok (.aload_n 0, 1) := by decide +kernel
theorem dX10_foresee_41 : decode cX10_foresee 41 = .ok (.getfield 38, 3) := by decide +kernel
theorem dX10_foresee_44 : decode cX10_foresee 44 = .ok (.aload_n 0, 1) := by decide +kernel
theorem dX10_foresee_45 : decode cX10_foresee 45 = .ok (.getfield 34, 3) := by decide +kernel
theorem dX10_foresee_48 : decode cX10_foresee 48 = .ok (.invokevirtual 258, 3) := by decide +kernel
theorem dX10_foresee_51 : decode cX10_foresee 51 = .ok (.iconst (-1), 1) := by decide +kernel
theorem dX10_foresee_52 : decode cX10_foresee 52 = .ok (.istore_n 3, 1) := by decide +kernel
theorem dX10_foresee_53 : decode cX10_foresee 53 = .ok (.iconst 0, 1) := by decide +kernel
theorem dX10_foresee_54 : decode cX10_foresee 54 = .ok (.istore 4, 2) := by decide +kernel
theorem dX10_foresee_56 : decode cX10_foresee 56 = .ok (.iload 4, 2) := by decide +kernel
theorem dX10_foresee_58 : decode cX10_foresee 58 = .ok (.iload_n 1, 1) := by decide +kernel
theorem dX10_foresee_59 : decode cX10_foresee 59 = .ok (.if_icmp .ge 45, 3) := by decide +kernel
theorem dX10_foresee_62 : decode cX10_foresee 62 = .ok (.aload_n 0, 1) := by decide +kernel
theorem dX10_foresee_63 : decode cX10_foresee 63 = .ok (.getfield 38, 3) := by decide +kernel
theorem dX10_foresee_66 : decode cX10_foresee 66 = .ok (.invokevirtual 241, 3) := by decide +kernel
theorem dX10_foresee_69 : decode cX10_foresee 69 = .ok (.iload_n 3, 1) := by decide +kernel
theorem dX10_foresee_70 : decode cX10_foresee 70 = .ok (.ifCond .ge 28, 3) := by decide +kernel
theorem dX10_foresee_73 : decode cX10_foresee 73 = .ok (.aload_n 0, 1) := by decide +kernel
theorem dX10_foresee_74 : decode cX10_foresee 74 = .ok (.getfield 38, 3) := by decide +kernel
theorem dX10_foresee_77 : decode cX10_foresee 77 = .ok (.getfield 238, 3) := by decide +kernel
theorem dX10_foresee_80 : decode cX10_foresee 80 = .ok (.aload_n 0, 1) := by decide +kernel
theorem dX10_foresee_81 : decode cX10_foresee 81 = .ok (.getfield 34, 3) := by decide +kernel
theorem dX10_foresee_84 : decode cX10_foresee 84 = .ok (.getfield 238, 3) := by decide +kernel
theorem dX10_foresee_87 : decode cX10_foresee 87 = .ok (.if_icmp .le 11, 3) := by decide +kernel
theorem dX10_foresee_90 : decode cX10_foresee 90 = .ok (.aload_n 0, 1) := by decide +kernel
theorem dX10_foresee_91 : decode cX10_foresee 91 = .ok (.getfield 38, 3) := by decide +kernel
theorem dX10_foresee_94 : decode cX10_foresee 94 = .ok (.getfield 180, 3) := by decide +kernel
theorem dX10_foresee_97 : decode cX10_foresee 97 = .ok (.istore_n 3, 1) := by decide +kernel
theorem dX10_foresee_98 : decode cX10_foresee 98 = .ok (.iinc 4 1, 3) := by decide +kernel
theorem dX10_foresee_101 : decode cX10_foresee 101 = .ok (.goto (-45), 3) := by decide +kernel
theorem dX10_foresee_104 : decode cX10_foresee 104 = .ok (.iload_n 2, 1) := by decide +kernel
theorem dX10_foresee_105 : decode cX10_foresee 105 = .ok (.tableswitch 67 0 2 #[27, 43, 59], 27) := by decide +kernel
theorem dX10_foresee_132 : decode cX10_foresee 132 = .ok (.aload_n 0, 1) := by decide +kernel
theorem dX10_foresee_133 : decode cX10_foresee 133 = .ok (.getfield 38, 3) := by decide +kernel
theorem dX10_foresee_136 : decode cX10_foresee 136 = .ok (.getfield 238, 3) := by decide +kernel
theorem dX10_foresee_139 : decode cX10_foresee 139 = .ok (.aload_n 0, 1) := by decide +kernel
theorem dX10_foresee_140 : decode cX10_foresee 140 = .ok (.getfield 34, 3) := by decide +kernel
theorem dX10_foresee_143 : decode cX10_foresee 143 = .ok (.getfield 238, 3) := by decide +kernel
theorem dX10_foresee_146 : decode cX10_foresee 146 = .ok (.isub, 1) := by decide +kernel
theorem dX10_foresee_147 : decode cX10_foresee 147 = .ok (.ireturn, 1) := by decide +kernel
theorem dX10_foresee_148 : decode cX10_foresee 148 = .ok (.aload_n 0, 1) := by decide +kernel
theorem dX10_foresee_149 : decode cX10_foresee 149 = .ok (.getfield 38, 3) := by decide +kernel
theorem dX10_foresee_152 : decode cX10_foresee 152 = .ok (.getfield 262, 3) := by decide +kernel
theorem dX10_foresee_155 : decode cX10_foresee 155 = .ok (.aload_n 0, 1) := by decide +kernel
theorem dX10_foresee_156 : decode cX10_foresee 156 = .ok (.getfield 34, 3) := by decide +kernel
theorem dX10_foresee_159 : decode cX10_foresee 159 = .ok (.getfield 262, 3) := by decide +kernel
theorem dX10_foresee_162 : decode cX10_foresee 162 = .ok (.isub, 1) := by decide +kernel
theorem dX10_foresee_163 : decode cX10_foresee 163 = .ok (.ireturn, 1) := by decide +kernel
theorem dX10_foresee_164 : decode cX10_foresee 164 = .ok (.aload_n 0, 1) := by decide +kernel
theorem dX10_foresee_165 : decode cX10_foresee 165 = .ok (.getfield 38, 3) := by decide +kernel
theorem dX10_foresee_168 : decode cX10_foresee 168 = .ok (.invokevirtual 233, 3) := by decide +kernel
theorem dX10_foresee_171 : decode cX10_foresee 171 = .ok (.ireturn, 1) := by decide +kernel
theorem dX10_foresee_172 : decode cX10_foresee 172 = .ok (.iload_n 3, 1) := by decide +kernel
theorem dX10_foresee_173 : decode cX10_foresee 173 = .ok (.ireturn, 1) := by decide +kernel
theorem dX10_flaw_0 : decode cX10_flaw 0 = .ok (.iconst 0, 1) := by decide +kernel
theorem dX10_flaw_1 : decode cX10_flaw 1 = .ok (.istore_n 1, 1) := by decide +kernel
theorem dX10_flaw_2 : decode cX10_flaw 2 = .ok (.iconst 0, 1) := by decide +kernel
theorem dX10_flaw_3 : decode cX10_flaw 3 = .ok (.istore_n 2, 1) := by decide +kernel
theorem dX10_flaw_4 : decode cX10_flaw 4 = .ok (.iconst 0, 1) := by decide +kernel
theorem dX10_flaw_5 : decode cX10_flaw 5 = .ok (.istore_n 3, 1) := by decide +kernel
theorem dX10_flaw_6 : decode cX10_flaw 6 = .ok (.iload_n 3, 1) := by decide +kernel
theorem dX10_flaw_7 : decode cX10_flaw 7 = .ok (.aload_n 0, 1) := by decide +kernel
theorem dX10_flaw_8 : decode cX10_flaw 8 = .ok (.getfield 34, 3) := by decide +kernel
theorem dX10_flaw_11 : decode cX10_flaw 11 = .ok (.invokevirtual 249, 3) := by decide +kernel
theorem dX10_flaw_14 : decode cX10_flaw 14 = .ok (.if_icmp .ge 37, 3) := by decide +kernel
theorem dX10_flaw_17 : decode cX10_flaw 17 = .ok (.iload_n 2, 1) := by decide +kernel
theorem dX10_flaw_18 : decode cX10_flaw 18 = .ok (.aload_n 0, 1) := by decide +kernel
theorem dX10_flaw_19 : decode cX10_flaw 19 = .ok (.getfield 34, 3) := by decide +kernel
theorem dX10_flaw_22 : decode cX10_flaw 22 = .ok (.getfield 254, 3) := by decide +kernel
theorem dX10_flaw_25 : decode cX10_flaw 25 = .ok (.iload_n 3, 1) := by decide +kernel
theorem dX10_flaw_26 : decode cX10_flaw 26 = .ok (.aaload, 1) := by decide +kernel
theorem dX10_flaw_27 : decode cX10_flaw 27 = .ok (.iconst 2, 1) := by decide +kernel
theorem dX10_flaw_28 : decode cX10_flaw 28 = .ok (.iaload, 1) := by decide +kernel
theorem dX10_flaw_29 : decode cX10_flaw 29 = .ok (.iadd, 1) := by decide +kernel
theorem dX10_flaw_30 : decode cX10_flaw 30 = .ok (.istore_n 2, 1) := by decide +kernel
theorem dX10_flaw_31 : decode cX10_flaw 31 = .ok (.iload_n 1, 1) := by decide +kernel
theorem dX10_flaw_32 : decode cX10_flaw 32 = .ok (.aload_n 0, 1) := by decide +kernel
theorem dX10_flaw_33 : decode cX10_flaw 33 = .ok (.getfield 34, 3) := by decide +kernel
theorem dX10_flaw_36 : decode cX10_flaw 36 = .ok (.getfield 254, 3) := by decide +kernel
theorem dX10_flaw_39 : decode cX10_flaw 39 = .ok (.iload_n 3, 1) := by decide +kernel
theorem dX10_flaw_40 : decode cX10_flaw 40 = .ok (.aaload, 1) := by decide +kernel
theorem dX10_flaw_41 : decode cX10_flaw 41 = .ok (.iconst 3, 1) := by decide +kernel
theorem dX10_flaw_42 : decode cX10_flaw 42 = .ok (.iaload, 1) := by decide +kernel
theorem dX10_flaw_43 : decode cX10_flaw 43 = .ok (.iadd, 1) := by decide +kernel
theorem dX10_flaw_44 : decode cX10_flaw 44 = .ok (.istore_n 1, 1) := by decide +kernel
theorem dX10_flaw_45 : decode cX10_flaw 45 = .ok (.iinc 3 1, 3) := by decide +kernel
theorem dX10_flaw_48 : decode cX10_flaw 48 = .ok (.goto (-42), 3) := by decide +kernel
theorem dX10_flaw_51 : decode cX10_flaw 51 = .ok (.iload_n 2, 1) := by decide +kernel
theorem dX10_flaw_52 : decode cX10_flaw 52 = .ok (.ifCond .ne 7, 3) := by decide +kernel
theorem dX10_flaw_55 : decode cX10_flaw 55 = .ok (.dconst 0, 1) := by decide +kernel
theorem dX10_flaw_56 : decode cX10_flaw 56 = .ok (.goto 8, 3) := by decide +kernel
theorem dX10_flaw_59 : decode cX10_flaw 59 = .ok (.iload_n 1, 1) := by decide +kernel
theorem dX10_flaw_60 : decode cX10_flaw 60 = .ok (.i2d, 1) := by decide +kernel
theorem dX10_flaw_61 : decode cX10_flaw 61 = .ok (.iload_n 2, 1) := by decide +kernel
theorem dX10_flaw_62 : decode cX10_flaw 62 = .ok (.i2d, 1) := by decide +kernel
theorem dX10_flaw_63 : decode cX10_flaw 63 = .ok (.ddiv, 1) := by decide +kernel
theorem dX10_flaw_64 : decode cX10_flaw 64 = .ok (.dreturn, 1) := by decide +kernel
theorem dX10_digest_0 : decode cX10_digest 0 = .ok (.ldc2_w 265, 3) := by decide +kernel
theorem dX10_digest_3 : decode cX10_digest 3 = .ok (.lstore_n 1, 1) := by decide +kernel
theorem dX10_digest_4 : decode cX10_digest 4 = .ok (.iconst 0, 1) := by decide +kernel
theorem dX10_digest_5 : decode cX10_digest 5 = .ok (.istore_n 3, 1) := by decide +kernel
theorem dX10_digest_6 : decode cX10_digest 6 = .ok (.iload_n 3, 1) := by decide +kernel
theorem dX10_digest_7 : decode cX10_digest 7 = .ok (.bipush 9, 2) := by decide +kernel
theorem dX10_digest_9 : decode cX10_digest 9 = .ok (.if_icmp .ge 25, 3) := by decide +kernel
theorem dX10_digest_12 : decode cX10_digest 12 = .ok (.lload_n 1, 1) := by decide +kernel
theorem dX10_digest_13 : decode cX10_digest 13 = .ok (.ldc2_w 267, 3) := by decide +kernel
theorem dX10_digest_16 : decode cX10_digest 16 = .ok (.lmul, 1) := by decide +kernel
theorem dX10_digest_17 : decode cX10_digest 17 = .ok (.aload_n 0, 1) := by decide +kernel
theorem dX10_digest_18 : decode cX10_digest 18 = .ok (.getfield 34, 3) := by decide +kernel
theorem dX10_digest_21 : decode cX10_digest 21 = .ok (.iload_n 3, 1) := by decide +kernel
theorem dX10_digest_22 : decode cX10_digest 22 = .ok (.invokevirtual 246, 3) := by decide +kernel
theorem dX10_digest_25 : decode cX10_digest 25 = .ok (.i2l, 1) := by decide +kernel
theorem dX10_digest_26 : decode cX10_digest 26 = .ok (.ladd, 1) := by decide +kernel
theorem dX10_digest_27 : decode cX10_digest 27 = .ok (.lstore_n 1, 1) := by decide +kernel
theorem dX10_digest_28 : decode cX10_digest 28 = .ok (.iinc 3 1, 3) := by decide +kernel
theorem dX10_digest_31 : decode cX10_digest 31 = .ok (.goto (-25), 3) := by decide +kernel
theorem dX10_digest_34 : decode cX10_digest 34 = .ok (.iconst 0, 1) := by decide +kernel
theorem dX10_digest_35 : decode cX10_digest 35 = .ok (.istore_n 3, 1) := by decide +kernel
theorem dX10_digest_36 : decode cX10_digest 36 = .ok (.iload_n 3, 1) := by decide +kernel
theorem dX10_digest_37 : decode cX10_digest 37 = .ok (.bipush 6, 2) := by decide +kernel
theorem dX10_digest_39 : decode cX10_digest 39 = .ok (.if_icmp .ge 43, 3) := by decide +kernel
theorem dX10_digest_42 : decode cX10_digest 42 = .ok (.iconst 0, 1) := by decide +kernel
theorem dX10_digest_43 : decode cX10_digest 43 = .ok (.istore 4, 2) := by decide +kernel
theorem dX10_digest_45 : decode cX10_digest 45 = .ok (.iload 4, 2) := by decide +kernel
theorem dX10_digest_47 : decode cX10_digest 47 = .ok (.iconst 4, 1) := by decide +kernel
theorem dX10_digest_48 : decode cX10_digest 48 = .ok (.if_icmp .ge 28, 3) := by decide +kernel
theorem dX10_digest_51 : decode cX10_digest 51 = .ok (.lload_n 1, 1) := by decide +kernel
theorem dX10_digest_52 : decode cX10_digest 52 = .ok (.ldc2_w 267, 3) := by decide +kernel
theorem dX10_digest_55 : decode cX10_digest 55 = .ok (.lmul, 1) := by decide +kernel
theorem dX10_digest_56 : decode cX10_digest 56 = .ok (.aload_n 0, 1) := by decide +kernel
theorem dX10_digest_57 : decode cX10_digest 57 = .ok (.getfield 27, 3) := by decide +kernel
theorem dX10_digest_60 : decode cX10_digest 60 = .ok (.iload_n 3, 1) := by decide +kernel
theorem dX10_digest_61 : decode cX10_digest 61 = .ok (.aaload, 1) := by decide +kernel
theorem dX10_digest_62 : decode cX10_digest 62 = .ok (.iload 4, 2) := by decide +kernel
theorem dX10_digest_64 : decode cX10_digest 64 = .ok (.invokevirtual 84, 3) := by decide +kernel
theorem dX10_digest_67 : decode cX10_digest 67 = .ok (.i2l, 1) := by decide +kernel
theorem dX10_digest_68 : decode cX10_digest 68 = .ok (.ladd, 1) := by decide +kernel
theorem dX10_digest_69 : decode cX10_digest 69 = .ok (.lstore_n 1, 1) := by decide +kernel
theorem dX10_digest_70 : decode cX10_digest 70 = .ok (.iinc 4 1, 3) := by decide +kernel
theorem dX10_digest_73 : decode cX10_digest 73 = .ok (.goto (-28), 3) := by decide +kernel
theorem dX10_digest_76 : decode cX10_digest 76 = .ok (.iinc 3 1, 3) := by decide +kernel
theorem dX10_digest_79 : decode cX10_digest 79 = .ok (.goto (-43), 3) := by decide +kernel
theorem dX10_digest_82 : decode cX10_digest 82 = .ok (.iconst 0, 1) := by decide +kernel
theorem dX10_digest_83 : decode cX10_digest 83 = .ok (.istore_n 3, 1) := by decide +kernel
theorem dX10_digest_84 : decode cX10_digest 84 = .ok (.iload_n 3, 1) := by decide +kernel
theorem dX10_digest_85 : decode cX10_digest 85 = .ok (.aload_n 0, 1) := by decide +kernel
theorem dX10_digest_86 : decode cX10_digest 86 = .ok (.getfield 34, 3) := by decide +kernel
theorem dX10_digest_89 : decode cX10_digest 89 = .ok (.getfield 90, 3) := by decide +kernel
theorem dX10_digest_92 : decode cX10_digest 92 = .ok (.getfield 94, 3) := by decide +kernel
theorem dX10_digest_95 : decode cX10_digest 95 = .ok (.if_icmp .ge 49, 3) := by decide +kernel
theorem dX10_digest_98 : decode cX10_digest 98 = .ok (.iconst 0, 1) := by decide +kernel
theorem dX10_digest_99 : decode cX10_digest 99 = .ok (.istore 4, 2) := by decide +kernel
theorem dX10_digest_101 : decode cX10_digest 101 = .ok (.iload 4, 2) := by decide +kernel
theorem dX10_digest_103 : decode cX10_digest 103 = .ok (.iconst 5, 1) := by decide +kernel
theorem dX10_digest_104 : decode cX10_digest 104 = .ok (.if_icmp .ge 34, 3) := by decide +kernel
theorem dX10_digest_107 : decode cX10_digest 107 = .ok (.lload_n 1, 1) := by decide +kernel
theorem dX10_digest_108 : decode cX10_digest 108 = .ok (.ldc2_w 267, 3) := by decide +kernel
theorem dX10_digest_111 : decode cX10_digest 111 = .ok (.lmul, 1) := by decide +kernel
theorem dX10_digest_112 : decode cX10_digest 112 = .ok (.aload_n 0, 1) := by decide +kernel
theorem dX10_digest_113 : decode cX10_digest 113 = .ok (.getfield 34, 3) := by decide +kernel
theorem dX10_digest_116 : decode cX10_digest 116 = .ok (.getfield 90, 3) := by decide +kernel
theorem dX10_digest_119 : decode cX10_digest 119 = .ok (.getfield 107, 3) := by decide +kernel
theorem dX10_digest_122 : decode cX10_digest 122 = .ok (.iload_n 3, 1) := by decide +kernel
theorem dX10_digest_123 : decode cX10_digest 123 = .ok (.aaload, 1) := by decide +kernel
theorem dX10_digest_124 : decode cX10_digest 124 = .ok (.iload 4, 2) := by decide +kernel
theorem dX10_digest_126 : decode cX10_digest 126 = .ok (.invokevirtual 130, 3) := by decide +kernel
theorem dX10_digest_129 : decode cX10_digest 129 = .ok (.i2l, 1) := by decide +kernel
theorem dX10_digest_130 : decode cX10_digest 130 = .ok (.ladd, 1) := by decide +kernel
theorem dX10_digest_131 : decode cX10_digest 131 = .ok (.lstore_n 1, 1) := by decide +kernel
theorem dX10_digest_132 : decode cX10_digest 132 = .ok (.iinc 4 1, 3) := by decide +kernel
theorem dX10_digest_135 : decode cX10_digest 135 = .ok (.goto (-34), 3) := by decide +kernel
theorem dX10_digest_138 : decode cX10_digest 138 = .ok (.iinc 3 1, 3) := by decide +kernel
theorem dX10_digest_141 : decode cX10_digest 141 = .ok (.goto (-57), 3) := by decide +kernel
theorem dX10_digest_144 : decode cX10_digest 144 = .ok (.iconst 0, 1) := by decide +kernel
theorem dX10_digest_145 : decode cX10_digest 145 = .ok (.istore_n 3, 1) := by decide +kernel
theorem dX10_digest_146 : decode cX10_digest 146 = .ok (.iload_n 3, 1) := by decide +kernel
theorem dX10_digest_147 : decode cX10_digest 147 = .ok (.iconst 5, 1) := by decide +kernel
theorem dX10_digest_148 : decode cX10_digest 148 = .ok (.if_icmp .ge 42, 3) := by decide +kernel
theorem dX10_digest_151 : decode cX10_digest 151 = .ok (.iconst 0, 1) := by decide +kernel
theorem dX10_digest_152 : decode cX10_digest 152 = .ok (.istore 4, 2) := by decide +kernel
theorem dX10_digest_154 : decode cX10_digest 154 = .ok (.iload 4, 2) := by decide +kernel
theorem dX10_digest_156 : decode cX10_digest 156 = .ok (.iconst 3, 1) := by decide +kernel
theorem dX10_digest_157 : decode cX10_digest 157 = .ok (.if_icmp .ge 27, 3) := by decide +kernel
theorem dX10_digest_160 : decode cX10_digest 160 = .ok (.lload_n 1, 1) := by decide +kernel
theorem dX10_digest_161 : decode cX10_digest 161 = .ok (.ldc2_w 267, 3) := by decide +kernel
theorem dX10_digest_164 : decode cX10_digest 164 = .ok (.lmul, 1) := by decide +kernel
theorem dX10_digest_165 : decode cX10_digest 165 = .ok (.aload_n 0, 1) := by decide +kernel
theorem dX10_digest_166 : decode cX10_digest 166 = .ok (.getfield 34, 3) := by decide +kernel
theorem dX10_digest_169 : decode cX10_digest 169 = .ok (.iload_n 3, 1) := by decide +kernel
theorem dX10_digest_170 : decode cX10_digest 170 = .ok (.iload 4, 2) := by decide +kernel
theorem dX10_digest_172 : decode cX10_digest 172 = .ok (.invokevirtual 153, 3) := by decide +kernel
theorem dX10_digest_175 : decode cX10_digest 175 = .ok (.i2l, 1) := by decide +kernel
theorem dX10_digest_176 : decode cX10_digest 176 = .ok (.ladd, 1) := by decide +kernel
theorem dX10_digest_177 : decode cX10_digest 177 = .ok (.lstore_n 1, 1) := by decide +kernel
theorem dX10_digest_178 : decode cX10_digest 178 = .ok (.iinc 4 1, 3) := by decide +kernel
theorem dX10_digest_181 : decode cX10_digest 181 = .ok (.goto (-27), 3) := by decide +kernel
theorem dX10_digest_184 : decode cX10_digest 184 = .ok (.iinc 3 1, 3) := by decide +kernel
theorem dX10_digest_187 : decode cX10_digest 187 = .ok (.goto (-41), 3) := by decide +kernel
theorem dX10_digest_190 : decode cX10_digest 190 = .ok (.iconst 0, 1) := by decide +kernel
theorem dX10_digest_191 : decode cX10_digest 191 = .ok (.istore_n 3, 1) := by decide +kernel
theorem dX10_digest_192 : decode cX10_digest 192 = .ok (.iload_n 3, 1) := by decide +kernel
theorem dX10_digest_193 : decode cX10_digest 193 = .ok (.aload_n 0, 1) := by decide +kernel
theorem dX10_digest_194 : decode cX10_digest 194 = .ok (.getfield 34, 3) := by decide +kernel
theorem dX10_digest_197 : decode cX10_digest 197 = .ok (.getfield 156, 3) := by decide +kernel
theorem dX10_digest_200 : decode cX10_digest 200 = .ok (.if_icmp .ge 23, 3) := by decide +kernel
theorem dX10_digest_203 : decode cX10_digest 203 = .ok (.lload_n 1, 1) := by decide +kernel
theorem dX10_digest_204 : decode cX10_digest 204 = .ok (.aload_n 0, 1) := by decide +kernel
theorem dX10_digest_205 : decode cX10_digest 205 = .ok (.getfield 34, 3) := by decide +kernel
theorem dX10_digest_208 : decode cX10_digest 208 = .ok (.getfield 168, 3) := by decide +kernel
theorem dX10_digest_211 : decode cX10_digest 211 = .ok (.iload_n 3, 1) := by decide +kernel
theorem dX10_digest_212 : decode cX10_digest 212 = .ok (.aaload, 1) := by decide +kernel
theorem dX10_digest_213 : decode cX10_digest 213 = .ok (.invokestatic 269, 3) := by decide +kernel
theorem dX10_digest_216 : decode cX10_digest 216 = .ok (.lstore_n 1, 1) := by decide +kernel
theorem dX10_digest_217 : decode cX10_digest 217 = .ok (.iinc 3 1, 3) := by decide +kernel
theorem dX10_digest_220 : decode cX10_digest 220 = .ok (.goto (-28), 3) := by decide +kernel
theorem dX10_digest_223 : decode cX10_digest 223 = .ok (.iconst 0, 1) := by decide +kernel
theorem dX10_digest_224 : decode cX10_digest 224 = .ok (.istore_n 3, 1) := by decide +kernel
theorem dX10_digest_225 : decode cX10_digest 225 = .ok (.iload_n 3, 1) := by decide +kernel
theorem dX10_digest_226 : decode cX10_digest 226 = .ok (.aload_n 0, 1) := by decide +kernel
theorem dX10_digest_227 : decode cX10_digest 227 = .ok (.getfield 34, 3) := by decide +kernel
theorem dX10_digest_230 : decode cX10_digest 230 = .ok (.invokevirtual 249, 3) := by decide +kernel
theorem dX10_digest_233 : decode cX10_digest 233 = .ok (.if_icmp .ge 45, 3) := by decide +kernel
theorem dX10_digest_236 : decode cX10_digest 236 = .ok (.iconst 0, 1) := by decide +kernel
theorem dX10_digest_237 : decode cX10_digest 237 = .ok (.istore 4, 2) := by decide +kernel
theorem dX10_digest_239 : decode cX10_digest 239 = .ok (.iload 4, 2) := by decide +kernel
theorem dX10_digest_241 : decode cX10_digest 241 = .ok (.bipush 6, 2) := by decide +kernel
theorem dX10_digest_243 : decode cX10_digest 243 = .ok (.if_icmp .ge 29, 3) := by decide +kernel
theorem dX10_digest_246 : decode cX10_digest 246 = .ok (.lload_n 1, 1) := by decide +kernel
theorem dX10_digest_247 : decode cX10_digest 247 = .ok (.ldc2_w 267, 3) := by decide +kernel
theorem dX10_digest_250 : decode cX10_digest 250 = .ok (.lmul, 1) := by decide +kernel
theorem dX10_digest_251 : decode cX10_digest 251 = .ok (.aload_n 0, 1) := by decide +kernel
theorem dX10_digest_252 : decode cX10_digest 252 = .ok (.getfield 34, 3) := by decide +kernel
theorem dX10_digest_255 : decode cX10_digest 255 = .ok (.getfield 254, 3) := by decide +kernel
theorem dX10_digest_258 : decode cX10_digest 258 = .ok (.iload_n 3, 1) := by decide +kernel
theorem dX10_digest_259 : decode cX10_digest 259 = .ok (.aaload, 1) := by decide +kernel
theorem dX10_digest_260 : decode cX10_digest 260 = .ok (.iload 4, 2) := by decide +kernel
theorem dX10_digest_262 : decode cX10_digest 262 = .ok (.iaload, 1) := by decide +kernel
theorem dX10_digest_263 : decode cX10_digest 263 = .ok (.i2l, 1) := by decide +kernel
theorem dX10_digest_264 : decode cX10_digest 264 = .ok (.ladd, 1) := by decide +kernel
theorem dX10_digest_265 : decode cX10_digest 265 = .ok (.lstore_n 1, 1) := by decide +kernel
theorem dX10_digest_266 : decode cX10_digest 266 = .ok (.iinc 4 1, 3) := by decide +kernel
theorem dX10_digest_269 : decode cX10_digest 269 = .ok (.goto (-30), 3) := by decide +kernel
theorem dX10_digest_272 : decode cX10_digest 272 = .ok (.iinc 3 1, 3) := by decide +kernel
theorem dX10_digest_275 : decode cX10_digest 275 = .ok (.goto (-50), 3) := by decide +kernel
theorem dX10_digest_278 : decode cX10_digest 278 = .ok (.lload_n 1, 1) := by decide +kernel
theorem dX10_digest_279 : decode cX10_digest 279 = .ok (.lreturn, 1) := by decide +kernel
theorem dX10_digestOfSlip_0 : decode cX10_digestOfSlip 0 = .ok (.lload_n 0, 1) := by decide +kernel
theorem dX10_digestOfSlip_1 : decode cX10_digestOfSlip 1 = .ok (.lstore_n 3, 1) := by decide +kernel
theorem dX10_digestOfSlip_2 : decode cX10_digestOfSlip 2 = .ok (.iconst 0, 1) := by decide +kernel
theorem dX10_digestOfSlip_3 : decode cX10_digestOfSlip 3 = .ok (.istore 5, 2) := by decide +kernel
theorem dX10_digestOfSlip_5 : decode cX10_digestOfSlip 5 = .ok (.iload 5, 2) := by decide +kernel
theorem dX10_digestOfSlip_7 : decode cX10_digestOfSlip 7 = .ok (.bipush 15, 2) := by decide +kernel
theorem dX10_digestOfSlip_9 : decode cX10_digestOfSlip 9 = .ok (.if_icmp .ge 23, 3) := by decide +kernel
theorem dX10_digestOfSlip_12 : decode cX10_digestOfSlip 12 = .ok (.lload_n 3, 1) := by decide +kernel
theorem dX10_digestOfSlip_13 : decode cX10_digestOfSlip 13 = .ok (.ldc2_w 267, 3) := by decide +kernel
theorem dX10_digestOfSlip_16 : decode cX10_digestOfSlip 16 = .ok (.lmul, 1) := by decide +kernel
theorem dX10_digestOfSlip_17 : decode cX10_digestOfSlip 17 = .ok (.aload_n 2, 1) := by decide +kernel
theorem dX10_digestOfSlip_18 : decode cX10_digestOfSlip 18 = .ok (.iload 5, 2) := by decide +kernel
theorem dX10_digestOfSlip_20 : decode cX10_digestOfSlip 20 = .ok (.invokevirtual 218, 3) := by decide +kernel
theorem dX10_digestOfSlip_23 : decode cX10_digestOfSlip 23 = .ok (.i2l, 1) := by decide +kernel
theorem dX10_digestOfSlip_24 : decode cX10_digestOfSlip 24 = .ok (.ladd, 1) := by decide +kernel
theorem dX10_digestOfSlip_25 : decode cX10_digestOfSlip 25 = .ok (.lstore_n 3, 1) := by decide +kernel
theorem dX10_digestOfSlip_26 : decode cX10_digestOfSlip 26 = .ok (.iinc 5 1, 3) := by decide +kernel
theorem dX10_digestOfSlip_29 : decode cX10_digestOfSlip 29 = .ok (.goto (-24), 3) := by decide +kernel
theorem dX10_digestOfSlip_32 : decode cX10_digestOfSlip 32 = .ok (.iconst 0, 1) := by decide +kernel
theorem dX10_digestOfSlip_33 : decode cX10_digestOfSlip 33 = .ok (.istore 5, 2) := by decide +kernel
theorem dX10_digestOfSlip_35 : decode cX10_digestOfSlip 35 = .ok (.iload 5, 2) := by decide +kernel
theorem dX10_digestOfSlip_37 : decode cX10_digestOfSlip 37 = .ok (.iconst 3, 1) := by decide +kernel
theorem dX10_digestOfSlip_38 : decode cX10_digestOfSlip 38 = .ok (.if_icmp .ge 27, 3) := by decide +kernel
theorem dX10_digestOfSlip_41 : decode cX10_digestOfSlip 41 = .ok (.lload_n 3, 1) := by decide +kernel
theorem dX10_digestOfSlip_42 : decode cX10_digestOfSlip 42 = .ok (.ldc2_w 267, 3) := by decide +kernel
theorem dX10_digestOfSlip_45 : decode cX10_digestOfSlip 45 = .ok (.lmul, 1) := by decide +kernel
theorem dX10_digestOfSlip_46 : decode cX10_digestOfSlip 46 = .ok (.aload_n 2, 1) := by decide +kernel
theorem dX10_digestOfSlip_47 : decode cX10_digestOfSlip 47 = .ok (.getfield 221, 3) := by decide +kernel
theorem dX10_digestOfSlip_50 : decode cX10_digestOfSlip 50 = .ok (.getfield 230, 3) := by decide +kernel
theorem dX10_digestOfSlip_53 : decode cX10_digestOfSlip 53 = .ok (.iload 5, 2) := by decide +kernel
theorem dX10_digestOfSlip_55 : decode cX10_digestOfSlip 55 = .ok (.iaload, 1) := by decide +kernel
theorem dX10_digestOfSlip_56 : decode cX10_digestOfSlip 56 = .ok (.i2l, 1) := by decide +kernel
theorem dX10_digestOfSlip_57 : decode cX10_digestOfSlip 57 = .ok (.ladd, 1) := by decide +kernel
theorem dX10_digestOfSlip_58 : decode cX10_digestOfSlip 58 = .ok (.lstore_n 3, 1) := by decide +kernel
theorem dX10_digestOfSlip_59 : decode cX10_digestOfSlip 59 = .ok (.iinc 5 1, 3) := by decide +kernel
theorem dX10_digestOfSlip_62 : decode cX10_digestOfSlip 62 = .ok (.goto (-27), 3) := by decide +kernel
theorem dX10_digestOfSlip_65 : decode cX10_digestOfSlip 65 = .ok (.iconst 0, 1) := by decide +kernel
theorem dX10_digestOfSlip_66 : decode cX10_digestOfSlip 66 = .ok (.istore 5, 2) := by decide +kernel
theorem dX10_digestOfSlip_68 : decode cX10_digestOfSlip 68 = .ok (.iload 5, 2) := by decide +kernel
theorem dX10_digestOfSlip_70 : decode cX10_digestOfSlip 70 = .ok (.iconst 3, 1) := by decide +kernel
theorem dX10_digestOfSlip_71 : decode cX10_digestOfSlip 71 = .ok (.if_icmp .ge 27, 3) := by decide +kernel
theorem dX10_digestOfSlip_74 : decode cX10_digestOfSlip 74 = .ok (.lload_n 3, 1) := by decide +kernel
theorem dX10_digestOfSlip_75 : decode cX10_digestOfSlip 75 = .ok (.ldc2_w 267, 3) := by decide +kernel
theorem dX10_digestOfSlip_78 : decode cX10_digestOfSlip 78 = .ok (.lmul, 1) := by decide +kernel
theorem dX10_digestOfSlip_79 : decode cX10_digestOfSlip 79 = .ok (.aload_n 2, 1) := by decide +kernel
theorem dX10_digestOfSlip_80 : decode cX10_digestOfSlip 80 = .ok (.getfield 221, 3) := by decide +kernel
theorem dX10_digestOfSlip_83 : decode cX10_digestOfSlip 83 = .ok (.getfield 225, 3) := by decide +kernel
theorem dX10_digestOfSlip_86 : decode cX10_digestOfSlip 86 = .ok (.iload 5, 2) := by decide +kernel
theorem dX10_digestOfSlip_88 : decode cX10_digestOfSlip 88 = .ok (.iaload, 1) := by decide +kernel
theorem dX10_digestOfSlip_89 : decode cX10_digestOfSlip 89 = .ok (.i2l, 1) := by decide +kernel
theorem dX10_digestOfSlip_90 : decode cX10_digestOfSlip 90 = .ok (.ladd, 1) := by decide +kernel
theorem dX10_digestOfSlip_91 : decode cX10_digestOfSlip 91 = .ok (.lstore_n 3, 1) := by decide +kernel
theorem dX10_digestOfSlip_92 : decode cX10_digestOfSlip 92 = .ok (.iinc 5 1, 3) := by decide +kernel
theorem dX10_digestOfSlip_95 : decode cX10_digestOfSlip 95 = .ok (.goto (-27), 3) := by decide +kernel
theorem dX10_digestOfSlip_98 : decode cX10_digestOfSlip 98 = .ok (.lload_n 3, 1) := by decide +kernel
theorem dX10_digestOfSlip_99 : decode cX10_digestOfSlip 99 = .ok (.lreturn, 1) := by decide +kernel
theorem dX10_isBelow_0 : decode cX10_isBelow 0 = .ok (.iload_n 0, 1) := by decide +kernel
theorem dX10_isBelow_1 : decode cX10_isBelow 1 = .ok (.ifCond .lt 12, 3) := by decide +kernel
theorem dX10_isBelow_4 : decode cX10_isBelow 4 = .ok (.iload_n 0, 1) := by decide +kernel
theorem dX10_isBelow_5 : decode cX10_isBelow 5 = .ok (.iload_n 1, 1) := by decide +kernel
theorem dX10_isBelow_6 : decode cX10_isBelow 6 = .ok (.if_icmp .ge 7, 3) := by decide +kernel
theorem dX10_isBelow_9 : decode cX10_isBelow 9 = .ok (.iconst 1, 1) := by decide +kernel
theorem dX10_isBelow_10 : decode cX10_isBelow 10 = .ok (.goto 4, 3) := by decide +kernel
theorem dX10_isBelow_13 : decode cX10_isBelow 13 = .ok (.iconst 0, 1) := by decide +kernel
theorem dX10_isBelow_14 : decode cX10_isBelow 14 = .ok (.ireturn, 1) := by decide +kernel
theorem dX10_nearer_0 : decode cX10_nearer 0 = .ok (.iload_n 1, 1) := by decide +kernel
theorem dX10_nearer_1 : decode cX10_nearer 1 = .ok (.iload_n 0, 1) := by decide +kernel
theorem dX10_nearer_2 : decode cX10_nearer 2 = .ok (.isub, 1) := by decide +kernel
theorem dX10_nearer_3 : decode cX10_nearer 3 = .ok (.invokestatic 273, 3) := by decide +kernel
theorem dX10_nearer_6 : decode cX10_nearer 6 = .ok (.iload_n 2, 1) := by decide +kernel
theorem dX10_nearer_7 : decode cX10_nearer 7 = .ok (.if_icmp .gt 5, 3) := by decide +kernel
theorem dX10_nearer_10 : decode cX10_nearer 10 = .ok (.iload_n 1, 1) := by decide +kernel
theorem dX10_nearer_11 : decode cX10_nearer 11 = .ok (.ireturn, 1) := by decide +kernel
theorem dX10_nearer_12 : decode cX10_nearer 12 = .ok (.iload_n 0, 1) := by decide +kernel
theorem dX10_nearer_13 : decode cX10_nearer 13 = .ok (.iload_n 1, 1) := by decide +kernel
theorem dX10_nearer_14 : decode cX10_nearer 14 = .ok (.if_icmp .ge 9, 3) := by decide +kernel
theorem dX10_nearer_17 : decode cX10_nearer 17 = .ok (.iload_n 0, 1) := by decide +kernel
theorem dX10_nearer_18 : decode cX10_nearer 18 = .ok (.iload_n 2, 1) := by decide +kernel
theorem dX10_nearer_19 : decode cX10_nearer 19 = .ok (.iadd, 1) := by decide +kernel
theorem dX10_nearer_20 : decode cX10_nearer 20 = .ok (.goto 6, 3) := by decide +kernel
theorem dX10_nearer_23 : decode cX10_nearer 23 = .ok (.iload_n 0, 1) := by decide +kernel
theorem dX10_nearer_24 : decode cX10_nearer 24 = .ok (.iload_n 2, 1) := by decide +kernel
theorem dX10_nearer_25 : decode cX10_nearer 25 = .ok (.isub, 1) := by decide +kernel
theorem dX10_nearer_26 : decode cX10_nearer 26 = .ok (.ireturn, 1) := by decide +kernel
theorem dX11_init_0 : decode cX11_init 0 = .ok (.aload_n 0, 1) := by decide +kernel
theorem dX11_init_1 : decode cX11_init 1 = .ok (.invokespecial 3, 3) := by decide +kernel
theorem dX11_init_4 : decode cX11_init 4 = .ok (.aload_n 0, 1) := by decide +kernel
theorem dX11_init_5 : decode cX11_init 5 = .ok (.bipush 60, 2) := by decide +kernel
theorem dX11_init_7 : decode cX11_init 7 = .ok (.newarray .int, 2) := by decide +kernel
theorem dX11_init_9 : decode cX11_init 9 = .ok (.putfield 9, 3) := by decide +kernel
theorem dX11_init_12 : decode cX11_init 12 = .ok (.aload_n 0, 1) := by decide +kernel
theorem dX11_init_13 : decode cX11_init 13 = .ok (.bipush 60, 2) := by decide +kernel
theorem dX11_init_15 : decode cX11_init 15 = .ok (.newarray .int, 2) := by decide +kernel
theorem dX11_init_17 : decode cX11_init 17 = .ok (.putfield 15, 3) := by decide +kernel
theorem dX11_init_20 : decode cX11_init 20 = .ok (.aload_n 0, 1) := by decide +kernel
theorem dX11_init_21 : decode cX11_init 21 = .ok (.bipush 60, 2) := by decide +kernel
theorem dX11_init_23 : decode cX11_init 23 = .ok (.newarray .int, 2) := by decide +kernel
theorem dX11_init_25 : decode cX11_init 25 = .ok (.putfield 18, 3) := by decide +kernel
theorem dX11_init_28 : decode cX11_init 28 = .ok (.aload_n 0, 1) := by decide +kernel
theorem dX11_init_29 : decode cX11_init 29 = .ok (.bipush 60, 2) := by decide +kernel
theorem dX11_init_31 : decode cX11_init 31 = .ok (.newarray .int, 2) := by decide +kernel
theorem dX11_init_33 : decode cX11_init 33 = .ok (.putfield 21, 3) := by decide +kernel
theorem dX11_init_36 : decode cX11_init 36 = .ok (.aload_n 0, 1) := by decide +kernel
theorem dX11_init_37 : decode cX11_init 37 = .ok (.sipush 480, 3) := by decide +kernel
theorem dX11_init_40 : decode cX11_init 40 = .ok (.newarray .int, 2) := by decide +kernel
theorem dX11_init_42 : decode cX11_init 42 = .ok (.putfield 24, 3) := by decide +kernel
theorem dX11_init_45 : decode cX11_init 45 = .ok (.aload_n 0, 1) := by decide +kernel
theorem dX11_init_46 : decode cX11_init 46 = .ok (.iconst 5, 1) := by decide +kernel
theorem dX11_init_47 : decode cX11_init 47 = .ok (.newarray .int, 2) := by decide +kernel
theorem dX11_init_49 : decode cX11_init 49 = .ok (.putfield 27, 3) := by decide +kernel
theorem dX11_init_52 : decode cX11_init 52 = .ok (.aload_n 0, 1) := by decide +kernel
theorem dX11_init_53 : decode cX11_init 53 = .ok (.bipush 6, 2) := by decide +kernel
theorem dX11_init_55 : decode cX11_init 55 = .ok (.newarray .int, 2) := by decide +kernel
theorem dX11_init_57 : decode cX11_init 57 = .ok (.dup, 1) := by decide +kernel
theorem dX11_init_58 : decode cX11_init 58 = .ok (.iconst 0, 1) := by decide +kernel
theorem dX11_init_59 : decode cX11_init 59 = .ok (.iconst (-1), 1) := by decide +kernel
theorem dX11_init_60 : decode cX11_init 60 = .ok (.iastore, 1) := by decide +kernel
theorem dX11_init_61 : decode cX11_init 61 = .ok (.dup, 1) := by decide +kernel
theorem dX11_init_62 : decode cX11_init 62 = .ok (.iconst 1, 1) := by decide +kernel
theorem dX11_init_63 : decode cX11_init 63 = .ok (.iconst (-1), 1) := by decide +kernel
theorem dX11_init_64 : decode cX11_init 64 = .ok (.iastore, 1) := by decide +kernel
theorem dX11_init_65 : decode cX11_init 65 = .ok (.dup, 1) := by decide +kernel
theorem dX11_init_66 : decode cX11_init 66 = .ok (.iconst 2, 1) := by decide +kernel
theorem dX11_init_67 : decode cX11_init 67 = .ok (.iconst (-1), 1) := by decide +kernel
theorem dX11_init_68 : decode cX11_init 68 = .ok (.iastore, 1) := by decide +kernel
theorem dX11_init_69 : decode cX11_init 69 = .ok (.dup, 1) := by decide +kernel
theorem dX11_init_70 : decode cX11_init 70 = .ok (.iconst 3, 1) := by decide +kernel
theorem dX11_init_71 : decode cX11_init 71 = .ok (.iconst (-1), 1) := by decide +kernel
theorem dX11_init_72 : decode cX11_init 72 = .ok (.iastore, 1) := by decide +kernel
theorem dX11_init_73 : decode cX11_init 73 = .ok (.dup, 1) := by decide +kernel
theorem dX11_init_74 : decode cX11_init 74 = .ok (.iconst 4, 1) := by decide +kernel
theorem dX11_init_75 : decode cX11_init 75 = .ok (.iconst (-1), 1) := by decide +kernel
theorem dX11_init_76 : decode cX11_init 76 = .ok (.iastore, 1) := by decide +kernel
theorem dX11_init_77 : decode cX11_init 77 = .ok (.dup, 1) := by decide +kernel
theorem dX11_init_78 : decode cX11_init 78 = .ok (.iconst 5, 1) := by decide +kernel
theorem dX11_init_79 : decode cX11_init 79 = .ok (.iconst (-1), 1) := by decide +kernel
theorem dX11_init_80 : decode cX11_init 80 = .ok (.iastore, 1) := by decide +kernel
theorem dX11_init_81 : decode cX11_init 81 = .ok (.putfield 30, 3) := by decide +kernel
theorem dX11_init_84 : decode cX11_init 84 = .ok (.aload_n 0, 1) := by decide +kernel
theorem dX11_init_85 : decode cX11_init 85 = .ok (.bipush 6, 2) := by decide +kernel
theorem dX11_init_87 : decode cX11_init 87 = .ok (.newarray .boolean, 2) := by decide +kernel
theorem dX11_init_89 : decode cX11_init 89 = .ok (.putfield 33, 3) := by decide +kernel
theorem dX11_init_92 : decode cX11_init 92 = .ok (.aload_n 0, 1) := by decide +kernel
theorem dX11_init_93 : decode cX11_init 93 = .ok (.bipush 6, 2) := by decide +kernel
theorem dX11_init_95 : decode cX11_init 95 = .ok (.newarray .int, 2) := by decide +kernel
theorem dX11_init_97 : decode cX11_init 97 = .ok (.putfield 37, 3) := by decide +kernel
theorem dX11_init_100 : decode cX11_init 100 = .ok (.aload_n 0, 1) := by decide +kernel
theorem dX11_init_101 : decode cX11_init 101 = .ok (.bipush 6, 2) := by decide +kernel
theorem dX11_init_103 : decode cX11_init 103 = .ok (.newarray .int, 2) := by decide +kernel
theorem dX11_init_105 : decode cX11_init 105 = .ok (.putfield 40, 3) := by decide +kernel
theorem dX11_init_108 : decode cX11_init 108 = .ok (.aload_n 0, 1) := by decide +kernel
theorem dX11_init_109 : decode cX11_init 109 = .ok (.sipush 1440, 3) := by decide +kernel
theorem dX11_init_112 : decode cX11_init 112 = .ok (.newarray .int, 2) := by decide +kernel
theorem dX11_init_114 : decode cX11_init 114 = .ok (.putfield 43, 3) := by decide +kernel
theorem dX11_init_117 : decode cX11_init 117 = .ok (.aload_n 0, 1) := by decide +kernel
theorem dX11_init_118 : decode cX11_init 118 = .ok (.bipush 6, 2) := by decide +kernel
theorem dX11_init_120 : decode cX11_init 120 = .ok (.newarray .int, 2) := by decide +kernel
theorem dX11_init_122 : decode cX11_init 122 = .ok (.putfield 46, 3) := by decide +kernel
theorem dX11_init_125 : decode cX11_init 125 = .ok (.aload_n 0, 1) := by decide +kernel
theorem dX11_init_126 : decode cX11_init 126 = .ok (.bipush 6, 2) := by decide +kernel
theorem dX11_init_128 : decode cX11_init 128 = .ok (.newarray .int, 2) := by decide +kernel
theorem dX11_init_130 : decode cX11_init 130 = .ok (.putfield 49, 3) := by decide +kernel
theorem dX11_init_133 : decode cX11_init 133 = .ok (.aload_n 0, 1) := by decide +kernel
theorem dX11_init_134 : decode cX11_init 134 = .ok (.bipush 6, 2) := by decide +kernel
theorem dX11_init_136 : decode cX11_init 136 = .ok (.newarray .int, 2) := by decide +kernel
theorem dX11_init_138 : decode cX11_init 138 = .ok (.putfield 52, 3) := by decide +kernel
theorem dX11_init_141 : decode cX11_init 141 = .ok (.aload_n 0, 1) := by decide +kernel
theorem dX11_init_142 : decode cX11_init 142 = .ok (.bipush 6, 2) := by decide +kernel
theorem dX11_init_144 : decode cX11_init 144 = .ok (.newarray .int, 2) := by decide +kernel
theorem dX11_init_146 : decode cX11_init 146 = .ok (.putfield 55, 3) := by decide +kernel
theorem dX11_init_149 : decode cX11_init 149 = .ok (.aload_n 0, 1) := by decide +kernel
theorem dX11_init_150 : decode cX11_init 150 = .ok (.bipush 6, 2) := by decide +kernel
theorem dX11_init_152 : decode cX11_init 152 = .ok (.newarray .int, 2) := by decide +kernel
theorem dX11_init_154 : decode cX11_init 154 = .ok (.putfield 58, 3) := by decide +kernel
theorem dX11_init_157 : decode cX11_init 157 = .ok (.aload_n 0, 1) := by decide +kernel
theorem dX11_init_158 : decode cX11_init 158 = .ok (.bipush 6, 2) := by decide +kernel
theorem dX11_init_160 : decode cX11_init 160 = .ok (.newarray .int, 2) := by decide +kernel
theorem dX11_init_162 : decode cX11_init 162 = .ok (.putfield 61, 3) := by decide +kernel
theorem dX11_init_165 : decode cX11_init 165 = .ok (.aload_n 0, 1) := by decide +kernel
theorem dX11_init_166 : decode cX11_init 166 = .ok (.bipush 6, 2) := by decide +kernel
theorem dX11_init_168 : decode cX11_init 168 = .ok (.newarray .int, 2) := by decide +kernel
theorem dX11_init_170 : decode cX11_init 170 = .ok (.dup, 1) := by decide +kernel
theorem dX11_init_171 : decode cX11_init 171 = .ok (.iconst 0, 1) := by decide +kernel
theorem dX11_init_172 : decode cX11_init 172 = .ok (.iconst (-1), 1) := by decide +kernel
theorem dX11_init_173 : decode cX11_init 173 = .ok (.iastore, 1) := by decide +kernel
theorem dX11_init_174 : decode cX11_init 174 = .ok (.dup, 1) := by decide +kernel
theorem dX11_init_175 : decode cX11_init 175 = .ok (.iconst 1, 1) := by decide +kernel
theorem dX11_init_176 : decode cX11_init 176 = .ok (.iconst (-1), 1) := by decide +kernel
theorem dX11_init_177 : decode cX11_init 177 = .ok (.iastore, 1) := by decide +kernel
theorem dX11_init_178 : decode cX11_init 178 = .ok (.dup, 1) := by decide +kernel
theorem dX11_init_179 : decode cX11_init 179 = .ok (.iconst 2, 1) := by decide +kernel
theorem dX11_init_180 : decode cX11_init 180 = .ok (.iconst (-1), 1) := by decide +kernel
theorem dX11_init_181 : decode cX11_init 181 = .ok (.iastore, 1) := by decide +kernel
theorem dX11_init_182 : decode cX11_init 182 = .ok (.dup, 1) := by decide +kernel
theorem dX11_init_183 : decode cX11_init 183 = .ok (.iconst 3, 1) := by decide +kernel
theorem dX11_init_184 : decode cX11_init 184 = .ok (.iconst (-1), 1) := by decide +kernel
theorem dX11_init_185 : decode cX11_init 185 = .ok (.iastore, 1) := by decide +kernel
theorem dX11_init_186 : decode cX11_init 186 = .ok (.dup, 1) := by decide +kernel
theorem dX11_init_187 : decode cX11_init 187 = .ok (.iconst 4, 1) := by decide +kernel
theorem dX11_init_188 : decode cX11_init 188 = .ok (.iconst (-1), 1) := by decide +kernel
theorem dX11_init_189 : decode cX11_init 189 = .ok (.iastore, 1) := by decide +kernel
theorem dX11_init_190 : decode cX11_init 190 = .ok (.dup, 1) := by decide +kernel
theorem dX11_init_191 : decode cX11_init 191 = .ok (.iconst 5, 1) := by decide +kernel
theorem dX11_init_192 : decode cX11_init 192 = .ok (.iconst (-1), 1) := by decide +kernel
theorem dX11_init_193 : decode cX11_init 193 = .ok (.iastore, 1) := by decide +kernel
theorem dX11_init_194 : decode cX11_init 194 = .ok (.putfield 64, 3) := by decide +kernel
theorem dX11_init_197 : decode cX11_init 197 = .ok (.aload_n 0, 1) := by decide +kernel
theorem dX11_init_198 : decode cX11_init 198 = .ok (.bipush 6, 2) := by decide +kernel
theorem dX11_init_200 : decode cX11_init 200 = .ok (.newarray .int, 2) := by decide +kernel
theorem dX11_init_202 : decode cX11_init 202 = .ok (.putfield 67, 3) := by decide +kernel
theorem dX11_init_205 : decode cX11_init 205 = .ok (.aload_n 0, 1) := by decide +kernel
theorem dX11_init_206 : decode cX11_init 206 = .ok (.bipush 6, 2) := by decide +kernel
theorem dX11_init_208 : decode cX11_init 208 = .ok (.newarray .int, 2) := by decide +kernel
theorem dX11_init_210 : decode cX11_init 210 = .ok (.dup, 1) := by decide +kernel
theorem dX11_init_211 : decode cX11_init 211 = .ok (.iconst 0, 1) := by decide +kernel
theorem dX11_init_212 : decode cX11_init 212 = .ok (.iconst (-1), 1) := by decide +kernel
theorem dX11_init_213 : decode cX11_init 213 = .ok (.iastore, 1) := by decide +kernel
theorem dX11_init_214 : decode cX11_init 214 = .ok (.dup, 1) := by decide +kernel
theorem dX11_init_215 : decode cX11_init 215 = .ok (.iconst 1, 1) := by decide +kernel
theorem dX11_init_216 : decode cX11_init 216 = .ok (.iconst (-1), 1) := by decide +kernel
theorem dX11_init_217 : decode cX11_init 217 = .ok (.iastore, 1) := by decide +kernel
theorem dX11_init_218 : decode cX11_init 218 = .ok (.dup, 1) := by decide +kernel
theorem dX11_init_219 : decode cX11_init 219 = .ok (.iconst 2, 1) := by decide +kernel
theorem dX11_init_220 : decode cX11_init 220 = .ok (.iconst (-1), 1) := by decide +kernel
theorem dX11_init_221 : decode cX11_init 221 = .ok (.iastore, 1) := by decide +kernel
theorem dX11_init_222 : decode cX11_init 222 = .ok (.dup, 1) := by decide +kernel
theorem dX11_init_223 : decode cX11_init 223 = .ok (.iconst 3, 1) := by decide +kernel
theorem dX11_init_224 : decode cX11_init 224 = .ok (.iconst (-1), 1) := by decide +kernel
theorem dX11_init_225 : decode cX11_init 225 = .ok (.iastore, 1) := by decide +kernel
theorem dX11_init_226 : decode cX11_init 226 = .ok (.dup, 1) := by decide +kernel
theorem dX11_init_227 : decode cX11_init 227 = .ok (.iconst 4, 1) := by decide +kernel
theorem dX11_init_228 : decode cX11_init 228 = .ok (.iconst (-1), 1) := by decide +kernel
theorem dX11_init_229 : decode cX11_init 229 = .ok (.iastore, 1) := by decide +kernel
