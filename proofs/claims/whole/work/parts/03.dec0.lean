theorem dX0_init_0 : decode cX0_init 0 = .ok (.aload_n 0, 1) := by decide +kernel
theorem dX0_init_1 : decode cX0_init 1 = .ok (.invokespecial 3, 3) := by decide +kernel
theorem dX0_init_4 : decode cX0_init 4 = .ok (.aload_n 0, 1) := by decide +kernel
theorem dX0_init_5 : decode cX0_init 5 = .ok (.bipush 6, 2) := by decide +kernel
theorem dX0_init_7 : decode cX0_init 7 = .ok (.newarray .int, 2) := by decide +kernel
theorem dX0_init_9 : decode cX0_init 9 = .ok (.putfield 11, 3) := by decide +kernel
theorem dX0_init_12 : decode cX0_init 12 = .ok (.aload_n 0, 1) := by decide +kernel
theorem dX0_init_13 : decode cX0_init 13 = .ok (.bipush 6, 2) := by decide +kernel
theorem dX0_init_15 : decode cX0_init 15 = .ok (.newarray .int, 2) := by decide +kernel
theorem dX0_init_17 : decode cX0_init 17 = .ok (.putfield 15, 3) := by decide +kernel
theorem dX0_init_20 : decode cX0_init 20 = .ok (.aload_n 0, 1) := by decide +kernel
theorem dX0_init_21 : decode cX0_init 21 = .ok (.bipush 6, 2) := by decide +kernel
theorem dX0_init_23 : decode cX0_init 23 = .ok (.newarray .int, 2) := by decide +kernel
theorem dX0_init_25 : decode cX0_init 25 = .ok (.putfield 18, 3) := by decide +kernel
theorem dX0_init_28 : decode cX0_init 28 = .ok (.aload_n 0, 1) := by decide +kernel
theorem dX0_init_29 : decode cX0_init 29 = .ok (.iconst 4, 1) := by decide +kernel
theorem dX0_init_30 : decode cX0_init 30 = .ok (.newarray .int, 2) := by decide +kernel
theorem dX0_init_32 : decode cX0_init 32 = .ok (.putfield 21, 3) := by decide +kernel
theorem dX0_init_35 : decode cX0_init 35 = .ok (.aload_n 0, 1) := by decide +kernel
theorem dX0_init_36 : decode cX0_init 36 = .ok (.bipush 16, 2) := by decide +kernel
theorem dX0_init_38 : decode cX0_init 38 = .ok (.anewarray 24, 3) := by decide +kernel
theorem dX0_init_41 : decode cX0_init 41 = .ok (.putfield 26, 3) := by decide +kernel
theorem dX0_init_44 : decode cX0_init 44 = .ok (.iconst 0, 1) := by decide +kernel
theorem dX0_init_45 : decode cX0_init 45 = .ok (.istore_n 1, 1) := by decide +kernel
theorem dX0_init_46 : decode cX0_init 46 = .ok (.iload_n 1, 1) := by decide +kernel
theorem dX0_init_47 : decode cX0_init 47 = .ok (.bipush 16, 2) := by decide +kernel
theorem dX0_init_49 : decode cX0_init 49 = .ok (.if_icmp .ge 22, 3) := by decide +kernel
theorem dX0_init_52 : decode cX0_init 52 = .ok (.aload_n 0, 1) := by decide +kernel
theorem dX0_init_53 : decode cX0_init 53 = .ok (.getfield 26, 3) := by decide +kernel
theorem dX0_init_56 : decode cX0_init 56 = .ok (.iload_n 1, 1) := by decide +kernel
theorem dX0_init_57 : decode cX0_init 57 = .ok (.new 24, 3) := by decide +kernel
theorem dX0_init_60 : decode cX0_init 60 = .ok (.dup, 1) := by decide +kernel
theorem dX0_init_61 : decode cX0_init 61 = .ok (.invokespecial 30, 3) := by decide +kernel
theorem dX0_init_64 : decode cX0_init 64 = .ok (.aastore, 1) := by decide +kernel
theorem dX0_init_65 : decode cX0_init 65 = .ok (.iinc 1 1, 3) := by decide +kernel
theorem dX0_init_68 : decode cX0_init 68 = .ok (.goto (-22), 3) := by decide +kernel
theorem dX0_init_71 : decode cX0_init 71 = .ok (.aload_n 0, 1) := by decide +kernel
theorem dX0_init_72 : decode cX0_init 72 = .ok (.new 31, 3) := by decide +kernel
theorem dX0_init_75 : decode cX0_init 75 = .ok (.dup, 1) := by decide +kernel
theorem dX0_init_76 : decode cX0_init 76 = .ok (.invokespecial 33, 3) := by decide +kernel
theorem dX0_init_79 : decode cX0_init 79 = .ok (.putfield 34, 3) := by decide +kernel
theorem dX0_init_82 : decode cX0_init 82 = .ok (.aload_n 0, 1) := by decide +kernel
theorem dX0_init_83 : decode cX0_init 83 = .ok (.invokevirtual 38, 3) := by decide +kernel
theorem dX0_init_86 : decode cX0_init 86 = .ok (.return_, 1) := by decide +kernel
theorem dX0_makeNew_0 : decode cX0_makeNew 0 = .ok (.aload_n 0, 1) := by decide +kernel
theorem dX0_makeNew_1 : decode cX0_makeNew 1 = .ok (.iconst 0, 1) := by decide +kernel
theorem dX0_makeNew_2 : decode cX0_makeNew 2 = .ok (.putfield 41, 3) := by decide +kernel
theorem dX0_makeNew_5 : decode cX0_makeNew 5 = .ok (.aload_n 0, 1) := by decide +kernel
theorem dX0_makeNew_6 : decode cX0_makeNew 6 = .ok (.iconst 0, 1) := by decide +kernel
theorem dX0_makeNew_7 : decode cX0_makeNew 7 = .ok (.putfield 45, 3) := by decide +kernel
theorem dX0_makeNew_10 : decode cX0_makeNew 10 = .ok (.aload_n 0, 1) := by decide +kernel
theorem dX0_makeNew_11 : decode cX0_makeNew 11 = .ok (.iconst 0, 1) := by decide +kernel
theorem dX0_makeNew_12 : decode cX0_makeNew 12 = .ok (.putfield 48, 3) := by decide +kernel
theorem dX0_makeNew_15 : decode cX0_makeNew 15 = .ok (.aload_n 0, 1) := by decide +kernel
theorem dX0_makeNew_16 : decode cX0_makeNew 16 = .ok (.getfield 34, 3) := by decide +kernel
theorem dX0_makeNew_19 : decode cX0_makeNew 19 = .ok (.iconst 0, 1) := by decide +kernel
theorem dX0_makeNew_20 : decode cX0_makeNew 20 = .ok (.putfield 51, 3) := by decide +kernel
theorem dX0_makeNew_23 : decode cX0_makeNew 23 = .ok (.aload_n 0, 1) := by decide +kernel
theorem dX0_makeNew_24 : decode cX0_makeNew 24 = .ok (.iconst 0, 1) := by decide +kernel
theorem dX0_makeNew_25 : decode cX0_makeNew 25 = .ok (.putfield 54, 3) := by decide +kernel
theorem dX0_makeNew_28 : decode cX0_makeNew 28 = .ok (.aload_n 0, 1) := by decide +kernel
theorem dX0_makeNew_29 : decode cX0_makeNew 29 = .ok (.iconst 0, 1) := by decide +kernel
theorem dX0_makeNew_30 : decode cX0_makeNew 30 = .ok (.putfield 57, 3) := by decide +kernel
theorem dX0_makeNew_33 : decode cX0_makeNew 33 = .ok (.aload_n 0, 1) := by decide +kernel
theorem dX0_makeNew_34 : decode cX0_makeNew 34 = .ok (.iconst 0, 1) := by decide +kernel
theorem dX0_makeNew_35 : decode cX0_makeNew 35 = .ok (.putfield 60, 3) := by decide +kernel
theorem dX0_makeNew_38 : decode cX0_makeNew 38 = .ok (.aload_n 0, 1) := by decide +kernel
theorem dX0_makeNew_39 : decode cX0_makeNew 39 = .ok (.iconst 0, 1) := by decide +kernel
theorem dX0_makeNew_40 : decode cX0_makeNew 40 = .ok (.putfield 63, 3) := by decide +kernel
theorem dX0_makeNew_43 : decode cX0_makeNew 43 = .ok (.aload_n 0, 1) := by decide +kernel
theorem dX0_makeNew_44 : decode cX0_makeNew 44 = .ok (.getfield 21, 3) := by decide +kernel
theorem dX0_makeNew_47 : decode cX0_makeNew 47 = .ok (.iconst 0, 1) := by decide +kernel
theorem dX0_makeNew_48 : decode cX0_makeNew 48 = .ok (.bipush 6, 2) := by decide +kernel
theorem dX0_makeNew_50 : decode cX0_makeNew 50 = .ok (.iastore, 1) := by decide +kernel
theorem dX0_makeNew_51 : decode cX0_makeNew 51 = .ok (.aload_n 0, 1) := by decide +kernel
theorem dX0_makeNew_52 : decode cX0_makeNew 52 = .ok (.getfield 21, 3) := by decide +kernel
theorem dX0_makeNew_55 : decode cX0_makeNew 55 = .ok (.iconst 1, 1) := by decide +kernel
theorem dX0_makeNew_56 : decode cX0_makeNew 56 = .ok (.bipush 10, 2) := by decide +kernel
theorem dX0_makeNew_58 : decode cX0_makeNew 58 = .ok (.iastore, 1) := by decide +kernel
theorem dX0_makeNew_59 : decode cX0_makeNew 59 = .ok (.aload_n 0, 1) := by decide +kernel
theorem dX0_makeNew_60 : decode cX0_makeNew 60 = .ok (.getfield 21, 3) := by decide +kernel
theorem dX0_makeNew_63 : decode cX0_makeNew 63 = .ok (.iconst 2, 1) := by decide +kernel
theorem dX0_makeNew_64 : decode cX0_makeNew 64 = .ok (.iconst 2, 1) := by decide +kernel
theorem dX0_makeNew_65 : decode cX0_makeNew 65 = .ok (.iastore, 1) := by decide +kernel
theorem dX0_makeNew_66 : decode cX0_makeNew 66 = .ok (.aload_n 0, 1) := by decide +kernel
theorem dX0_makeNew_67 : decode cX0_makeNew 67 = .ok (.getfield 21, 3) := by decide +kernel
theorem dX0_makeNew_70 : decode cX0_makeNew 70 = .ok (.iconst 3, 1) := by decide +kernel
theorem dX0_makeNew_71 : decode cX0_makeNew 71 = .ok (.iconst 5, 1) := by decide +kernel
theorem dX0_makeNew_72 : decode cX0_makeNew 72 = .ok (.iastore, 1) := by decide +kernel
theorem dX0_makeNew_73 : decode cX0_makeNew 73 = .ok (.return_, 1) := by decide +kernel
theorem dX0_copyFrom_0 : decode cX0_copyFrom 0 = .ok (.aload_n 0, 1) := by decide +kernel
theorem dX0_copyFrom_1 : decode cX0_copyFrom 1 = .ok (.aload_n 1, 1) := by decide +kernel
theorem dX0_copyFrom_2 : decode cX0_copyFrom 2 = .ok (.getfield 41, 3) := by decide +kernel
theorem dX0_copyFrom_5 : decode cX0_copyFrom 5 = .ok (.putfield 41, 3) := by decide +kernel
theorem dX0_copyFrom_8 : decode cX0_copyFrom 8 = .ok (.aload_n 0, 1) := by decide +kernel
theorem dX0_copyFrom_9 : decode cX0_copyFrom 9 = .ok (.aload_n 1, 1) := by decide +kernel
theorem dX0_copyFrom_10 : decode cX0_copyFrom 10 = .ok (.getfield 45, 3) := by decide +kernel
theorem dX0_copyFrom_13 : decode cX0_copyFrom 13 = .ok (.putfield 45, 3) := by decide +kernel
theorem dX0_copyFrom_16 : decode cX0_copyFrom 16 = .ok (.iconst 0, 1) := by decide +kernel
theorem dX0_copyFrom_17 : decode cX0_copyFrom 17 = .ok (.istore_n 2, 1) := by decide +kernel
theorem dX0_copyFrom_18 : decode cX0_copyFrom 18 = .ok (.iload_n 2, 1) := by decide +kernel
theorem dX0_copyFrom_19 : decode cX0_copyFrom 19 = .ok (.bipush 6, 2) := by decide +kernel
theorem dX0_copyFrom_21 : decode cX0_copyFrom 21 = .ok (.if_icmp .ge 45, 3) := by decide +kernel
theorem dX0_copyFrom_24 : decode cX0_copyFrom 24 = .ok (.aload_n 0, 1) := by decide +kernel
theorem dX0_copyFrom_25 : decode cX0_copyFrom 25 = .ok (.getfield 11, 3) := by decide +kernel
theorem dX0_copyFrom_28 : decode cX0_copyFrom 28 = .ok (.iload_n 2, 1) := by decide +kernel
theorem dX0_copyFrom_29 : decode cX0_copyFrom 29 = .ok (.aload_n 1, 1) := by decide +kernel
theorem dX0_copyFrom_30 : decode cX0_copyFrom 30 = .ok (.getfield 11, 3) := by decide +kernel
theorem dX0_copyFrom_33 : decode cX0_copyFrom 33 = .ok (.iload_n 2, 1) := by decide +kernel
theorem dX0_copyFrom_34 : decode cX0_copyFrom 34 = .ok (.iaload, 1) := by decide +kernel
theorem dX0_copyFrom_35 : decode cX0_copyFrom 35 = .ok (.iastore, 1) := by decide +kernel
theorem dX0_copyFrom_36 : decode cX0_copyFrom 36 = .ok (.aload_n 0, 1) := by decide +kernel
theorem dX0_copyFrom_37 : decode cX0_copyFrom 37 = .ok (.getfield 15, 3) := by decide +kernel
theorem dX0_copyFrom_40 : decode cX0_copyFrom 40 = .ok (.iload_n 2, 1) := by decide +kernel
theorem dX0_copyFrom_41 : decode cX0_copyFrom 41 = .ok (.aload_n 1, 1) := by decide +kernel
theorem dX0_copyFrom_42 : decode cX0_copyFrom 42 = .ok (.getfield 15, 3) := by decide +kernel
theorem dX0_copyFrom_45 : decode cX0_copyFrom 45 = .ok (.iload_n 2, 1) := by decide +kernel
theorem dX0_copyFrom_46 : decode cX0_copyFrom 46 = .ok (.iaload, 1) := by decide +kernel
theorem dX0_copyFrom_47 : decode cX0_copyFrom 47 = .ok (.iastore, 1) := by decide +kernel
theorem dX0_copyFrom_48 : decode cX0_copyFrom 48 = .ok (.aload_n 0, 1) := by decide +kernel
theorem dX0_copyFrom_49 : decode cX0_copyFrom 49 = .ok (.getfield 18, 3) := by decide +kernel
theorem dX0_copyFrom_52 : decode cX0_copyFrom 52 = .ok (.iload_n 2, 1) := by decide +kernel
theorem dX0_copyFrom_53 : decode cX0_copyFrom 53 = .ok (.aload_n 1, 1) := by decide +kernel
theorem dX0_copyFrom_54 : decode cX0_copyFrom 54 = .ok (.getfield 18, 3) := by decide +kernel
theorem dX0_copyFrom_57 : decode cX0_copyFrom 57 = .ok (.iload_n 2, 1) := by decide +kernel
theorem dX0_copyFrom_58 : decode cX0_copyFrom 58 = .ok (.iaload, 1) := by decide +kernel
theorem dX0_copyFrom_59 : decode cX0_copyFrom 59 = .ok (.iastore, 1) := by decide +kernel
theorem dX0_copyFrom_60 : decode cX0_copyFrom 60 = .ok (.iinc 2 1, 3) := by decide +kernel
theorem dX0_copyFrom_63 : decode cX0_copyFrom 63 = .ok (.goto (-45), 3) := by decide +kernel
theorem dX0_copyFrom_66 : decode cX0_copyFrom 66 = .ok (.iconst 0, 1) := by decide +kernel
theorem dX0_copyFrom_67 : decode cX0_copyFrom 67 = .ok (.istore_n 2, 1) := by decide +kernel
theorem dX0_copyFrom_68 : decode cX0_copyFrom 68 = .ok (.iload_n 2, 1) := by decide +kernel
theorem dX0_copyFrom_69 : decode cX0_copyFrom 69 = .ok (.iconst 4, 1) := by decide +kernel
theorem dX0_copyFrom_70 : decode cX0_copyFrom 70 = .ok (.if_icmp .ge 21, 3) := by decide +kernel
theorem dX0_copyFrom_73 : decode cX0_copyFrom 73 = .ok (.aload_n 0, 1) := by decide +kernel
theorem dX0_copyFrom_74 : decode cX0_copyFrom 74 = .ok (.getfield 21, 3) := by decide +kernel
theorem dX0_copyFrom_77 : decode cX0_copyFrom 77 = .ok (.iload_n 2, 1) := by decide +kernel
theorem dX0_copyFrom_78 : decode cX0_copyFrom 78 = .ok (.aload_n 1, 1) := by decide +kernel
theorem dX0_copyFrom_79 : decode cX0_copyFrom 79 = .ok (.getfield 21, 3) := by decide +kernel
theorem dX0_copyFrom_82 : decode cX0_copyFrom 82 = .ok (.iload_n 2, 1) := by decide +kernel
theorem dX0_copyFrom_83 : decode cX0_copyFrom 83 = .ok (.iaload, 1) := by decide +kernel
theorem dX0_copyFrom_84 : decode cX0_copyFrom 84 = .ok (.iastore, 1) := by decide +kernel
theorem dX0_copyFrom_85 : decode cX0_copyFrom 85 = .ok (.iinc 2 1, 3) := by decide +kernel
theorem dX0_copyFrom_88 : decode cX0_copyFrom 88 = .ok (.goto (-20), 3) := by decide +kernel
theorem dX0_copyFrom_91 : decode cX0_copyFrom 91 = .ok (.aload_n 0, 1) := by decide +kernel
theorem dX0_copyFrom_92 : decode cX0_copyFrom 92 = .ok (.aload_n 1, 1) := by decide +kernel
theorem dX0_copyFrom_93 : decode cX0_copyFrom 93 = .ok (.getfield 48, 3) := by decide +kernel
theorem dX0_copyFrom_96 : decode cX0_copyFrom 96 = .ok (.putfield 48, 3) := by decide +kernel
theorem dX0_copyFrom_99 : decode cX0_copyFrom 99 = .ok (.iconst 0, 1) := by decide +kernel
theorem dX0_copyFrom_100 : decode cX0_copyFrom 100 = .ok (.istore_n 2, 1) := by decide +kernel
theorem dX0_copyFrom_101 : decode cX0_copyFrom 101 = .ok (.iload_n 2, 1) := by decide +kernel
theorem dX0_copyFrom_102 : decode cX0_copyFrom 102 = .ok (.aload_n 0, 1) := by decide +kernel
theorem dX0_copyFrom_103 : decode cX0_copyFrom 103 = .ok (.getfield 48, 3) := by decide +kernel
theorem dX0_copyFrom_106 : decode cX0_copyFrom 106 = .ok (.if_icmp .ge 24, 3) := by decide +kernel
theorem dX0_copyFrom_109 : decode cX0_copyFrom 109 = .ok (.aload_n 0, 1) := by decide +kernel
theorem dX0_copyFrom_110 : decode cX0_copyFrom 110 = .ok (.getfield 26, 3) := by decide +kernel
theorem dX0_copyFrom_113 : decode cX0_copyFrom 113 = .ok (.iload_n 2, 1) := by decide +kernel
theorem dX0_copyFrom_114 : decode cX0_copyFrom 114 = .ok (.aaload, 1) := by decide +kernel
theorem dX0_copyFrom_115 : decode cX0_copyFrom 115 = .ok (.aload_n 1, 1) := by decide +kernel
theorem dX0_copyFrom_116 : decode cX0_copyFrom 116 = .ok (.getfield 26, 3) := by decide +kernel
theorem dX0_copyFrom_119 : decode cX0_copyFrom 119 = .ok (.iload_n 2, 1) := by decide +kernel
theorem dX0_copyFrom_120 : decode cX0_copyFrom 120 = .ok (.aaload, 1) := by decide +kernel
theorem dX0_copyFrom_121 : decode cX0_copyFrom 121 = .ok (.invokevirtual 66, 3) := by decide +kernel
theorem dX0_copyFrom_124 : decode cX0_copyFrom 124 = .ok (.iinc 2 1, 3) := by decide +kernel
theorem dX0_copyFrom_127 : decode cX0_copyFrom 127 = .ok (.goto (-26), 3) := by decide +kernel
theorem dX0_copyFrom_130 : decode cX0_copyFrom 130 = .ok (.aload_n 0, 1) := by decide +kernel
theorem dX0_copyFrom_131 : decode cX0_copyFrom 131 = .ok (.getfield 34, 3) := by decide +kernel
theorem dX0_copyFrom_134 : decode cX0_copyFrom 134 = .ok (.aload_n 1, 1) := by decide +kernel
theorem dX0_copyFrom_135 : decode cX0_copyFrom 135 = .ok (.getfield 34, 3) := by decide +kernel
theorem dX0_copyFrom_138 : decode cX0_copyFrom 138 = .ok (.invokevirtual 70, 3) := by decide +kernel
theorem dX0_copyFrom_141 : decode cX0_copyFrom 141 = .ok (.aload_n 0, 1) := by decide +kernel
theorem dX0_copyFrom_142 : decode cX0_copyFrom 142 = .ok (.aload_n 1, 1) := by decide +kernel
theorem dX0_copyFrom_143 : decode cX0_copyFrom 143 = .ok (.getfield 54, 3) := by decide +kernel
theorem dX0_copyFrom_146 : decode cX0_copyFrom 146 = .ok (.putfield 54, 3) := by decide +kernel
theorem dX0_copyFrom_149 : decode cX0_copyFrom 149 = .ok (.aload_n 0, 1) := by decide +kernel
theorem dX0_copyFrom_150 : decode cX0_copyFrom 150 = .ok (.aload_n 1, 1) := by decide +kernel
theorem dX0_copyFrom_151 : decode cX0_copyFrom 151 = .ok (.getfield 57, 3) := by decide +kernel
theorem dX0_copyFrom_154 : decode cX0_copyFrom 154 = .ok (.putfield 57, 3) := by decide +kernel
theorem dX0_copyFrom_157 : decode cX0_copyFrom 157 = .ok (.aload_n 0, 1) := by decide +kernel
theorem dX0_copyFrom_158 : decode cX0_copyFrom 158 = .ok (.aload_n 1, 1) := by decide +kernel
theorem dX0_copyFrom_159 : decode cX0_copyFrom 159 = .ok (.getfield 60, 3) := by decide +kernel
theorem dX0_copyFrom_162 : decode cX0_copyFrom 162 = .ok (.putfield 60, 3) := by decide +kernel
theorem dX0_copyFrom_165 : decode cX0_copyFrom 165 = .ok (.aload_n 0, 1) := by decide +kernel
theorem dX0_copyFrom_166 : decode cX0_copyFrom 166 = .ok (.aload_n 1, 1) := by decide +kernel
theorem dX0_copyFrom_167 : decode cX0_copyFrom 167 = .ok (.getfield 63, 3) := by decide +kernel
theorem dX0_copyFrom_170 : decode cX0_copyFrom 170 = .ok (.putfield 63, 3) := by decide +kernel
theorem dX0_copyFrom_173 : decode cX0_copyFrom 173 = .ok (.return_, 1) := by decide +kernel
theorem dX0_staffFault_0 : decode cX0_staffFault 0 = .ok (.iload_n 1, 1) := by decide +kernel
theorem dX0_staffFault_1 : decode cX0_staffFault 1 = .ok (.ifCond .lt 11, 3) := by decide +kernel
theorem dX0_staffFault_4 : decode cX0_staffFault 4 = .ok (.iload_n 1, 1) := by decide +kernel
theorem dX0_staffFault_5 : decode cX0_staffFault 5 = .ok (.aload_n 0, 1) := by decide +kernel
theorem dX0_staffFault_6 : decode cX0_staffFault 6 = .ok (.getfield 45, 3) := by decide +kernel
theorem dX0_staffFault_9 : decode cX0_staffFault 9 = .ok (.if_icmp .lt 7, 3) := by decide +kernel
theorem dX0_staffFault_12 : decode cX0_staffFault 12 = .ok (.iconst 1, 1) := by decide +kernel
theorem dX0_staffFault_13 : decode cX0_staffFault 13 = .ok (.goto 4, 3) := by decide +kernel
theorem dX0_staffFault_16 : decode cX0_staffFault 16 = .ok (.iconst 0, 1) := by decide +kernel
theorem dX0_staffFault_17 : decode cX0_staffFault 17 = .ok (.ireturn, 1) := by decide +kernel
theorem dX0_numberFault_0 : decode cX0_numberFault 0 = .ok (.iload_n 1, 1) := by decide +kernel
theorem dX0_numberFault_1 : decode cX0_numberFault 1 = .ok (.ifCond .lt 11, 3) := by decide +kernel
theorem dX0_numberFault_4 : decode cX0_numberFault 4 = .ok (.iload_n 1, 1) := by decide +kernel
theorem dX0_numberFault_5 : decode cX0_numberFault 5 = .ok (.aload_n 0, 1) := by decide +kernel
theorem dX0_numberFault_6 : decode cX0_numberFault 6 = .ok (.getfield 48, 3) := by decide +kernel
theorem dX0_numberFault_9 : decode cX0_numberFault 9 = .ok (.if_icmp .lt 7, 3) := by decide +kernel
theorem dX0_numberFault_12 : decode cX0_numberFault 12 = .ok (.iconst 1, 1) := by decide +kernel
theorem dX0_numberFault_13 : decode cX0_numberFault 13 = .ok (.goto 4, 3) := by decide +kernel
theorem dX0_numberFault_16 : decode cX0_numberFault 16 = .ok (.iconst 0, 1) := by decide +kernel
theorem dX0_numberFault_17 : decode cX0_numberFault 17 = .ok (.ireturn, 1) := by decide +kernel
theorem dX0_hireFault_0 : decode cX0_hireFault 0 = .ok (.iload_n 1, 1) := by decide +kernel
theorem dX0_hireFault_1 : decode cX0_hireFault 1 = .ok (.iconst 1, 1) := by decide +kernel
theorem dX0_hireFault_2 : decode cX0_hireFault 2 = .ok (.if_icmp .lt 9, 3) := by decide +kernel
theorem dX0_hireFault_5 : decode cX0_hireFault 5 = .ok (.iload_n 1, 1) := by decide +kernel
theorem dX0_hireFault_6 : decode cX0_hireFault 6 = .ok (.bipush 20, 2) := by decide +kernel
theorem dX0_hireFault_8 : decode cX0_hireFault 8 = .ok (.if_icmp .le 5, 3) := by decide +kernel
theorem dX0_hireFault_11 : decode cX0_hireFault 11 = .ok (.iconst 2, 1) := by decide +kernel
theorem dX0_hireFault_12 : decode cX0_hireFault 12 = .ok (.ireturn, 1) := by decide +kernel
theorem dX0_hireFault_13 : decode cX0_hireFault 13 = .ok (.aload_n 0, 1) := by decide +kernel
theorem dX0_hireFault_14 : decode cX0_hireFault 14 = .ok (.getfield 45, 3) := by decide +kernel
theorem dX0_hireFault_17 : decode cX0_hireFault 17 = .ok (.bipush 6, 2) := by decide +kernel
theorem dX0_hireFault_19 : decode cX0_hireFault 19 = .ok (.if_icmp .lt 7, 3) := by decide +kernel
theorem dX0_hireFault_22 : decode cX0_hireFault 22 = .ok (.iconst 3, 1) := by decide +kernel
theorem dX0_hireFault_23 : decode cX0_hireFault 23 = .ok (.goto 4, 3) := by decide +kernel
theorem dX0_hireFault_26 : decode cX0_hireFault 26 = .ok (.iconst 0, 1) := by decide +kernel
theorem dX0_hireFault_27 : decode cX0_hireFault 27 = .ok (.ireturn, 1) := by decide +kernel
theorem dX0_sessionFault_0 : decode cX0_sessionFault 0 = .ok (.iload_n 1, 1) := by decide +kernel
theorem dX0_sessionFault_1 : decode cX0_sessionFault 1 = .ok (.ifCond .lt 8, 3) := by decide +kernel
theorem dX0_sessionFault_4 : decode cX0_sessionFault 4 = .ok (.iload_n 1, 1) := by decide +kernel
theorem dX0_sessionFault_5 : decode cX0_sessionFault 5 = .ok (.iconst 5, 1) := by decide +kernel
theorem dX0_sessionFault_6 : decode cX0_sessionFault 6 = .ok (.if_icmp .lt 5, 3) := by decide +kernel
theorem dX0_sessionFault_9 : decode cX0_sessionFault 9 = .ok (.iconst 1, 1) := by decide +kernel
theorem dX0_sessionFault_10 : decode cX0_sessionFault 10 = .ok (.ireturn, 1) := by decide +kernel
theorem dX0_sessionFault_11 : decode cX0_sessionFault 11 = .ok (.aload_n 0, 1) := by decide +kernel
theorem dX0_sessionFault_12 : decode cX0_sessionFault 12 = .ok (.iload_n 2, 1) := by decide +kernel
theorem dX0_sessionFault_13 : decode cX0_sessionFault 13 = .ok (.iload_n 3, 1) := by decide +kernel
theorem dX0_sessionFault_14 : decode cX0_sessionFault 14 = .ok (.iload 4, 2) := by decide +kernel
theorem dX0_sessionFault_16 : decode cX0_sessionFault 16 = .ok (.invokevirtual 73, 3) := by decide +kernel
theorem dX0_sessionFault_19 : decode cX0_sessionFault 19 = .ok (.ifCond .eq 16, 3) := by decide +kernel
theorem dX0_sessionFault_22 : decode cX0_sessionFault 22 = .ok (.iload 5, 2) := by decide +kernel
theorem dX0_sessionFault_24 : decode cX0_sessionFault 24 = .ok (.iconst 1, 1) := by decide +kernel
theorem dX0_sessionFault_25 : decode cX0_sessionFault 25 = .ok (.if_icmp .lt 10, 3) := by decide +kernel
theorem dX0_sessionFault_28 : decode cX0_sessionFault 28 = .ok (.iload 5, 2) := by decide +kernel
theorem dX0_sessionFault_30 : decode cX0_sessionFault 30 = .ok (.bipush 9, 2) := by decide +kernel
theorem dX0_sessionFault_32 : decode cX0_sessionFault 32 = .ok (.if_icmp .le 5, 3) := by decide +kernel
theorem dX0_sessionFault_35 : decode cX0_sessionFault 35 = .ok (.iconst 2, 1) := by decide +kernel
theorem dX0_sessionFault_36 : decode cX0_sessionFault 36 = .ok (.ireturn, 1) := by decide +kernel
theorem dX0_sessionFault_37 : decode cX0_sessionFault 37 = .ok (.aload_n 0, 1) := by decide +kernel
theorem dX0_sessionFault_38 : decode cX0_sessionFault 38 = .ok (.getfield 48, 3) := by decide +kernel
theorem dX0_sessionFault_41 : decode cX0_sessionFault 41 = .ok (.bipush 16, 2) := by decide +kernel
theorem dX0_sessionFault_43 : decode cX0_sessionFault 43 = .ok (.if_icmp .ge 15, 3) := by decide +kernel
theorem dX0_sessionFault_46 : decode cX0_sessionFault 46 = .ok (.aload_n 0, 1) := by decide +kernel
theorem dX0_sessionFault_47 : decode cX0_sessionFault 47 = .ok (.iload_n 1, 1) := by decide +kernel
theorem dX0_sessionFault_48 : decode cX0_sessionFault 48 = .ok (.iload_n 2, 1) := by decide +kernel
theorem dX0_sessionFault_49 : decode cX0_sessionFault 49 = .ok (.iload_n 3, 1) := by decide +kernel
theorem dX0_sessionFault_50 : decode cX0_sessionFault 50 = .ok (.iload 4, 2) := by decide +kernel
theorem dX0_sessionFault_52 : decode cX0_sessionFault 52 = .ok (.invokevirtual 77, 3) := by decide +kernel
theorem dX0_sessionFault_55 : decode cX0_sessionFault 55 = .ok (.ifCond .eq 7, 3) := by decide +kernel
theorem dX0_sessionFault_58 : decode cX0_sessionFault 58 = .ok (.iconst 3, 1) := by decide +kernel
theorem dX0_sessionFault_59 : decode cX0_sessionFault 59 = .ok (.goto 4, 3) := by decide +kernel
theorem dX0_sessionFault_62 : decode cX0_sessionFault 62 = .ok (.iconst 0, 1) := by decide +kernel
theorem dX0_sessionFault_63 : decode cX0_sessionFault 63 = .ok (.ireturn, 1) := by decide +kernel
theorem dX0_giveFault_0 : decode cX0_giveFault 0 = .ok (.aload_n 0, 1) := by decide +kernel
theorem dX0_giveFault_1 : decode cX0_giveFault 1 = .ok (.iload_n 1, 1) := by decide +kernel
theorem dX0_giveFault_2 : decode cX0_giveFault 2 = .ok (.invokevirtual 81, 3) := by decide +kernel
theorem dX0_giveFault_5 : decode cX0_giveFault 5 = .ok (.ifCond .ne 16, 3) := by decide +kernel
theorem dX0_giveFault_8 : decode cX0_giveFault 8 = .ok (.iload_n 2, 1) := by decide +kernel
theorem dX0_giveFault_9 : decode cX0_giveFault 9 = .ok (.iconst (-1), 1) := by decide +kernel
theorem dX0_giveFault_10 : decode cX0_giveFault 10 = .ok (.if_icmp .eq 13, 3) := by decide +kernel
theorem dX0_giveFault_13 : decode cX0_giveFault 13 = .ok (.aload_n 0, 1) := by decide +kernel
theorem dX0_giveFault_14 : decode cX0_giveFault 14 = .ok (.iload_n 2, 1) := by decide +kernel
theorem dX0_giveFault_15 : decode cX0_giveFault 15 = .ok (.invokevirtual 85, 3) := by decide +kernel
theorem dX0_giveFault_18 : decode cX0_giveFault 18 = .ok (.ifCond .eq 5, 3) := by decide +kernel
theorem dX0_giveFault_21 : decode cX0_giveFault 21 = .ok (.iconst 1, 1) := by decide +kernel
theorem dX0_giveFault_22 : decode cX0_giveFault 22 = .ok (.ireturn, 1) := by decide +kernel
theorem dX0_giveFault_23 : decode cX0_giveFault 23 = .ok (.iload_n 2, 1) := by decide +kernel
theorem dX0_giveFault_24 : decode cX0_giveFault 24 = .ok (.iconst (-1), 1) := by decide +kernel
theorem dX0_giveFault_25 : decode cX0_giveFault 25 = .ok (.if_icmp .eq 16, 3) := by decide +kernel
theorem dX0_giveFault_28 : decode cX0_giveFault 28 = .ok (.aload_n 0, 1) := by decide +kernel
theorem dX0_giveFault_29 : decode cX0_giveFault 29 = .ok (.getfield 26, 3) := by decide +kernel
theorem dX0_giveFault_32 : decode cX0_giveFault 32 = .ok (.iload_n 1, 1) := by decide +kernel
theorem dX0_giveFault_33 : decode cX0_giveFault 33 = .ok (.aaload, 1) := by decide +kernel
theorem dX0_giveFault_34 : decode cX0_giveFault 34 = .ok (.getfield 88, 3) := by decide +kernel
theorem dX0_giveFault_37 : decode cX0_giveFault 37 = .ok (.iload_n 2, 1) := by decide +kernel
theorem dX0_giveFault_38 : decode cX0_giveFault 38 = .ok (.if_icmp .ne 5, 3) := by decide +kernel
theorem dX0_giveFault_41 : decode cX0_giveFault 41 = .ok (.iconst 0, 1) := by decide +kernel
theorem dX0_giveFault_42 : decode cX0_giveFault 42 = .ok (.ireturn, 1) := by decide +kernel
theorem dX0_giveFault_43 : decode cX0_giveFault 43 = .ok (.aload_n 0, 1) := by decide +kernel
theorem dX0_giveFault_44 : decode cX0_giveFault 44 = .ok (.iload_n 1, 1) := by decide +kernel
theorem dX0_giveFault_45 : decode cX0_giveFault 45 = .ok (.iload_n 2, 1) := by decide +kernel
theorem dX0_giveFault_46 : decode cX0_giveFault 46 = .ok (.invokevirtual 91, 3) := by decide +kernel
theorem dX0_giveFault_49 : decode cX0_giveFault 49 = .ok (.ifCond .eq 7, 3) := by decide +kernel
theorem dX0_giveFault_52 : decode cX0_giveFault 52 = .ok (.iconst 3, 1) := by decide +kernel
theorem dX0_giveFault_53 : decode cX0_giveFault 53 = .ok (.goto 4, 3) := by decide +kernel
theorem dX0_giveFault_56 : decode cX0_giveFault 56 = .ok (.iconst 0, 1) := by decide +kernel
theorem dX0_giveFault_57 : decode cX0_giveFault 57 = .ok (.ireturn, 1) := by decide +kernel
theorem dX0_extendFault_0 : decode cX0_extendFault 0 = .ok (.aload_n 0, 1) := by decide +kernel
theorem dX0_extendFault_1 : decode cX0_extendFault 1 = .ok (.iload_n 1, 1) := by decide +kernel
theorem dX0_extendFault_2 : decode cX0_extendFault 2 = .ok (.invokevirtual 81, 3) := by decide +kernel
theorem dX0_extendFault_5 : decode cX0_extendFault 5 = .ok (.ifCond .eq 5, 3) := by decide +kernel
theorem dX0_extendFault_8 : decode cX0_extendFault 8 = .ok (.iconst 1, 1) := by decide +kernel
theorem dX0_extendFault_9 : decode cX0_extendFault 9 = .ok (.ireturn, 1) := by decide +kernel
theorem dX0_extendFault_10 : decode cX0_extendFault 10 = .ok (.iload_n 2, 1) := by decide +kernel
theorem dX0_extendFault_11 : decode cX0_extendFault 11 = .ok (.iconst 1, 1) := by decide +kernel
theorem dX0_extendFault_12 : decode cX0_extendFault 12 = .ok (.if_icmp .lt 9, 3) := by decide +kernel
theorem dX0_extendFault_15 : decode cX0_extendFault 15 = .ok (.iload_n 2, 1) := by decide +kernel
theorem dX0_extendFault_16 : decode cX0_extendFault 16 = .ok (.bipush 16, 2) := by decide +kernel
theorem dX0_extendFault_18 : decode cX0_extendFault 18 = .ok (.if_icmp .le 7, 3) := by decide +kernel
theorem dX0_extendFault_21 : decode cX0_extendFault 21 = .ok (.iconst 2, 1) := by decide +kernel
theorem dX0_extendFault_22 : decode cX0_extendFault 22 = .ok (.goto 4, 3) := by decide +kernel
theorem dX0_extendFault_25 : decode cX0_extendFault 25 = .ok (.iconst 0, 1) := by decide +kernel
theorem dX0_extendFault_26 : decode cX0_extendFault 26 = .ok (.ireturn, 1) := by decide +kernel
theorem dX0_leaveFault_0 : decode cX0_leaveFault 0 = .ok (.aload_n 0, 1) := by decide +kernel
theorem dX0_leaveFault_1 : decode cX0_leaveFault 1 = .ok (.iload_n 1, 1) := by decide +kernel
theorem dX0_leaveFault_2 : decode cX0_leaveFault 2 = .ok (.invokevirtual 85, 3) := by decide +kernel
theorem dX0_leaveFault_5 : decode cX0_leaveFault 5 = .ok (.ifCond .eq 5, 3) := by decide +kernel
theorem dX0_leaveFault_8 : decode cX0_leaveFault 8 = .ok (.iconst 1, 1) := by decide +kernel
theorem dX0_leaveFault_9 : decode cX0_leaveFault 9 = .ok (.ireturn, 1) := by decide +kernel
theorem dX0_leaveFault_10 : decode cX0_leaveFault 10 = .ok (.iload_n 2, 1) := by decide +kernel
theorem dX0_leaveFault_11 : decode cX0_leaveFault 11 = .ok (.ifCond .lt 9, 3) := by decide +kernel
theorem dX0_leaveFault_14 : decode cX0_leaveFault 14 = .ok (.iload_n 2, 1) := by decide +kernel
theorem dX0_leaveFault_15 : decode cX0_leaveFault 15 = .ok (.bipush 30, 2) := by decide +kernel
theorem dX0_leaveFault_17 : decode cX0_leaveFault 17 = .ok (.if_icmp .le 7, 3) := by decide +kernel
theorem dX0_leaveFault_20 : decode cX0_leaveFault 20 = .ok (.iconst 2, 1) := by decide +kernel
theorem dX0_leaveFault_21 : decode cX0_leaveFault 21 = .ok (.goto 4, 3) := by decide +kernel
theorem dX0_leaveFault_24 : decode cX0_leaveFault 24 = .ok (.iconst 0, 1) := by decide +kernel
theorem dX0_leaveFault_25 : decode cX0_leaveFault 25 = .ok (.ireturn, 1) := by decide +kernel
theorem dX0_runFault_0 : decode cX0_runFault 0 = .ok (.iload_n 1, 1) := by decide +kernel
theorem dX0_runFault_1 : decode cX0_runFault 1 = .ok (.iconst 1, 1) := by decide +kernel
theorem dX0_runFault_2 : decode cX0_runFault 2 = .ok (.if_icmp .lt 9, 3) := by decide +kernel
theorem dX0_runFault_5 : decode cX0_runFault 5 = .ok (.iload_n 1, 1) := by decide +kernel
theorem dX0_runFault_6 : decode cX0_runFault 6 = .ok (.bipush 30, 2) := by decide +kernel
theorem dX0_runFault_8 : decode cX0_runFault 8 = .ok (.if_icmp .le 7, 3) := by decide +kernel
theorem dX0_runFault_11 : decode cX0_runFault 11 = .ok (.iconst 2, 1) := by decide +kernel
theorem dX0_runFault_12 : decode cX0_runFault 12 = .ok (.goto 4, 3) := by decide +kernel
theorem dX0_runFault_15 : decode cX0_runFault 15 = .ok (.iconst 0, 1) := by decide +kernel
theorem dX0_runFault_16 : decode cX0_runFault 16 = .ok (.ireturn, 1) := by decide +kernel
theorem dX0_setFault_0 : decode cX0_setFault 0 = .ok (.iload_n 1, 1) := by decide +kernel
theorem dX0_setFault_1 : decode cX0_setFault 1 = .ok (.tableswitch 80 0 3 #[31, 31, 48, 64], 31) := by decide +kernel
theorem dX0_setFault_32 : decode cX0_setFault 32 = .ok (.iload_n 2, 1) := by decide +kernel
theorem dX0_setFault_33 : decode cX0_setFault 33 = .ok (.iconst 1, 1) := by decide +kernel
theorem dX0_setFault_34 : decode cX0_setFault 34 = .ok (.if_icmp .lt 9, 3) := by decide +kernel
theorem dX0_setFault_37 : decode cX0_setFault 37 = .ok (.iload_n 2, 1) := by decide +kernel
theorem dX0_setFault_38 : decode cX0_setFault 38 = .ok (.bipush 16, 2) := by decide +kernel
theorem dX0_setFault_40 : decode cX0_setFault 40 = .ok (.if_icmp .le 7, 3) := by decide +kernel
theorem dX0_setFault_43 : decode cX0_setFault 43 = .ok (.iconst 2, 1) := by decide +kernel
theorem dX0_setFault_44 : decode cX0_setFault 44 = .ok (.goto 4, 3) := by decide +kernel
theorem dX0_setFault_47 : decode cX0_setFault 47 = .ok (.iconst 0, 1) := by decide +kernel
theorem dX0_setFault_48 : decode cX0_setFault 48 = .ok (.ireturn, 1) := by decide +kernel
theorem dX0_setFault_49 : decode cX0_setFault 49 = .ok (.iload_n 2, 1) := by decide +kernel
theorem dX0_setFault_50 : decode cX0_setFault 50 = .ok (.ifCond .lt 9, 3) := by decide +kernel
theorem dX0_setFault_53 : decode cX0_setFault 53 = .ok (.iload_n 2, 1) := by decide +kernel
theorem dX0_setFault_54 : decode cX0_setFault 54 = .ok (.bipush 30, 2) := by decide +kernel
theorem dX0_setFault_56 : decode cX0_setFault 56 = .ok (.if_icmp .le 7, 3) := by decide +kernel
theorem dX0_setFault_59 : decode cX0_setFault 59 = .ok (.iconst 2, 1) := by decide +kernel
theorem dX0_setFault_60 : decode cX0_setFault 60 = .ok (.goto 4, 3) := by decide +kernel
theorem dX0_setFault_63 : decode cX0_setFault 63 = .ok (.iconst 0, 1) := by decide +kernel
theorem dX0_setFault_64 : decode cX0_setFault 64 = .ok (.ireturn, 1) := by decide +kernel
theorem dX0_setFault_65 : decode cX0_setFault 65 = .ok (.iload_n 2, 1) := by decide +kernel
theorem dX0_setFault_66 : decode cX0_setFault 66 = .ok (.ifCond .lt 9, 3) := by decide +kernel
theorem dX0_setFault_69 : decode cX0_setFault 69 = .ok (.iload_n 2, 1) := by decide +kernel
theorem dX0_setFault_70 : decode cX0_setFault 70 = .ok (.bipush 99, 2) := by decide +kernel
theorem dX0_setFault_72 : decode cX0_setFault 72 = .ok (.if_icmp .le 7, 3) := by decide +kernel
theorem dX0_setFault_75 : decode cX0_setFault 75 = .ok (.iconst 2, 1) := by decide +kernel
theorem dX0_setFault_76 : decode cX0_setFault 76 = .ok (.goto 4, 3) := by decide +kernel
theorem dX0_setFault_79 : decode cX0_setFault 79 = .ok (.iconst 0, 1) := by decide +kernel
theorem dX0_setFault_80 : decode cX0_setFault 80 = .ok (.ireturn, 1) := by decide +kernel
theorem dX0_setFault_81 : decode cX0_setFault 81 = .ok (.iconst 2, 1) := by decide +kernel
theorem dX0_setFault_82 : decode cX0_setFault 82 = .ok (.ireturn, 1) := by decide +kernel
theorem dX0_isPlace_0 : decode cX0_isPlace 0 = .ok (.iload_n 1, 1) := by decide +kernel
theorem dX0_isPlace_1 : decode cX0_isPlace 1 = .ok (.aload_n 0, 1) := by decide +kernel
theorem dX0_isPlace_2 : decode cX0_isPlace 2 = .ok (.getfield 41, 3) := by decide +kernel
theorem dX0_isPlace_5 : decode cX0_isPlace 5 = .ok (.if_icmp .lt 37, 3) := by decide +kernel
theorem dX0_isPlace_8 : decode cX0_isPlace 8 = .ok (.iload_n 1, 1) := by decide +kernel
theorem dX0_isPlace_9 : decode cX0_isPlace 9 = .ok (.sipush 999, 3) := by decide +kernel
theorem dX0_isPlace_12 : decode cX0_isPlace 12 = .ok (.if_icmp .gt 30, 3) := by decide +kernel
theorem dX0_isPlace_15 : decode cX0_isPlace 15 = .ok (.iload_n 2, 1) := by decide +kernel
theorem dX0_isPlace_16 : decode cX0_isPlace 16 = .ok (.ifCond .lt 26, 3) := by decide +kernel
theorem dX0_isPlace_19 : decode cX0_isPlace 19 = .ok (.iload_n 2, 1) := by decide +kernel
theorem dX0_isPlace_20 : decode cX0_isPlace 20 = .ok (.bipush 16, 2) := by decide +kernel
theorem dX0_isPlace_22 : decode cX0_isPlace 22 = .ok (.if_icmp .ge 20, 3) := by decide +kernel
theorem dX0_isPlace_25 : decode cX0_isPlace 25 = .ok (.iload_n 3, 1) := by decide +kernel
theorem dX0_isPlace_26 : decode cX0_isPlace 26 = .ok (.iconst 1, 1) := by decide +kernel
theorem dX0_isPlace_27 : decode cX0_isPlace 27 = .ok (.if_icmp .lt 15, 3) := by decide +kernel
theorem dX0_isPlace_30 : decode cX0_isPlace 30 = .ok (.iload_n 3, 1) := by decide +kernel
theorem dX0_isPlace_31 : decode cX0_isPlace 31 = .ok (.bipush 16, 2) := by decide +kernel
theorem dX0_isPlace_33 : decode cX0_isPlace 33 = .ok (.iload_n 2, 1) := by decide +kernel
theorem dX0_isPlace_34 : decode cX0_isPlace 34 = .ok (.isub, 1) := by decide +kernel
theorem dX0_isPlace_35 : decode cX0_isPlace 35 = .ok (.if_icmp .gt 7, 3) := by decide +kernel
theorem dX0_isPlace_38 : decode cX0_isPlace 38 = .ok (.iconst 1, 1) := by decide +kernel
theorem dX0_isPlace_39 : decode cX0_isPlace 39 = .ok (.goto 4, 3) := by decide +kernel
theorem dX0_isPlace_42 : decode cX0_isPlace 42 = .ok (.iconst 0, 1) := by decide +kernel
theorem dX0_isPlace_43 : decode cX0_isPlace 43 = .ok (.ireturn, 1) := by decide +kernel
theorem dX0_isTaken_0 : decode cX0_isTaken 0 = .ok (.iconst 0, 1) := by decide +kernel
theorem dX0_isTaken_1 : decode cX0_isTaken 1 = .ok (.istore 5, 2) := by decide +kernel
theorem dX0_isTaken_3 : decode cX0_isTaken 3 = .ok (.iload 5, 2) := by decide +kernel
theorem dX0_isTaken_5 : decode cX0_isTaken 5 = .ok (.aload_n 0, 1) := by decide +kernel
theorem dX0_isTaken_6 : decode cX0_isTaken 6 = .ok (.getfield 48, 3) := by decide +kernel
theorem dX0_isTaken_9 : decode cX0_isTaken 9 = .ok (.if_icmp .ge 65, 3) := by decide +kernel
theorem dX0_isTaken_12 : decode cX0_isTaken 12 = .ok (.aload_n 0, 1) := by decide +kernel
theorem dX0_isTaken_13 : decode cX0_isTaken 13 = .ok (.getfield 26, 3) := by decide +kernel
theorem dX0_isTaken_16 : decode cX0_isTaken 16 = .ok (.iload 5, 2) := by decide +kernel
theorem dX0_isTaken_18 : decode cX0_isTaken 18 = .ok (.aaload, 1) := by decide +kernel
theorem dX0_isTaken_19 : decode cX0_isTaken 19 = .ok (.astore 6, 2) := by decide +kernel
theorem dX0_isTaken_21 : decode cX0_isTaken 21 = .ok (.aload 6, 2) := by decide +kernel
theorem dX0_isTaken_23 : decode cX0_isTaken 23 = .ok (.getfield 95, 3) := by decide +kernel
theorem dX0_isTaken_26 : decode cX0_isTaken 26 = .ok (.iload_n 1, 1) := by decide +kernel
theorem dX0_isTaken_27 : decode cX0_isTaken 27 = .ok (.if_icmp .ne 41, 3) := by decide +kernel
theorem dX0_isTaken_30 : decode cX0_isTaken 30 = .ok (.aload 6, 2) := by decide +kernel
theorem dX0_isTaken_32 : decode cX0_isTaken 32 = .ok (.getfield 98, 3) := by decide +kernel
theorem dX0_isTaken_35 : decode cX0_isTaken 35 = .ok (.iload_n 2, 1) := by decide +kernel
theorem dX0_isTaken_36 : decode cX0_isTaken 36 = .ok (.if_icmp .ne 32, 3) := by decide +kernel
theorem dX0_isTaken_39 : decode cX0_isTaken 39 = .ok (.aload 6, 2) := by decide +kernel
theorem dX0_isTaken_41 : decode cX0_isTaken 41 = .ok (.getfield 101, 3) := by decide +kernel
theorem dX0_isTaken_44 : decode cX0_isTaken 44 = .ok (.iload_n 3, 1) := by decide +kernel
theorem dX0_isTaken_45 : decode cX0_isTaken 45 = .ok (.iload 4, 2) := by decide +kernel
theorem dX0_isTaken_47 : decode cX0_isTaken 47 = .ok (.iadd, 1) := by decide +kernel
theorem dX0_isTaken_48 : decode cX0_isTaken 48 = .ok (.if_icmp .ge 20, 3) := by decide +kernel
theorem dX0_isTaken_51 : decode cX0_isTaken 51 = .ok (.iload_n 3, 1) := by decide +kernel
theorem dX0_isTaken_52 : decode cX0_isTaken 52 = .ok (.aload 6, 2) := by decide +kernel
theorem dX0_isTaken_54 : decode cX0_isTaken 54 = .ok (.getfield 101, 3) := by decide +kernel
theorem dX0_isTaken_57 : decode cX0_isTaken 57 = .ok (.aload 6, 2) := by decide +kernel
theorem dX0_isTaken_59 : decode cX0_isTaken 59 = .ok (.getfield 104, 3) := by decide +kernel
theorem dX0_isTaken_62 : decode cX0_isTaken 62 = .ok (.iadd, 1) := by decide +kernel
theorem dX0_isTaken_63 : decode cX0_isTaken 63 = .ok (.if_icmp .ge 5, 3) := by decide +kernel
theorem dX0_isTaken_66 : decode cX0_isTaken 66 = .ok (.iconst 1, 1) := by decide +kernel
theorem dX0_isTaken_67 : decode cX0_isTaken 67 = .ok (.ireturn, 1) := by decide +kernel
theorem dX0_isTaken_68 : decode cX0_isTaken 68 = .ok (.iinc 5 1, 3) := by decide +kernel
theorem dX0_isTaken_71 : decode cX0_isTaken 71 = .ok (.goto (-68), 3) := by decide +kernel
theorem dX0_isTaken_74 : decode cX0_isTaken 74 = .ok (.iconst 0, 1) := by decide +kernel
theorem dX0_isTaken_75 : decode cX0_isTaken 75 = .ok (.ireturn, 1) := by decide +kernel
theorem dX0_busyBits_0 : decode cX0_busyBits 0 = .ok (.iconst 0, 1) := by decide +kernel
theorem dX0_busyBits_1 : decode cX0_busyBits 1 = .ok (.istore 4, 2) := by decide +kernel
theorem dX0_busyBits_3 : decode cX0_busyBits 3 = .ok (.iconst 0, 1) := by decide +kernel
theorem dX0_busyBits_4 : decode cX0_busyBits 4 = .ok (.istore 5, 2) := by decide +kernel
theorem dX0_busyBits_6 : decode cX0_busyBits 6 = .ok (.iload 5, 2) := by decide +kernel
theorem dX0_busyBits_8 : decode cX0_busyBits 8 = .ok (.aload_n 0, 1) := by decide +kernel
theorem dX0_busyBits_9 : decode cX0_busyBits 9 = .ok (.getfield 48, 3) := by decide +kernel
theorem dX0_busyBits_12 : decode cX0_busyBits 12 = .ok (.if_icmp .ge 52, 3) := by decide +kernel
theorem dX0_busyBits_15 : decode cX0_busyBits 15 = .ok (.aload_n 0, 1) := by decide +kernel
theorem dX0_busyBits_16 : decode cX0_busyBits 16 = .ok (.getfield 26, 3) := by decide +kernel
theorem dX0_busyBits_19 : decode cX0_busyBits 19 = .ok (.iload 5, 2) := by decide +kernel
theorem dX0_busyBits_21 : decode cX0_busyBits 21 = .ok (.aaload, 1) := by decide +kernel
theorem dX0_busyBits_22 : decode cX0_busyBits 22 = .ok (.astore 6, 2) := by decide +kernel
theorem dX0_busyBits_24 : decode cX0_busyBits 24 = .ok (.iload 5, 2) := by decide +kernel
theorem dX0_busyBits_26 : decode cX0_busyBits 26 = .ok (.iload_n 3, 1) := by decide +kernel
theorem dX0_busyBits_27 : decode cX0_busyBits 27 = .ok (.if_icmp .eq 31, 3) := by decide +kernel
theorem dX0_busyBits_30 : decode cX0_busyBits 30 = .ok (.aload 6, 2) := by decide +kernel
theorem dX0_busyBits_32 : decode cX0_busyBits 32 = .ok (.getfield 88, 3) := by decide +kernel
theorem dX0_busyBits_35 : decode cX0_busyBits 35 = .ok (.iload_n 1, 1) := by decide +kernel
theorem dX0_busyBits_36 : decode cX0_busyBits 36 = .ok (.if_icmp .ne 22, 3) := by decide +kernel
theorem dX0_busyBits_39 : decode cX0_busyBits 39 = .ok (.aload 6, 2) := by decide +kernel
theorem dX0_busyBits_41 : decode cX0_busyBits 41 = .ok (.getfield 98, 3) := by decide +kernel
theorem dX0_busyBits_44 : decode cX0_busyBits 44 = .ok (.iload_n 2, 1) := by decide +kernel
theorem dX0_busyBits_45 : decode cX0_busyBits 45 = .ok (.if_icmp .ne 13, 3) := by decide +kernel
theorem dX0_busyBits_48 : decode cX0_busyBits 48 = .ok (.iload 4, 2) := by decide +kernel
theorem dX0_busyBits_50 : decode cX0_busyBits 50 = .ok (.aload 6, 2) := by decide +kernel
theorem dX0_busyBits_52 : decode cX0_busyBits 52 = .ok (.invokevirtual 107, 3) := by decide +kernel
theorem dX0_busyBits_55 : decode cX0_busyBits 55 = .ok (.ior, 1) := by decide +kernel
theorem dX0_busyBits_56 : decode cX0_busyBits 56 = .ok (.istore 4, 2) := by decide +kernel
theorem dX0_busyBits_58 : decode cX0_busyBits 58 = .ok (.iinc 5 1, 3) := by decide +kernel
theorem dX0_busyBits_61 : decode cX0_busyBits 61 = .ok (.goto (-55), 3) := by decide +kernel
theorem dX0_busyBits_64 : decode cX0_busyBits 64 = .ok (.iload 4, 2) := by decide +kernel
theorem dX0_busyBits_66 : decode cX0_busyBits 66 = .ok (.ireturn, 1) := by decide +kernel
theorem dX0_slotsOn_0 : decode cX0_slotsOn 0 = .ok (.aload_n 0, 1) := by decide +kernel
theorem dX0_slotsOn_1 : decode cX0_slotsOn 1 = .ok (.iload_n 1, 1) := by decide +kernel
theorem dX0_slotsOn_2 : decode cX0_slotsOn 2 = .ok (.iload_n 2, 1) := by decide +kernel
theorem dX0_slotsOn_3 : decode cX0_slotsOn 3 = .ok (.iconst (-1), 1) := by decide +kernel
theorem dX0_slotsOn_4 : decode cX0_slotsOn 4 = .ok (.invokevirtual 111, 3) := by decide +kernel
theorem dX0_slotsOn_7 : decode cX0_slotsOn 7 = .ok (.invokestatic 115, 3) := by decide +kernel
theorem dX0_slotsOn_10 : decode cX0_slotsOn 10 = .ok (.ireturn, 1) := by decide +kernel
theorem dX0_reasonAgainst_0 : decode cX0_reasonAgainst 0 = .ok (.aload_n 0, 1) := by decide +kernel
theorem dX0_reasonAgainst_1 : decode cX0_reasonAgainst 1 = .ok (.getfield 26, 3) := by decide +kernel
theorem dX0_reasonAgainst_4 : decode cX0_reasonAgainst 4 = .ok (.iload_n 1, 1) := by decide +kernel
theorem dX0_reasonAgainst_5 : decode cX0_reasonAgainst 5 = .ok (.aaload, 1) := by decide +kernel
theorem dX0_reasonAgainst_6 : decode cX0_reasonAgainst 6 = .ok (.astore_n 3, 1) := by decide +kernel
theorem dX0_reasonAgainst_7 : decode cX0_reasonAgainst 7 = .ok (.aload_n 3, 1) := by decide +kernel
theorem dX0_reasonAgainst_8 : decode cX0_reasonAgainst 8 = .ok (.getfield 98, 3) := by decide +kernel
theorem dX0_reasonAgainst_11 : decode cX0_reasonAgainst 11 = .ok (.aload_n 0, 1) := by decide +kernel
theorem dX0_reasonAgainst_12 : decode cX0_reasonAgainst 12 = .ok (.getfield 15, 3) := by decide +kernel
theorem dX0_reasonAgainst_15 : decode cX0_reasonAgainst 15 = .ok (.iload_n 2, 1) := by decide +kernel
theorem dX0_reasonAgainst_16 : decode cX0_reasonAgainst 16 = .ok (.iaload, 1) := by decide +kernel
theorem dX0_reasonAgainst_17 : decode cX0_reasonAgainst 17 = .ok (.if_icmp .ge 5, 3) := by decide +kernel
theorem dX0_reasonAgainst_20 : decode cX0_reasonAgainst 20 = .ok (.iconst 1, 1) := by decide +kernel
theorem dX0_reasonAgainst_21 : decode cX0_reasonAgainst 21 = .ok (.ireturn, 1) := by decide +kernel
theorem dX0_reasonAgainst_22 : decode cX0_reasonAgainst 22 = .ok (.aload_n 0, 1) := by decide +kernel
theorem dX0_reasonAgainst_23 : decode cX0_reasonAgainst 23 = .ok (.iload_n 2, 1) := by decide +kernel
theorem dX0_reasonAgainst_24 : decode cX0_reasonAgainst 24 = .ok (.aload_n 3, 1) := by decide +kernel
theorem dX0_reasonAgainst_25 : decode cX0_reasonAgainst 25 = .ok (.getfield 98, 3) := by decide +kernel
theorem dX0_reasonAgainst_28 : decode cX0_reasonAgainst 28 = .ok (.iload_n 1, 1) := by decide +kernel
theorem dX0_reasonAgainst_29 : decode cX0_reasonAgainst 29 = .ok (.invokevirtual 111, 3) := by decide +kernel
theorem dX0_reasonAgainst_32 : decode cX0_reasonAgainst 32 = .ok (.istore 4, 2) := by decide +kernel
theorem dX0_reasonAgainst_34 : decode cX0_reasonAgainst 34 = .ok (.iload 4, 2) := by decide +kernel
theorem dX0_reasonAgainst_36 : decode cX0_reasonAgainst 36 = .ok (.aload_n 3, 1) := by decide +kernel
theorem dX0_reasonAgainst_37 : decode cX0_reasonAgainst 37 = .ok (.invokevirtual 107, 3) := by decide +kernel
theorem dX0_reasonAgainst_40 : decode cX0_reasonAgainst 40 = .ok (.iand, 1) := by decide +kernel
theorem dX0_reasonAgainst_41 : decode cX0_reasonAgainst 41 = .ok (.ifCond .eq 5, 3) := by decide +kernel
theorem dX0_reasonAgainst_44 : decode cX0_reasonAgainst 44 = .ok (.iconst 2, 1) := by decide +kernel
theorem dX0_reasonAgainst_45 : decode cX0_reasonAgainst 45 = .ok (.ireturn, 1) := by decide +kernel
theorem dX0_reasonAgainst_46 : decode cX0_reasonAgainst 46 = .ok (.iload 4, 2) := by decide +kernel
theorem dX0_reasonAgainst_48 : decode cX0_reasonAgainst 48 = .ok (.aload_n 3, 1) := by decide +kernel
theorem dX0_reasonAgainst_49 : decode cX0_reasonAgainst 49 = .ok (.invokevirtual 107, 3) := by decide +kernel
theorem dX0_reasonAgainst_52 : decode cX0_reasonAgainst 52 = .ok (.ior, 1) := by decide +kernel
theorem dX0_reasonAgainst_53 : decode cX0_reasonAgainst 53 = .ok (.istore 5, 2) := by decide +kernel
theorem dX0_reasonAgainst_55 : decode cX0_reasonAgainst 55 = .ok (.iload 5, 2) := by decide +kernel
theorem dX0_reasonAgainst_57 : decode cX0_reasonAgainst 57 = .ok (.invokestatic 120, 3) := by decide +kernel
theorem dX0_reasonAgainst_60 : decode cX0_reasonAgainst 60 = .ok (.aload_n 0, 1) := by decide +kernel
theorem dX0_reasonAgainst_61 : decode cX0_reasonAgainst 61 = .ok (.getfield 21, 3) := by decide +kernel
theorem dX0_reasonAgainst_64 : decode cX0_reasonAgainst 64 = .ok (.iconst 0, 1) := by decide +kernel
theorem dX0_reasonAgainst_65 : decode cX0_reasonAgainst 65 = .ok (.iaload, 1) := by decide +kernel
theorem dX0_reasonAgainst_66 : decode cX0_reasonAgainst 66 = .ok (.if_icmp .le 5, 3) := by decide +kernel
theorem dX0_reasonAgainst_69 : decode cX0_reasonAgainst 69 = .ok (.iconst 3, 1) := by decide +kernel
theorem dX0_reasonAgainst_70 : decode cX0_reasonAgainst 70 = .ok (.ireturn, 1) := by decide +kernel
theorem dX0_reasonAgainst_71 : decode cX0_reasonAgainst 71 = .ok (.iload 5, 2) := by decide +kernel
theorem dX0_reasonAgainst_73 : decode cX0_reasonAgainst 73 = .ok (.invokestatic 115, 3) := by decide +kernel
theorem dX0_reasonAgainst_76 : decode cX0_reasonAgainst 76 = .ok (.aload_n 0, 1) := by decide +kernel
theorem dX0_reasonAgainst_77 : decode cX0_reasonAgainst 77 = .ok (.getfield 21, 3) := by decide +kernel
theorem dX0_reasonAgainst_80 : decode cX0_reasonAgainst 80 = .ok (.iconst 1, 1) := by decide +kernel
theorem dX0_reasonAgainst_81 : decode cX0_reasonAgainst 81 = .ok (.iaload, 1) := by decide +kernel
theorem dX0_reasonAgainst_82 : decode cX0_reasonAgainst 82 = .ok (.if_icmp .le 7, 3) := by decide +kernel
theorem dX0_reasonAgainst_85 : decode cX0_reasonAgainst 85 = .ok (.iconst 4, 1) := by decide +kernel
theorem dX0_reasonAgainst_86 : decode cX0_reasonAgainst 86 = .ok (.goto 4, 3) := by decide +kernel
theorem dX0_reasonAgainst_89 : decode cX0_reasonAgainst 89 = .ok (.iconst 0, 1) := by decide +kernel
theorem dX0_reasonAgainst_90 : decode cX0_reasonAgainst 90 = .ok (.ireturn, 1) := by decide +kernel
theorem dX0_longestRow_0 : decode cX0_longestRow 0 = .ok (.iconst 0, 1) := by decide +kernel
theorem dX0_longestRow_1 : decode cX0_longestRow 1 = .ok (.istore_n 1, 1) := by decide +kernel
theorem dX0_longestRow_2 : decode cX0_longestRow 2 = .ok (.iconst 0, 1) := by decide +kernel
theorem dX0_longestRow_3 : decode cX0_longestRow 3 = .ok (.istore_n 2, 1) := by decide +kernel
theorem dX0_longestRow_4 : decode cX0_longestRow 4 = .ok (.iconst 0, 1) := by decide +kernel
theorem dX0_longestRow_5 : decode cX0_longestRow 5 = .ok (.istore_n 3, 1) := by decide +kernel
theorem dX0_longestRow_6 : decode cX0_longestRow 6 = .ok (.iload_n 3, 1) := by decide +kernel
theorem dX0_longestRow_7 : decode cX0_longestRow 7 = .ok (.bipush 16, 2) := by decide +kernel
theorem dX0_longestRow_9 : decode cX0_longestRow 9 = .ok (.if_icmp .ge 32, 3) := by decide +kernel
theorem dX0_longestRow_12 : decode cX0_longestRow 12 = .ok (.iload_n 0, 1) := by decide +kernel
theorem dX0_longestRow_13 : decode cX0_longestRow 13 = .ok (.iload_n 3, 1) := by decide +kernel
theorem dX0_longestRow_14 : decode cX0_longestRow 14 = .ok (.ishr, 1) := by decide +kernel
theorem dX0_longestRow_15 : decode cX0_longestRow 15 = .ok (.iconst 1, 1) := by decide +kernel
theorem dX0_longestRow_16 : decode cX0_longestRow 16 = .ok (.iand, 1) := by decide +kernel
theorem dX0_longestRow_17 : decode cX0_longestRow 17 = .ok (.iconst 1, 1) := by decide +kernel
theorem dX0_longestRow_18 : decode cX0_longestRow 18 = .ok (.if_icmp .ne 9, 3) := by decide +kernel
theorem dX0_longestRow_21 : decode cX0_longestRow 21 = .ok (.iload_n 2, 1) := by decide +kernel
theorem dX0_longestRow_22 : decode cX0_longestRow 22 = .ok (.iconst 1, 1) := by decide +kernel
theorem dX0_longestRow_23 : decode cX0_longestRow 23 = .ok (.iadd, 1) := by decide +kernel
theorem dX0_longestRow_24 : decode cX0_longestRow 24 = .ok (.goto 4, 3) := by decide +kernel
theorem dX0_longestRow_27 : decode cX0_longestRow 27 = .ok (.iconst 0, 1) := by decide +kernel
theorem dX0_longestRow_28 : decode cX0_longestRow 28 = .ok (.istore_n 2, 1) := by decide +kernel
theorem dX0_longestRow_29 : decode cX0_longestRow 29 = .ok (.iload_n 1, 1) := by decide +kernel
theorem dX0_longestRow_30 : decode cX0_longestRow 30 = .ok (.iload_n 2, 1) := by decide +kernel
theorem dX0_longestRow_31 : decode cX0_longestRow 31 = .ok (.invokestatic 123, 3) := by decide +kernel
theorem dX0_longestRow_34 : decode cX0_longestRow 34 = .ok (.istore_n 1, 1) := by decide +kernel
theorem dX0_longestRow_35 : decode cX0_longestRow 35 = .ok (.iinc 3 1, 3) := by decide +kernel
theorem dX0_longestRow_38 : decode cX0_longestRow 38 = .ok (.goto (-32), 3) := by decide +kernel
theorem dX0_longestRow_41 : decode cX0_longestRow 41 = .ok (.iload_n 1, 1) := by decide +kernel
theorem dX0_longestRow_42 : decode cX0_longestRow 42 = .ok (.ireturn, 1) := by decide +kernel
theorem dX0_bestFor_0 : decode cX0_bestFor 0 = .ok (.iconst (-1), 1) := by decide +kernel
theorem dX0_bestFor_1 : decode cX0_bestFor 1 = .ok (.istore_n 2, 1) := by decide +kernel
theorem dX0_bestFor_2 : decode cX0_bestFor 2 = .ok (.iconst 0, 1) := by decide +kernel
theorem dX0_bestFor_3 : decode cX0_bestFor 3 = .ok (.istore_n 3, 1) := by decide +kernel
theorem dX0_bestFor_4 : decode cX0_bestFor 4 = .ok (.iconst 0, 1) := by decide +kernel
theorem dX0_bestFor_5 : decode cX0_bestFor 5 = .ok (.istore 4, 2) := by decide +kernel
theorem dX0_bestFor_7 : decode cX0_bestFor 7 = .ok (.iconst 0, 1) := by decide +kernel
theorem dX0_bestFor_8 : decode cX0_bestFor 8 = .ok (.istore 5, 2) := by decide +kernel
theorem dX0_bestFor_10 : decode cX0_bestFor 10 = .ok (.iload 5, 2) := by decide +kernel
theorem dX0_bestFor_12 : decode cX0_bestFor 12 = .ok (.aload_n 0, 1) := by decide +kernel
theorem dX0_bestFor_13 : decode cX0_bestFor 13 = .ok (.getfield 45, 3) := by decide +kernel
theorem dX0_bestFor_16 : decode cX0_bestFor 16 = .ok (.if_icmp .ge 85, 3) := by decide +kernel
theorem dX0_bestFor_19 : decode cX0_bestFor 19 = .ok (.aload_n 0, 1) := by decide +kernel
theorem dX0_bestFor_20 : decode cX0_bestFor 20 = .ok (.iload_n 1, 1) := by decide +kernel
theorem dX0_bestFor_21 : decode cX0_bestFor 21 = .ok (.iload 5, 2) := by decide +kernel
theorem dX0_bestFor_23 : decode cX0_bestFor 23 = .ok (.invokevirtual 91, 3) := by decide +kernel
theorem dX0_bestFor_26 : decode cX0_bestFor 26 = .ok (.ifCond .ne 69, 3) := by decide +kernel
theorem dX0_bestFor_29 : decode cX0_bestFor 29 = .ok (.aload_n 0, 1) := by decide +kernel
theorem dX0_bestFor_30 : decode cX0_bestFor 30 = .ok (.iload 5, 2) := by decide +kernel
theorem dX0_bestFor_32 : decode cX0_bestFor 32 = .ok (.aload_n 0, 1) := by decide +kernel
theorem dX0_bestFor_33 : decode cX0_bestFor 33 = .ok (.getfield 26, 3) := by decide +kernel
theorem dX0_bestFor_36 : decode cX0_bestFor 36 = .ok (.iload_n 1, 1) := by decide +kernel
theorem dX0_bestFor_37 : decode cX0_bestFor 37 = .ok (.aaload, 1) := by decide +kernel
theorem dX0_bestFor_38 : decode cX0_bestFor 38 = .ok (.getfield 98, 3) := by decide +kernel
theorem dX0_bestFor_41 : decode cX0_bestFor 41 = .ok (.iload_n 1, 1) := by decide +kernel
theorem dX0_bestFor_42 : decode cX0_bestFor 42 = .ok (.invokevirtual 111, 3) := by decide +kernel
theorem dX0_bestFor_45 : decode cX0_bestFor 45 = .ok (.invokestatic 115, 3) := by decide +kernel
theorem dX0_bestFor_48 : decode cX0_bestFor 48 = .ok (.istore 6, 2) := by decide +kernel
theorem dX0_bestFor_50 : decode cX0_bestFor 50 = .ok (.aload_n 0, 1) := by decide +kernel
theorem dX0_bestFor_51 : decode cX0_bestFor 51 = .ok (.getfield 34, 3) := by decide +kernel
theorem dX0_bestFor_54 : decode cX0_bestFor 54 = .ok (.iload 5, 2) := by decide +kernel
theorem dX0_bestFor_56 : decode cX0_bestFor 56 = .ok (.invokevirtual 128, 3) := by decide +kernel
theorem dX0_bestFor_59 : decode cX0_bestFor 59 = .ok (.istore 7, 2) := by decide +kernel
theorem dX0_bestFor_61 : decode cX0_bestFor 61 = .ok (.iload_n 2, 1) := by decide +kernel
theorem dX0_bestFor_62 : decode cX0_bestFor 62 = .ok (.iconst (-1), 1) := by decide +kernel
theorem dX0_bestFor_63 : decode cX0_bestFor 63 = .ok (.if_icmp .eq 22, 3) := by decide +kernel
theorem dX0_bestFor_66 : decode cX0_bestFor 66 = .ok (.iload 6, 2) := by decide +kernel
theorem dX0_bestFor_68 : decode cX0_bestFor 68 = .ok (.iload_n 3, 1) := by decide +kernel
theorem dX0_bestFor_69 : decode cX0_bestFor 69 = .ok (.if_icmp .lt 16, 3) := by decide +kernel
theorem dX0_bestFor_72 : decode cX0_bestFor 72 = .ok (.iload 6, 2) := by decide +kernel
theorem dX0_bestFor_74 : decode cX0_bestFor 74 = .ok (.iload_n 3, 1) := by decide +kernel
theorem dX0_bestFor_75 : decode cX0_bestFor 75 = .ok (.if_icmp .ne 20, 3) := by decide +kernel
theorem dX0_bestFor_78 : decode cX0_bestFor 78 = .ok (.iload 7, 2) := by decide +kernel
theorem dX0_bestFor_80 : decode cX0_bestFor 80 = .ok (.iload 4, 2) := by decide +kernel
theorem dX0_bestFor_82 : decode cX0_bestFor 82 = .ok (.if_icmp .ge 13, 3) := by decide +kernel
theorem dX0_bestFor_85 : decode cX0_bestFor 85 = .ok (.iload 5, 2) := by decide +kernel
theorem dX0_bestFor_87 : decode cX0_bestFor 87 = .ok (.istore_n 2, 1) := by decide +kernel
theorem dX0_bestFor_88 : decode cX0_bestFor 88 = .ok (.iload 6, 2) := by decide +kernel
theorem dX0_bestFor_90 : decode cX0_bestFor 90 = .ok (.istore_n 3, 1) := by decide +kernel
theorem dX0_bestFor_91 : decode cX0_bestFor 91 = .ok (.iload 7, 2) := by decide +kernel
theorem dX0_bestFor_93 : decode cX0_bestFor 93 = .ok (.istore 4, 2) := by decide +kernel
theorem dX0_bestFor_95 : decode cX0_bestFor 95 = .ok (.iinc 5 1, 3) := by decide +kernel
theorem dX0_bestFor_98 : decode cX0_bestFor 98 = .ok (.goto (-88), 3) := by decide +kernel
theorem dX0_bestFor_101 : decode cX0_bestFor 101 = .ok (.iload_n 2, 1) := by decide +kernel
theorem dX0_bestFor_102 : decode cX0_bestFor 102 = .ok (.ireturn, 1) := by decide +kernel
theorem dX0_giveToBest_0 : decode cX0_giveToBest 0 = .ok (.iconst 0, 1) := by decide +kernel
theorem dX0_giveToBest_1 : decode cX0_giveToBest 1 = .ok (.istore_n 1, 1) := by decide +kernel
theorem dX0_giveToBest_2 : decode cX0_giveToBest 2 = .ok (.iconst 0, 1) := by decide +kernel
theorem dX0_giveToBest_3 : decode cX0_giveToBest 3 = .ok (.istore_n 2, 1) := by decide +kernel
theorem dX0_giveToBest_4 : decode cX0_giveToBest 4 = .ok (.iload_n 2, 1) := by decide +kernel
theorem dX0_giveToBest_5 : decode cX0_giveToBest 5 = .ok (.aload_n 0, 1) := by decide +kernel
theorem dX0_giveToBest_6 : decode cX0_giveToBest 6 = .ok (.getfield 48, 3) := by decide +kernel
theorem dX0_giveToBest_9 : decode cX0_giveToBest 9 = .ok (.if_icmp .ge 57, 3) := by decide +kernel
theorem dX0_giveToBest_12 : decode cX0_giveToBest 12 = .ok (.aload_n 0, 1) := by decide +kernel
theorem dX0_giveToBest_13 : decode cX0_giveToBest 13 = .ok (.getfield 26, 3) := by decide +kernel
theorem dX0_giveToBest_16 : decode cX0_giveToBest 16 = .ok (.iload_n 2, 1) := by decide +kernel
theorem dX0_giveToBest_17 : decode cX0_giveToBest 17 = .ok (.aaload, 1) := by decide +kernel
theorem dX0_giveToBest_18 : decode cX0_giveToBest 18 = .ok (.getfield 88, 3) := by decide +kernel
theorem dX0_giveToBest_21 : decode cX0_giveToBest 21 = .ok (.iconst (-1), 1) := by decide +kernel
theorem dX0_giveToBest_22 : decode cX0_giveToBest 22 = .ok (.if_icmp .ne 38, 3) := by decide +kernel
theorem dX0_giveToBest_25 : decode cX0_giveToBest 25 = .ok (.aload_n 0, 1) := by decide +kernel
theorem dX0_giveToBest_26 : decode cX0_giveToBest 26 = .ok (.getfield 26, 3) := by decide +kernel
theorem dX0_giveToBest_29 : decode cX0_giveToBest 29 = .ok (.iload_n 2, 1) := by decide +kernel
theorem dX0_giveToBest_30 : decode cX0_giveToBest 30 = .ok (.aaload, 1) := by decide +kernel
theorem dX0_giveToBest_31 : decode cX0_giveToBest 31 = .ok (.aload_n 0, 1) := by decide +kernel
theorem dX0_giveToBest_32 : decode cX0_giveToBest 32 = .ok (.iload_n 2, 1) := by decide +kernel
theorem dX0_giveToBest_33 : decode cX0_giveToBest 33 = .ok (.invokevirtual 131, 3) := by decide +kernel
theorem dX0_giveToBest_36 : decode cX0_giveToBest 36 = .ok (.putfield 88, 3) := by decide +kernel
theorem dX0_giveToBest_39 : decode cX0_giveToBest 39 = .ok (.iload_n 1, 1) := by decide +kernel
theorem dX0_giveToBest_40 : decode cX0_giveToBest 40 = .ok (.aload_n 0, 1) := by decide +kernel
theorem dX0_giveToBest_41 : decode cX0_giveToBest 41 = .ok (.getfield 26, 3) := by decide +kernel
theorem dX0_giveToBest_44 : decode cX0_giveToBest 44 = .ok (.iload_n 2, 1) := by decide +kernel
theorem dX0_giveToBest_45 : decode cX0_giveToBest 45 = .ok (.aaload, 1) := by decide +kernel
theorem dX0_giveToBest_46 : decode cX0_giveToBest 46 = .ok (.getfield 88, 3) := by decide +kernel
theorem dX0_giveToBest_49 : decode cX0_giveToBest 49 = .ok (.iconst (-1), 1) := by decide +kernel
theorem dX0_giveToBest_50 : decode cX0_giveToBest 50 = .ok (.if_icmp .ne 7, 3) := by decide +kernel
theorem dX0_giveToBest_53 : decode cX0_giveToBest 53 = .ok (.iconst 0, 1) := by decide +kernel
theorem dX0_giveToBest_54 : decode cX0_giveToBest 54 = .ok (.goto 4, 3) := by decide +kernel
theorem dX0_giveToBest_57 : decode cX0_giveToBest 57 = .ok (.iconst 1, 1) := by decide +kernel
theorem dX0_giveToBest_58 : decode cX0_giveToBest 58 = .ok (.iadd, 1) := by decide +kernel
theorem dX0_giveToBest_59 : decode cX0_giveToBest 59 = .ok (.istore_n 1, 1) := by decide +kernel
theorem dX0_giveToBest_60 : decode cX0_giveToBest 60 = .ok (.iinc 2 1, 3) := by decide +kernel
theorem dX0_giveToBest_63 : decode cX0_giveToBest 63 = .ok (.goto (-59), 3) := by decide +kernel
theorem dX0_giveToBest_66 : decode cX0_giveToBest 66 = .ok (.iload_n 1, 1) := by decide +kernel
theorem dX0_giveToBest_67 : decode cX0_giveToBest 67 = .ok (.ireturn, 1) := by decide +kernel
theorem dX0_sessionsOf_0 : decode cX0_sessionsOf 0 = .ok (.iconst 0, 1) := by decide +kernel
theorem dX0_sessionsOf_1 : decode cX0_sessionsOf 1 = .ok (.istore_n 2, 1) := by decide +kernel
theorem dX0_sessionsOf_2 : decode cX0_sessionsOf 2 = .ok (.iconst 0, 1) := by decide +kernel
theorem dX0_sessionsOf_3 : decode cX0_sessionsOf 3 = .ok (.istore_n 3, 1) := by decide +kernel
theorem dX0_sessionsOf_4 : decode cX0_sessionsOf 4 = .ok (.iload_n 3, 1) := by decide +kernel
theorem dX0_sessionsOf_5 : decode cX0_sessionsOf 5 = .ok (.aload_n 0, 1) := by decide +kernel
theorem dX0_sessionsOf_6 : decode cX0_sessionsOf 6 = .ok (.getfield 48, 3) := by decide +kernel
theorem dX0_sessionsOf_9 : decode cX0_sessionsOf 9 = .ok (.if_icmp .ge 25, 3) := by decide +kernel
theorem dX0_sessionsOf_12 : decode cX0_sessionsOf 12 = .ok (.aload_n 0, 1) := by decide +kernel
theorem dX0_sessionsOf_13 : decode cX0_sessionsOf 13 = .ok (.getfield 26, 3) := by decide +kernel
theorem dX0_sessionsOf_16 : decode cX0_sessionsOf 16 = .ok (.iload_n 3, 1) := by decide +kernel
theorem dX0_sessionsOf_17 : decode cX0_sessionsOf 17 = .ok (.aaload, 1) := by decide +kernel
theorem dX0_sessionsOf_18 : decode cX0_sessionsOf 18 = .ok (.getfield 88, 3) := by decide +kernel
theorem dX0_sessionsOf_21 : decode cX0_sessionsOf 21 = .ok (.iload_n 1, 1) := by decide +kernel
theorem dX0_sessionsOf_22 : decode cX0_sessionsOf 22 = .ok (.if_icmp .ne 6, 3) := by decide +kernel
theorem dX0_sessionsOf_25 : decode cX0_sessionsOf 25 = .ok (.iinc 2 1, 3) := by decide +kernel
theorem dX0_sessionsOf_28 : decode cX0_sessionsOf 28 = .ok (.iinc 3 1, 3) := by decide +kernel
theorem dX0_sessionsOf_31 : decode cX0_sessionsOf 31 = .ok (.goto (-27), 3) := by decide +kernel
theorem dX0_sessionsOf_34 : decode cX0_sessionsOf 34 = .ok (.iload_n 2, 1) := by decide +kernel
theorem dX0_sessionsOf_35 : decode cX0_sessionsOf 35 = .ok (.ireturn, 1) := by decide +kernel
theorem dX0_addStenographer_0 : decode cX0_addStenographer 0 = .ok (.aload_n 0, 1) := by decide +kernel
theorem dX0_addStenographer_1 : decode cX0_addStenographer 1 = .ok (.getfield 45, 3) := by decide +kernel
theorem dX0_addStenographer_4 : decode cX0_addStenographer 4 = .ok (.istore_n 2, 1) := by decide +kernel
theorem dX0_addStenographer_5 : decode cX0_addStenographer 5 = .ok (.aload_n 0, 1) := by decide +kernel
theorem dX0_addStenographer_6 : decode cX0_addStenographer 6 = .ok (.getfield 11, 3) := by decide +kernel
theorem dX0_addStenographer_9 : decode cX0_addStenographer 9 = .ok (.iload_n 2, 1) := by decide +kernel
theorem dX0_addStenographer_10 : decode cX0_addStenographer 10 = .ok (.iload_n 1, 1) := by decide +kernel
theorem dX0_addStenographer_11 : decode cX0_addStenographer 11 = .ok (.iastore, 1) := by decide +kernel
theorem dX0_addStenographer_12 : decode cX0_addStenographer 12 = .ok (.aload_n 0, 1) := by decide +kernel
theorem dX0_addStenographer_13 : decode cX0_addStenographer 13 = .ok (.getfield 15, 3) := by decide +kernel
theorem dX0_addStenographer_16 : decode cX0_addStenographer 16 = .ok (.iload_n 2, 1) := by decide +kernel
theorem dX0_addStenographer_17 : decode cX0_addStenographer 17 = .ok (.iconst 0, 1) := by decide +kernel
theorem dX0_addStenographer_18 : decode cX0_addStenographer 18 = .ok (.iastore, 1) := by decide +kernel
theorem dX0_addStenographer_19 : decode cX0_addStenographer 19 = .ok (.aload_n 0, 1) := by decide +kernel
theorem dX0_addStenographer_20 : decode cX0_addStenographer 20 = .ok (.getfield 18, 3) := by decide +kernel
theorem dX0_addStenographer_23 : decode cX0_addStenographer 23 = .ok (.iload_n 2, 1) := by decide +kernel
theorem dX0_addStenographer_24 : decode cX0_addStenographer 24 = .ok (.iconst 0, 1) := by decide +kernel
theorem dX0_addStenographer_25 : decode cX0_addStenographer 25 = .ok (.iastore, 1) := by decide +kernel
theorem dX0_addStenographer_26 : decode cX0_addStenographer 26 = .ok (.aload_n 0, 1) := by decide +kernel
theorem dX0_addStenographer_27 : decode cX0_addStenographer 27 = .ok (.dup, 1) := by decide +kernel
theorem dX0_addStenographer_28 : decode cX0_addStenographer 28 = .ok (.getfield 45, 3) := by decide +kernel
theorem dX0_addStenographer_31 : decode cX0_addStenographer 31 = .ok (.iconst 1, 1) := by decide +kernel
theorem dX0_addStenographer_32 : decode cX0_addStenographer 32 = .ok (.iadd, 1) := by decide +kernel
theorem dX0_addStenographer_33 : decode cX0_addStenographer 33 = .ok (.putfield 45, 3) := by decide +kernel
theorem dX0_addStenographer_36 : decode cX0_addStenographer 36 = .ok (.iload_n 2, 1) := by decide +kernel
theorem dX0_addStenographer_37 : decode cX0_addStenographer 37 = .ok (.ireturn, 1) := by decide +kernel
theorem dX0_addSession_0 : decode cX0_addSession 0 = .ok (.aload_n 0, 1) := by decide +kernel
theorem dX0_addSession_1 : decode cX0_addSession 1 = .ok (.getfield 48, 3) := by decide +kernel
theorem dX0_addSession_4 : decode cX0_addSession 4 = .ok (.istore 6, 2) := by decide +kernel
theorem dX0_addSession_6 : decode cX0_addSession 6 = .ok (.aload_n 0, 1) := by decide +kernel
theorem dX0_addSession_7 : decode cX0_addSession 7 = .ok (.getfield 26, 3) := by decide +kernel
theorem dX0_addSession_10 : decode cX0_addSession 10 = .ok (.iload 6, 2) := by decide +kernel
theorem dX0_addSession_12 : decode cX0_addSession 12 = .ok (.aaload, 1) := by decide +kernel
theorem dX0_addSession_13 : decode cX0_addSession 13 = .ok (.astore 7, 2) := by decide +kernel
theorem dX0_addSession_15 : decode cX0_addSession 15 = .ok (.aload 7, 2) := by decide +kernel
theorem dX0_addSession_17 : decode cX0_addSession 17 = .ok (.iload_n 1, 1) := by decide +kernel
theorem dX0_addSession_18 : decode cX0_addSession 18 = .ok (.putfield 95, 3) := by decide +kernel
theorem dX0_addSession_21 : decode cX0_addSession 21 = .ok (.aload 7, 2) := by decide +kernel
theorem dX0_addSession_23 : decode cX0_addSession 23 = .ok (.iload_n 2, 1) := by decide +kernel
theorem dX0_addSession_24 : decode cX0_addSession 24 = .ok (.putfield 98, 3) := by decide +kernel
theorem dX0_addSession_27 : decode cX0_addSession 27 = .ok (.aload 7, 2) := by decide +kernel
theorem dX0_addSession_29 : decode cX0_addSession 29 = .ok (.iload_n 3, 1) := by decide +kernel
theorem dX0_addSession_30 : decode cX0_addSession 30 = .ok (.putfield 101, 3) := by decide +kernel
theorem dX0_addSession_33 : decode cX0_addSession 33 = .ok (.aload 7, 2) := by decide +kernel
theorem dX0_addSession_35 : decode cX0_addSession 35 = .ok (.iload 4, 2) := by decide +kernel
theorem dX0_addSession_37 : decode cX0_addSession 37 = .ok (.putfield 104, 3) := by decide +kernel
theorem dX0_addSession_40 : decode cX0_addSession 40 = .ok (.aload 7, 2) := by decide +kernel
theorem dX0_addSession_42 : decode cX0_addSession 42 = .ok (.iload 5, 2) := by decide +kernel
theorem dX0_addSession_44 : decode cX0_addSession 44 = .ok (.putfield 134, 3) := by decide +kernel
theorem dX0_addSession_47 : decode cX0_addSession 47 = .ok (.aload 7, 2) := by decide +kernel
theorem dX0_addSession_49 : decode cX0_addSession 49 = .ok (.iconst (-1), 1) := by decide +kernel
theorem dX0_addSession_50 : decode cX0_addSession 50 = .ok (.putfield 88, 3) := by decide +kernel
theorem dX0_addSession_53 : decode cX0_addSession 53 = .ok (.aload_n 0, 1) := by decide +kernel
theorem dX0_addSession_54 : decode cX0_addSession 54 = .ok (.dup, 1) := by decide +kernel
theorem dX0_addSession_55 : decode cX0_addSession 55 = .ok (.getfield 48, 3) := by decide +kernel
theorem dX0_addSession_58 : decode cX0_addSession 58 = .ok (.iconst 1, 1) := by decide +kernel
theorem dX0_addSession_59 : decode cX0_addSession 59 = .ok (.iadd, 1) := by decide +kernel
theorem dX0_addSession_60 : decode cX0_addSession 60 = .ok (.putfield 48, 3) := by decide +kernel
theorem dX0_addSession_63 : decode cX0_addSession 63 = .ok (.aload_n 0, 1) := by decide +kernel
theorem dX0_addSession_64 : decode cX0_addSession 64 = .ok (.iload 6, 2) := by decide +kernel
theorem dX0_addSession_66 : decode cX0_addSession 66 = .ok (.invokevirtual 137, 3) := by decide +kernel
theorem dX0_addSession_69 : decode cX0_addSession 69 = .ok (.ireturn, 1) := by decide +kernel
theorem dX0_moveForward_0 : decode cX0_moveForward 0 = .ok (.aload_n 0, 1) := by decide +kernel
theorem dX0_moveForward_1 : decode cX0_moveForward 1 = .ok (.getfield 26, 3) := by decide +kernel
theorem dX0_moveForward_4 : decode cX0_moveForward 4 = .ok (.iload_n 1, 1) := by decide +kernel
theorem dX0_moveForward_5 : decode cX0_moveForward 5 = .ok (.aaload, 1) := by decide +kernel
theorem dX0_moveForward_6 : decode cX0_moveForward 6 = .ok (.astore_n 2, 1) := by decide +kernel
theorem dX0_moveForward_7 : decode cX0_moveForward 7 = .ok (.iload_n 1, 1) := by decide +kernel
theorem dX0_moveForward_8 : decode cX0_moveForward 8 = .ok (.istore_n 3, 1) := by decide +kernel
theorem dX0_moveForward_9 : decode cX0_moveForward 9 = .ok (.iload_n 3, 1) := by decide +kernel
theorem dX0_moveForward_10 : decode cX0_moveForward 10 = .ok (.ifCond .le 41, 3) := by decide +kernel
theorem dX0_moveForward_13 : decode cX0_moveForward 13 = .ok (.aload_n 0, 1) := by decide +kernel
theorem dX0_moveForward_14 : decode cX0_moveForward 14 = .ok (.getfield 26, 3) := by decide +kernel
theorem dX0_moveForward_17 : decode cX0_moveForward 17 = .ok (.iload_n 3, 1) := by decide +kernel
theorem dX0_moveForward_18 : decode cX0_moveForward 18 = .ok (.iconst 1, 1) := by decide +kernel
theorem dX0_moveForward_19 : decode cX0_moveForward 19 = .ok (.isub, 1) := by decide +kernel
theorem dX0_moveForward_20 : decode cX0_moveForward 20 = .ok (.aaload, 1) := by decide +kernel
theorem dX0_moveForward_21 : decode cX0_moveForward 21 = .ok (.invokevirtual 140, 3) := by decide +kernel
theorem dX0_moveForward_24 : decode cX0_moveForward 24 = .ok (.aload_n 2, 1) := by decide +kernel
theorem dX0_moveForward_25 : decode cX0_moveForward 25 = .ok (.invokevirtual 140, 3) := by decide +kernel
theorem dX0_moveForward_28 : decode cX0_moveForward 28 = .ok (.if_icmp .le 23, 3) := by decide +kernel
theorem dX0_moveForward_31 : decode cX0_moveForward 31 = .ok (.aload_n 0, 1) := by decide +kernel
theorem dX0_moveForward_32 : decode cX0_moveForward 32 = .ok (.getfield 26, 3) := by decide +kernel
theorem dX0_moveForward_35 : decode cX0_moveForward 35 = .ok (.iload_n 3, 1) := by decide +kernel
theorem dX0_moveForward_36 : decode cX0_moveForward 36 = .ok (.aload_n 0, 1) := by decide +kernel
theorem dX0_moveForward_37 : decode cX0_moveForward 37 = .ok (.getfield 26, 3) := by decide +kernel
theorem dX0_moveForward_40 : decode cX0_moveForward 40 = .ok (.iload_n 3, 1) := by decide +kernel
theorem dX0_moveForward_41 : decode cX0_moveForward 41 = .ok (.iconst 1, 1) := by decide +kernel
theorem dX0_moveForward_42 : decode cX0_moveForward 42 = .ok (.isub, 1) := by decide +kernel
theorem dX0_moveForward_43 : decode cX0_moveForward 43 = .ok (.aaload, 1) := by decide +kernel
theorem dX0_moveForward_44 : decode cX0_moveForward 44 = .ok (.aastore, 1) := by decide +kernel
theorem dX0_moveForward_45 : decode cX0_moveForward 45 = .ok (.iinc 3 (-1), 3) := by decide +kernel
theorem dX0_moveForward_48 : decode cX0_moveForward 48 = .ok (.goto (-39), 3) := by decide +kernel
theorem dX0_moveForward_51 : decode cX0_moveForward 51 = .ok (.aload_n 0, 1) := by decide +kernel
theorem dX0_moveForward_52 : decode cX0_moveForward 52 = .ok (.getfield 26, 3) := by decide +kernel
theorem dX0_moveForward_55 : decode cX0_moveForward 55 = .ok (.iload_n 3, 1) := by decide +kernel
theorem dX0_moveForward_56 : decode cX0_moveForward 56 = .ok (.aload_n 2, 1) := by decide +kernel
theorem dX0_moveForward_57 : decode cX0_moveForward 57 = .ok (.aastore, 1) := by decide +kernel
theorem dX0_moveForward_58 : decode cX0_moveForward 58 = .ok (.iload_n 3, 1) := by decide +kernel
theorem dX0_moveForward_59 : decode cX0_moveForward 59 = .ok (.ireturn, 1) := by decide +kernel
theorem dX0_removeSession_0 : decode cX0_removeSession 0 = .ok (.aload_n 0, 1) := by decide +kernel
theorem dX0_removeSession_1 : decode cX0_removeSession 1 = .ok (.getfield 26, 3) := by decide +kernel
theorem dX0_removeSession_4 : decode cX0_removeSession 4 = .ok (.iload_n 1, 1) := by decide +kernel
theorem dX0_removeSession_5 : decode cX0_removeSession 5 = .ok (.aaload, 1) := by decide +kernel
theorem dX0_removeSession_6 : decode cX0_removeSession 6 = .ok (.astore_n 2, 1) := by decide +kernel
theorem dX0_removeSession_7 : decode cX0_removeSession 7 = .ok (.iload_n 1, 1) := by decide +kernel
theorem dX0_removeSession_8 : decode cX0_removeSession 8 = .ok (.iconst 1, 1) := by decide +kernel
theorem dX0_removeSession_9 : decode cX0_removeSession 9 = .ok (.iadd, 1) := by decide +kernel
theorem dX0_removeSession_10 : decode cX0_removeSession 10 = .ok (.istore_n 3, 1) := by decide +kernel
theorem dX0_removeSession_11 : decode cX0_removeSession 11 = .ok (.iload_n 3, 1) := by decide +kernel
theorem dX0_removeSession_12 : decode cX0_removeSession 12 = .ok (.aload_n 0, 1) := by decide +kernel
theorem dX0_removeSession_13 : decode cX0_removeSession 13 = .ok (.getfield 48, 3) := by decide +kernel
theorem dX0_removeSession_16 : decode cX0_removeSession 16 = .ok (.if_icmp .ge 23, 3) := by decide +kernel
theorem dX0_removeSession_19 : decode cX0_removeSession 19 = .ok (.aload_n 0, 1) := by decide +kernel
theorem dX0_removeSession_20 : decode cX0_removeSession 20 = .ok (.getfield 26, 3) := by decide +kernel
theorem dX0_removeSession_23 : decode cX0_removeSession 23 = .ok (.iload_n 3, 1) := by decide +kernel
theorem dX0_removeSession_24 : decode cX0_removeSession 24 = .ok (.iconst 1, 1) := by decide +kernel
theorem dX0_removeSession_25 : decode cX0_removeSession 25 = .ok (.isub, 1) := by decide +kernel
theorem dX0_removeSession_26 : decode cX0_removeSession 26 = .ok (.aload_n 0, 1) := by decide +kernel
theorem dX0_removeSession_27 : decode cX0_removeSession 27 = .ok (.getfield 26, 3) := by decide +kernel
theorem dX0_removeSession_30 : decode cX0_removeSession 30 = .ok (.iload_n 3, 1) := by decide +kernel
theorem dX0_removeSession_31 : decode cX0_removeSession 31 = .ok (.aaload, 1) := by decide +kernel
theorem dX0_removeSession_32 : decode cX0_removeSession 32 = .ok (.aastore, 1) := by decide +kernel
theorem dX0_removeSession_33 : decode cX0_removeSession 33 = .ok (.iinc 3 1, 3) := by decide +kernel
theorem dX0_removeSession_36 : decode cX0_removeSession 36 = .ok (.goto (-25), 3) := by decide +kernel
theorem dX0_removeSession_39 : decode cX0_removeSession 39 = .ok (.aload_n 0, 1) := by decide +kernel
theorem dX0_removeSession_40 : decode cX0_removeSession 40 = .ok (.dup, 1) := by decide +kernel
theorem dX0_removeSession_41 : decode cX0_removeSession 41 = .ok (.getfield 48, 3) := by decide +kernel
theorem dX0_removeSession_44 : decode cX0_removeSession 44 = .ok (.iconst 1, 1) := by decide +kernel
theorem dX0_removeSession_45 : decode cX0_removeSession 45 = .ok (.isub, 1) := by decide +kernel
theorem dX0_removeSession_46 : decode cX0_removeSession 46 = .ok (.putfield 48, 3) := by decide +kernel
theorem dX0_removeSession_49 : decode cX0_removeSession 49 = .ok (.aload_n 0, 1) := by decide +kernel
theorem dX0_removeSession_50 : decode cX0_removeSession 50 = .ok (.getfield 26, 3) := by decide +kernel
theorem dX0_removeSession_53 : decode cX0_removeSession 53 = .ok (.aload_n 0, 1) := by decide +kernel
theorem dX0_removeSession_54 : decode cX0_removeSession 54 = .ok (.getfield 48, 3) := by decide +kernel
theorem dX0_removeSession_57 : decode cX0_removeSession 57 = .ok (.aload_n 2, 1) := by decide +kernel
theorem dX0_removeSession_58 : decode cX0_removeSession 58 = .ok (.aastore, 1) := by decide +kernel
theorem dX0_removeSession_59 : decode cX0_removeSession 59 = .ok (.return_, 1) := by decide +kernel
theorem dX0_lengthen_0 : decode cX0_lengthen 0 = .ok (.aload_n 0, 1) := by decide +kernel
theorem dX0_lengthen_1 : decode cX0_lengthen 1 = .ok (.getfield 26, 3) := by decide +kernel
theorem dX0_lengthen_4 : decode cX0_lengthen 4 = .ok (.iload_n 1, 1) := by decide +kernel
theorem dX0_lengthen_5 : decode cX0_lengthen 5 = .ok (.aaload, 1) := by decide +kernel
theorem dX0_lengthen_6 : decode cX0_lengthen 6 = .ok (.astore_n 3, 1) := by decide +kernel
theorem dX0_lengthen_7 : decode cX0_lengthen 7 = .ok (.aload_n 3, 1) := by decide +kernel
theorem dX0_lengthen_8 : decode cX0_lengthen 8 = .ok (.aload_n 3, 1) := by decide +kernel
theorem dX0_lengthen_9 : decode cX0_lengthen 9 = .ok (.getfield 104, 3) := by decide +kernel
theorem dX0_lengthen_12 : decode cX0_lengthen 12 = .ok (.iload_n 2, 1) := by decide +kernel
theorem dX0_lengthen_13 : decode cX0_lengthen 13 = .ok (.iadd, 1) := by decide +kernel
theorem dX0_lengthen_14 : decode cX0_lengthen 14 = .ok (.bipush 16, 2) := by decide +kernel
theorem dX0_lengthen_16 : decode cX0_lengthen 16 = .ok (.aload_n 3, 1) := by decide +kernel
theorem dX0_lengthen_17 : decode cX0_lengthen 17 = .ok (.getfield 101, 3) := by decide +kernel
theorem dX0_lengthen_20 : decode cX0_lengthen 20 = .ok (.isub, 1) := by decide +kernel
theorem dX0_lengthen_21 : decode cX0_lengthen 21 = .ok (.invokestatic 143, 3) := by decide +kernel
theorem dX0_lengthen_24 : decode cX0_lengthen 24 = .ok (.putfield 104, 3) := by decide +kernel
theorem dX0_lengthen_27 : decode cX0_lengthen 27 = .ok (.aload_n 0, 1) := by decide +kernel
theorem dX0_lengthen_28 : decode cX0_lengthen 28 = .ok (.iload_n 1, 1) := by decide +kernel
theorem dX0_lengthen_29 : decode cX0_lengthen 29 = .ok (.invokevirtual 146, 3) := by decide +kernel
theorem dX0_lengthen_32 : decode cX0_lengthen 32 = .ok (.aload_n 0, 1) := by decide +kernel
theorem dX0_lengthen_33 : decode cX0_lengthen 33 = .ok (.iload_n 1, 1) := by decide +kernel
theorem dX0_lengthen_34 : decode cX0_lengthen 34 = .ok (.invokevirtual 150, 3) := by decide +kernel
theorem dX0_lengthen_37 : decode cX0_lengthen 37 = .ok (.aload_n 0, 1) := by decide +kernel
theorem dX0_lengthen_38 : decode cX0_lengthen 38 = .ok (.invokevirtual 153, 3) := by decide +kernel
theorem dX0_lengthen_41 : decode cX0_lengthen 41 = .ok (.iconst 0, 1) := by decide +kernel
theorem dX0_lengthen_42 : decode cX0_lengthen 42 = .ok (.istore 4, 2) := by decide +kernel
theorem dX0_lengthen_44 : decode cX0_lengthen 44 = .ok (.iload 4, 2) := by decide +kernel
theorem dX0_lengthen_46 : decode cX0_lengthen 46 = .ok (.aload_n 0, 1) := by decide +kernel
theorem dX0_lengthen_47 : decode cX0_lengthen 47 = .ok (.getfield 48, 3) := by decide +kernel
theorem dX0_lengthen_50 : decode cX0_lengthen 50 = .ok (.if_icmp .ge 16, 3) := by decide +kernel
theorem dX0_lengthen_53 : decode cX0_lengthen 53 = .ok (.aload_n 0, 1) := by decide +kernel
theorem dX0_lengthen_54 : decode cX0_lengthen 54 = .ok (.iload 4, 2) := by decide +kernel
theorem dX0_lengthen_56 : decode cX0_lengthen 56 = .ok (.invokevirtual 137, 3) := by decide +kernel
theorem dX0_lengthen_59 : decode cX0_lengthen 59 = .ok (.pop, 1) := by decide +kernel
theorem dX0_lengthen_60 : decode cX0_lengthen 60 = .ok (.iinc 4 1, 3) := by decide +kernel
theorem dX0_lengthen_63 : decode cX0_lengthen 63 = .ok (.goto (-19), 3) := by decide +kernel
theorem dX0_lengthen_66 : decode cX0_lengthen 66 = .ok (.aload_n 3, 1) := by decide +kernel
theorem dX0_lengthen_67 : decode cX0_lengthen 67 = .ok (.getfield 104, 3) := by decide +kernel
theorem dX0_lengthen_70 : decode cX0_lengthen 70 = .ok (.ireturn, 1) := by decide +kernel
theorem dX0_driveOutLater_0 : decode cX0_driveOutLater 0 = .ok (.aload_n 0, 1) := by decide +kernel
theorem dX0_driveOutLater_1 : decode cX0_driveOutLater 1 = .ok (.getfield 26, 3) := by decide +kernel
theorem dX0_driveOutLater_4 : decode cX0_driveOutLater 4 = .ok (.iload_n 1, 1) := by decide +kernel
theorem dX0_driveOutLater_5 : decode cX0_driveOutLater 5 = .ok (.aaload, 1) := by decide +kernel
theorem dX0_driveOutLater_6 : decode cX0_driveOutLater 6 = .ok (.astore_n 2, 1) := by decide +kernel
theorem dX0_driveOutLater_7 : decode cX0_driveOutLater 7 = .ok (.iload_n 1, 1) := by decide +kernel
theorem dX0_driveOutLater_8 : decode cX0_driveOutLater 8 = .ok (.iconst 1, 1) := by decide +kernel
theorem dX0_driveOutLater_9 : decode cX0_driveOutLater 9 = .ok (.iadd, 1) := by decide +kernel
theorem dX0_driveOutLater_10 : decode cX0_driveOutLater 10 = .ok (.istore_n 3, 1) := by decide +kernel
theorem dX0_driveOutLater_11 : decode cX0_driveOutLater 11 = .ok (.iload_n 3, 1) := by decide +kernel
theorem dX0_driveOutLater_12 : decode cX0_driveOutLater 12 = .ok (.aload_n 0, 1) := by decide +kernel
theorem dX0_driveOutLater_13 : decode cX0_driveOutLater 13 = .ok (.getfield 48, 3) := by decide +kernel
theorem dX0_driveOutLater_16 : decode cX0_driveOutLater 16 = .ok (.if_icmp .ge 96, 3) := by decide +kernel
theorem dX0_driveOutLater_19 : decode cX0_driveOutLater 19 = .ok (.aload_n 0, 1) := by decide +kernel
theorem dX0_driveOutLater_20 : decode cX0_driveOutLater 20 = .ok (.getfield 26, 3) := by decide +kernel
theorem dX0_driveOutLater_23 : decode cX0_driveOutLater 23 = .ok (.iload_n 3, 1) := by decide +kernel
theorem dX0_driveOutLater_24 : decode cX0_driveOutLater 24 = .ok (.aaload, 1) := by decide +kernel
theorem dX0_driveOutLater_25 : decode cX0_driveOutLater 25 = .ok (.astore 4, 2) := by decide +kernel
theorem dX0_driveOutLater_27 : decode cX0_driveOutLater 27 = .ok (.aload 4, 2) := by decide +kernel
theorem dX0_driveOutLater_29 : decode cX0_driveOutLater 29 = .ok (.getfield 95, 3) := by decide +kernel
theorem dX0_driveOutLater_32 : decode cX0_driveOutLater 32 = .ok (.aload_n 2, 1) := by decide +kernel
theorem dX0_driveOutLater_33 : decode cX0_driveOutLater 33 = .ok (.getfield 95, 3) := by decide +kernel
theorem dX0_driveOutLater_36 : decode cX0_driveOutLater 36 = .ok (.if_icmp .ne 70, 3) := by decide +kernel
theorem dX0_driveOutLater_39 : decode cX0_driveOutLater 39 = .ok (.aload 4, 2) := by decide +kernel
theorem dX0_driveOutLater_41 : decode cX0_driveOutLater 41 = .ok (.getfield 98, 3) := by decide +kernel
theorem dX0_driveOutLater_44 : decode cX0_driveOutLater 44 = .ok (.aload_n 2, 1) := by decide +kernel
theorem dX0_driveOutLater_45 : decode cX0_driveOutLater 45 = .ok (.getfield 98, 3) := by decide +kernel
theorem dX0_driveOutLater_48 : decode cX0_driveOutLater 48 = .ok (.if_icmp .ne 58, 3) := by decide +kernel
theorem dX0_driveOutLater_51 : decode cX0_driveOutLater 51 = .ok (.aload_n 2, 1) := by decide +kernel
theorem dX0_driveOutLater_52 : decode cX0_driveOutLater 52 = .ok (.getfield 101, 3) := by decide +kernel
theorem dX0_driveOutLater_55 : decode cX0_driveOutLater 55 = .ok (.aload_n 2, 1) := by decide +kernel
theorem dX0_driveOutLater_56 : decode cX0_driveOutLater 56 = .ok (.getfield 104, 3) := by decide +kernel
theorem dX0_driveOutLater_59 : decode cX0_driveOutLater 59 = .ok (.iadd, 1) := by decide +kernel
theorem dX0_driveOutLater_60 : decode cX0_driveOutLater 60 = .ok (.istore 5, 2) := by decide +kernel
theorem dX0_driveOutLater_62 : decode cX0_driveOutLater 62 = .ok (.aload 4, 2) := by decide +kernel
theorem dX0_driveOutLater_64 : decode cX0_driveOutLater 64 = .ok (.getfield 101, 3) := by decide +kernel
theorem dX0_driveOutLater_67 : decode cX0_driveOutLater 67 = .ok (.iload 5, 2) := by decide +kernel
theorem dX0_driveOutLater_69 : decode cX0_driveOutLater 69 = .ok (.if_icmp .ge 34, 3) := by decide +kernel
theorem dX0_driveOutLater_72 : decode cX0_driveOutLater 72 = .ok (.aload 4, 2) := by decide +kernel
theorem dX0_driveOutLater_74 : decode cX0_driveOutLater 74 = .ok (.iload 5, 2) := by decide +kernel
theorem dX0_driveOutLater_76 : decode cX0_driveOutLater 76 = .ok (.putfield 101, 3) := by decide +kernel
theorem dX0_driveOutLater_79 : decode cX0_driveOutLater 79 = .ok (.aload 4, 2) := by decide +kernel
theorem dX0_driveOutLater_81 : decode cX0_driveOutLater 81 = .ok (.aload 4, 2) := by decide +kernel
theorem dX0_driveOutLater_83 : decode cX0_driveOutLater 83 = .ok (.getfield 104, 3) := by decide +kernel
theorem dX0_driveOutLater_86 : decode cX0_driveOutLater 86 = .ok (.bipush 16, 2) := by decide +kernel
theorem dX0_driveOutLater_88 : decode cX0_driveOutLater 88 = .ok (.iload 5, 2) := by decide +kernel
theorem dX0_driveOutLater_90 : decode cX0_driveOutLater 90 = .ok (.isub, 1) := by decide +kernel
theorem dX0_driveOutLater_91 : decode cX0_driveOutLater 91 = .ok (.invokestatic 143, 3) := by decide +kernel
theorem dX0_driveOutLater_94 : decode cX0_driveOutLater 94 = .ok (.putfield 104, 3) := by decide +kernel
theorem dX0_driveOutLater_97 : decode cX0_driveOutLater 97 = .ok (.aload 4, 2) := by decide +kernel
theorem dX0_driveOutLater_99 : decode cX0_driveOutLater 99 = .ok (.iconst (-1), 1) := by decide +kernel
theorem dX0_driveOutLater_100 : decode cX0_driveOutLater 100 = .ok (.putfield 88, 3) := by decide +kernel
theorem dX0_driveOutLater_103 : decode cX0_driveOutLater 103 = .ok (.aload 4, 2) := by decide +kernel
theorem dX0_driveOutLater_105 : decode cX0_driveOutLater 105 = .ok (.astore_n 2, 1) := by decide +kernel
theorem dX0_driveOutLater_106 : decode cX0_driveOutLater 106 = .ok (.iinc 3 1, 3) := by decide +kernel
theorem dX0_driveOutLater_109 : decode cX0_driveOutLater 109 = .ok (.goto (-98), 3) := by decide +kernel
theorem dX0_driveOutLater_112 : decode cX0_driveOutLater 112 = .ok (.return_, 1) := by decide +kernel
theorem dX0_freeFromOverlap_0 : decode cX0_freeFromOverlap 0 = .ok (.aload_n 0, 1) := by decide +kernel
theorem dX0_freeFromOverlap_1 : decode cX0_freeFromOverlap 1 = .ok (.getfield 26, 3) := by decide +kernel
theorem dX0_freeFromOverlap_4 : decode cX0_freeFromOverlap 4 = .ok (.iload_n 1, 1) := by decide +kernel
theorem dX0_freeFromOverlap_5 : decode cX0_freeFromOverlap 5 = .ok (.aaload, 1) := by decide +kernel
theorem dX0_freeFromOverlap_6 : decode cX0_freeFromOverlap 6 = .ok (.astore_n 2, 1) := by decide +kernel
theorem dX0_freeFromOverlap_7 : decode cX0_freeFromOverlap 7 = .ok (.iconst 0, 1) := by decide +kernel
theorem dX0_freeFromOverlap_8 : decode cX0_freeFromOverlap 8 = .ok (.istore_n 3, 1) := by decide +kernel
theorem dX0_freeFromOverlap_9 : decode cX0_freeFromOverlap 9 = .ok (.iload_n 3, 1) := by decide +kernel
theorem dX0_freeFromOverlap_10 : decode cX0_freeFromOverlap 10 = .ok (.aload_n 0, 1) := by decide +kernel
theorem dX0_freeFromOverlap_11 : decode cX0_freeFromOverlap 11 = .ok (.getfield 48, 3) := by decide +kernel
theorem dX0_freeFromOverlap_14 : decode cX0_freeFromOverlap 14 = .ok (.if_icmp .ge 65, 3) := by decide +kernel
theorem dX0_freeFromOverlap_17 : decode cX0_freeFromOverlap 17 = .ok (.aload_n 0, 1) := by decide +kernel
theorem dX0_freeFromOverlap_18 : decode cX0_freeFromOverlap 18 = .ok (.getfield 26, 3) := by decide +kernel
theorem dX0_freeFromOverlap_21 : decode cX0_freeFromOverlap 21 = .ok (.iload_n 3, 1) := by decide +kernel
theorem dX0_freeFromOverlap_22 : decode cX0_freeFromOverlap 22 = .ok (.aaload, 1) := by decide +kernel
theorem dX0_freeFromOverlap_23 : decode cX0_freeFromOverlap 23 = .ok (.astore 4, 2) := by decide +kernel
theorem dX0_freeFromOverlap_25 : decode cX0_freeFromOverlap 25 = .ok (.iload_n 3, 1) := by decide +kernel
theorem dX0_freeFromOverlap_26 : decode cX0_freeFromOverlap 26 = .ok (.iload_n 1, 1) := by decide +kernel
theorem dX0_freeFromOverlap_27 : decode cX0_freeFromOverlap 27 = .ok (.if_icmp .eq 46, 3) := by decide +kernel
theorem dX0_freeFromOverlap_30 : decode cX0_freeFromOverlap 30 = .ok (.aload 4, 2) := by decide +kernel
theorem dX0_freeFromOverlap_32 : decode cX0_freeFromOverlap 32 = .ok (.getfield 88, 3) := by decide +kernel
theorem dX0_freeFromOverlap_35 : decode cX0_freeFromOverlap 35 = .ok (.aload_n 2, 1) := by decide +kernel
theorem dX0_freeFromOverlap_36 : decode cX0_freeFromOverlap 36 = .ok (.getfield 88, 3) := by decide +kernel
theorem dX0_freeFromOverlap_39 : decode cX0_freeFromOverlap 39 = .ok (.if_icmp .ne 34, 3) := by decide +kernel
theorem dX0_freeFromOverlap_42 : decode cX0_freeFromOverlap 42 = .ok (.aload 4, 2) := by decide +kernel
theorem dX0_freeFromOverlap_44 : decode cX0_freeFromOverlap 44 = .ok (.getfield 98, 3) := by decide +kernel
theorem dX0_freeFromOverlap_47 : decode cX0_freeFromOverlap 47 = .ok (.aload_n 2, 1) := by decide +kernel
theorem dX0_freeFromOverlap_48 : decode cX0_freeFromOverlap 48 = .ok (.getfield 98, 3) := by decide +kernel
theorem dX0_freeFromOverlap_51 : decode cX0_freeFromOverlap 51 = .ok (.if_icmp .ne 22, 3) := by decide +kernel
theorem dX0_freeFromOverlap_54 : decode cX0_freeFromOverlap 54 = .ok (.aload 4, 2) := by decide +kernel
theorem dX0_freeFromOverlap_56 : decode cX0_freeFromOverlap 56 = .ok (.invokevirtual 107, 3) := by decide +kernel
theorem dX0_freeFromOverlap_59 : decode cX0_freeFromOverlap 59 = .ok (.aload_n 2, 1) := by decide +kernel
theorem dX0_freeFromOverlap_60 : decode cX0_freeFromOverlap 60 = .ok (.invokevirtual 107, 3) := by decide +kernel
theorem dX0_freeFromOverlap_63 : decode cX0_freeFromOverlap 63 = .ok (.iand, 1) := by decide +kernel
theorem dX0_freeFromOverlap_64 : decode cX0_freeFromOverlap 64 = .ok (.ifCond .eq 9, 3) := by decide +kernel
theorem dX0_freeFromOverlap_67 : decode cX0_freeFromOverlap 67 = .ok (.aload 4, 2) := by decide +kernel
theorem dX0_freeFromOverlap_69 : decode cX0_freeFromOverlap 69 = .ok (.iconst (-1), 1) := by decide +kernel
theorem dX0_freeFromOverlap_70 : decode cX0_freeFromOverlap 70 = .ok (.putfield 88, 3) := by decide +kernel
theorem dX0_freeFromOverlap_73 : decode cX0_freeFromOverlap 73 = .ok (.iinc 3 1, 3) := by decide +kernel
theorem dX0_freeFromOverlap_76 : decode cX0_freeFromOverlap 76 = .ok (.goto (-67), 3) := by decide +kernel
theorem dX0_freeFromOverlap_79 : decode cX0_freeFromOverlap 79 = .ok (.return_, 1) := by decide +kernel
theorem dX0_removeEmpty_0 : decode cX0_removeEmpty 0 = .ok (.aload_n 0, 1) := by decide +kernel
theorem dX0_removeEmpty_1 : decode cX0_removeEmpty 1 = .ok (.getfield 48, 3) := by decide +kernel
theorem dX0_removeEmpty_4 : decode cX0_removeEmpty 4 = .ok (.iconst 1, 1) := by decide +kernel
theorem dX0_removeEmpty_5 : decode cX0_removeEmpty 5 = .ok (.isub, 1) := by decide +kernel
theorem dX0_removeEmpty_6 : decode cX0_removeEmpty 6 = .ok (.istore_n 1, 1) := by decide +kernel
theorem dX0_removeEmpty_7 : decode cX0_removeEmpty 7 = .ok (.iload_n 1, 1) := by decide +kernel
theorem dX0_removeEmpty_8 : decode cX0_removeEmpty 8 = .ok (.ifCond .lt 26, 3) := by decide +kernel
theorem dX0_removeEmpty_11 : decode cX0_removeEmpty 11 = .ok (.aload_n 0, 1) := by decide +kernel
theorem dX0_removeEmpty_12 : decode cX0_removeEmpty 12 = .ok (.getfield 26, 3) := by decide +kernel
theorem dX0_removeEmpty_15 : decode cX0_removeEmpty 15 = .ok (.iload_n 1, 1) := by decide +kernel
theorem dX0_removeEmpty_16 : decode cX0_removeEmpty 16 = .ok (.aaload, 1) := by decide +kernel
theorem dX0_removeEmpty_17 : decode cX0_removeEmpty 17 = .ok (.getfield 104, 3) := by decide +kernel
theorem dX0_removeEmpty_20 : decode cX0_removeEmpty 20 = .ok (.ifCond .ne 8, 3) := by decide +kernel
theorem dX0_removeEmpty_23 : decode cX0_removeEmpty 23 = .ok (.aload_n 0, 1) := by decide +kernel
theorem dX0_removeEmpty_24 : decode cX0_removeEmpty 24 = .ok (.iload_n 1, 1) := by decide +kernel
theorem dX0_removeEmpty_25 : decode cX0_removeEmpty 25 = .ok (.invokevirtual 156, 3) := by decide +kernel
theorem dX0_removeEmpty_28 : decode cX0_removeEmpty 28 = .ok (.iinc 1 (-1), 3) := by decide +kernel
theorem dX0_removeEmpty_31 : decode cX0_removeEmpty 31 = .ok (.goto (-24), 3) := by decide +kernel
theorem dX0_removeEmpty_34 : decode cX0_removeEmpty 34 = .ok (.return_, 1) := by decide +kernel
theorem dX0_sendOnLeave_0 : decode cX0_sendOnLeave 0 = .ok (.aload_n 0, 1) := by decide +kernel
theorem dX0_sendOnLeave_1 : decode cX0_sendOnLeave 1 = .ok (.getfield 15, 3) := by decide +kernel
theorem dX0_sendOnLeave_4 : decode cX0_sendOnLeave 4 = .ok (.iload_n 1, 1) := by decide +kernel
theorem dX0_sendOnLeave_5 : decode cX0_sendOnLeave 5 = .ok (.aload_n 0, 1) := by decide +kernel
theorem dX0_sendOnLeave_6 : decode cX0_sendOnLeave 6 = .ok (.getfield 41, 3) := by decide +kernel
theorem dX0_sendOnLeave_9 : decode cX0_sendOnLeave 9 = .ok (.iload_n 2, 1) := by decide +kernel
theorem dX0_sendOnLeave_10 : decode cX0_sendOnLeave 10 = .ok (.iadd, 1) := by decide +kernel
theorem dX0_sendOnLeave_11 : decode cX0_sendOnLeave 11 = .ok (.iastore, 1) := by decide +kernel
theorem dX0_sendOnLeave_12 : decode cX0_sendOnLeave 12 = .ok (.iconst 0, 1) := by decide +kernel
theorem dX0_sendOnLeave_13 : decode cX0_sendOnLeave 13 = .ok (.istore_n 3, 1) := by decide +kernel
theorem dX0_sendOnLeave_14 : decode cX0_sendOnLeave 14 = .ok (.iconst 0, 1) := by decide +kernel
theorem dX0_sendOnLeave_15 : decode cX0_sendOnLeave 15 = .ok (.istore 4, 2) := by decide +kernel
theorem dX0_sendOnLeave_17 : decode cX0_sendOnLeave 17 = .ok (.iload 4, 2) := by decide +kernel
theorem dX0_sendOnLeave_19 : decode cX0_sendOnLeave 19 = .ok (.aload_n 0, 1) := by decide +kernel
theorem dX0_sendOnLeave_20 : decode cX0_sendOnLeave 20 = .ok (.getfield 48, 3) := by decide +kernel
theorem dX0_sendOnLeave_23 : decode cX0_sendOnLeave 23 = .ok (.if_icmp .ge 50, 3) := by decide +kernel
theorem dX0_sendOnLeave_26 : decode cX0_sendOnLeave 26 = .ok (.aload_n 0, 1) := by decide +kernel
theorem dX0_sendOnLeave_27 : decode cX0_sendOnLeave 27 = .ok (.getfield 26, 3) := by decide +kernel
theorem dX0_sendOnLeave_30 : decode cX0_sendOnLeave 30 = .ok (.iload 4, 2) := by decide +kernel
theorem dX0_sendOnLeave_32 : decode cX0_sendOnLeave 32 = .ok (.aaload, 1) := by decide +kernel
theorem dX0_sendOnLeave_33 : decode cX0_sendOnLeave 33 = .ok (.astore 5, 2) := by decide +kernel
theorem dX0_sendOnLeave_35 : decode cX0_sendOnLeave 35 = .ok (.aload 5, 2) := by decide +kernel
theorem dX0_sendOnLeave_37 : decode cX0_sendOnLeave 37 = .ok (.getfield 88, 3) := by decide +kernel
theorem dX0_sendOnLeave_40 : decode cX0_sendOnLeave 40 = .ok (.iload_n 1, 1) := by decide +kernel
theorem dX0_sendOnLeave_41 : decode cX0_sendOnLeave 41 = .ok (.if_icmp .ne 26, 3) := by decide +kernel
theorem dX0_sendOnLeave_44 : decode cX0_sendOnLeave 44 = .ok (.aload 5, 2) := by decide +kernel
theorem dX0_sendOnLeave_46 : decode cX0_sendOnLeave 46 = .ok (.getfield 98, 3) := by decide +kernel
theorem dX0_sendOnLeave_49 : decode cX0_sendOnLeave 49 = .ok (.aload_n 0, 1) := by decide +kernel
theorem dX0_sendOnLeave_50 : decode cX0_sendOnLeave 50 = .ok (.getfield 15, 3) := by decide +kernel
theorem dX0_sendOnLeave_53 : decode cX0_sendOnLeave 53 = .ok (.iload_n 1, 1) := by decide +kernel
theorem dX0_sendOnLeave_54 : decode cX0_sendOnLeave 54 = .ok (.iaload, 1) := by decide +kernel
theorem dX0_sendOnLeave_55 : decode cX0_sendOnLeave 55 = .ok (.if_icmp .ge 12, 3) := by decide +kernel
theorem dX0_sendOnLeave_58 : decode cX0_sendOnLeave 58 = .ok (.aload 5, 2) := by decide +kernel
theorem dX0_sendOnLeave_60 : decode cX0_sendOnLeave 60 = .ok (.iconst (-1), 1) := by decide +kernel
theorem dX0_sendOnLeave_61 : decode cX0_sendOnLeave 61 = .ok (.putfield 88, 3) := by decide +kernel
theorem dX0_sendOnLeave_64 : decode cX0_sendOnLeave 64 = .ok (.iinc 3 1, 3) := by decide +kernel
theorem dX0_sendOnLeave_67 : decode cX0_sendOnLeave 67 = .ok (.iinc 4 1, 3) := by decide +kernel
theorem dX0_sendOnLeave_70 : decode cX0_sendOnLeave 70 = .ok (.goto (-53), 3) := by decide +kernel
theorem dX0_sendOnLeave_73 : decode cX0_sendOnLeave 73 = .ok (.iload_n 3, 1) := by decide +kernel
theorem dX0_sendOnLeave_74 : decode cX0_sendOnLeave 74 = .ok (.ireturn, 1) := by decide +kernel
theorem dX0_finesOfDays_0 : decode cX0_finesOfDays 0 = .ok (.aload_n 0, 1) := by decide +kernel
theorem dX0_finesOfDays_1 : decode cX0_finesOfDays 1 = .ok (.getfield 57, 3) := by decide +kernel
theorem dX0_finesOfDays_4 : decode cX0_finesOfDays 4 = .ok (.istore_n 2, 1) := by decide +kernel
theorem dX0_finesOfDays_5 : decode cX0_finesOfDays 5 = .ok (.iconst 0, 1) := by decide +kernel
theorem dX0_finesOfDays_6 : decode cX0_finesOfDays 6 = .ok (.istore_n 3, 1) := by decide +kernel
theorem dX0_finesOfDays_7 : decode cX0_finesOfDays 7 = .ok (.iload_n 3, 1) := by decide +kernel
theorem dX0_finesOfDays_8 : decode cX0_finesOfDays 8 = .ok (.iload_n 1, 1) := by decide +kernel
theorem dX0_finesOfDays_9 : decode cX0_finesOfDays 9 = .ok (.if_icmp .ge 13, 3) := by decide +kernel
theorem dX0_finesOfDays_12 : decode cX0_finesOfDays 12 = .ok (.aload_n 0, 1) := by decide +kernel
theorem dX0_finesOfDays_13 : decode cX0_finesOfDays 13 = .ok (.invokevirtual 159, 3) := by decide +kernel
theorem dX0_finesOfDays_16 : decode cX0_finesOfDays 16 = .ok (.iinc 3 1, 3) := by decide +kernel
theorem dX0_finesOfDays_19 : decode cX0_finesOfDays 19 = .ok (.goto (-12), 3) := by decide +kernel
theorem dX0_finesOfDays_22 : decode cX0_finesOfDays 22 = .ok (.aload_n 0, 1) := by decide +kernel
theorem dX0_finesOfDays_23 : decode cX0_finesOfDays 23 = .ok (.getfield 57, 3) := by decide +kernel
theorem dX0_finesOfDays_26 : decode cX0_finesOfDays 26 = .ok (.iload_n 2, 1) := by decide +kernel
theorem dX0_finesOfDays_27 : decode cX0_finesOfDays 27 = .ok (.isub, 1) := by decide +kernel
theorem dX0_finesOfDays_28 : decode cX0_finesOfDays 28 = .ok (.ireturn, 1) := by decide +kernel
theorem dX0_letDayGoBy_0 : decode cX0_letDayGoBy 0 = .ok (.aload_n 0, 1) := by decide +kernel
theorem dX0_letDayGoBy_1 : decode cX0_letDayGoBy 1 = .ok (.invokevirtual 162, 3) := by decide +kernel
theorem dX0_letDayGoBy_4 : decode cX0_letDayGoBy 4 = .ok (.iconst 0, 1) := by decide +kernel
theorem dX0_letDayGoBy_5 : decode cX0_letDayGoBy 5 = .ok (.istore_n 1, 1) := by decide +kernel
theorem dX0_letDayGoBy_6 : decode cX0_letDayGoBy 6 = .ok (.iload_n 1, 1) := by decide +kernel
theorem dX0_letDayGoBy_7 : decode cX0_letDayGoBy 7 = .ok (.aload_n 0, 1) := by decide +kernel
theorem dX0_letDayGoBy_8 : decode cX0_letDayGoBy 8 = .ok (.getfield 45, 3) := by decide +kernel
theorem dX0_letDayGoBy_11 : decode cX0_letDayGoBy 11 = .ok (.if_icmp .ge 61, 3) := by decide +kernel
theorem dX0_letDayGoBy_14 : decode cX0_letDayGoBy 14 = .ok (.aload_n 0, 1) := by decide +kernel
theorem dX0_letDayGoBy_15 : decode cX0_letDayGoBy 15 = .ok (.iload_n 1, 1) := by decide +kernel
theorem dX0_letDayGoBy_16 : decode cX0_letDayGoBy 16 = .ok (.aload_n 0, 1) := by decide +kernel
theorem dX0_letDayGoBy_17 : decode cX0_letDayGoBy 17 = .ok (.getfield 41, 3) := by decide +kernel
theorem dX0_letDayGoBy_20 : decode cX0_letDayGoBy 20 = .ok (.invokevirtual 165, 3) := by decide +kernel
theorem dX0_letDayGoBy_23 : decode cX0_letDayGoBy 23 = .ok (.istore_n 2, 1) := by decide +kernel
theorem dX0_letDayGoBy_24 : decode cX0_letDayGoBy 24 = .ok (.aload_n 0, 1) := by decide +kernel
theorem dX0_letDayGoBy_25 : decode cX0_letDayGoBy 25 = .ok (.getfield 18, 3) := by decide +kernel
theorem dX0_letDayGoBy_28 : decode cX0_letDayGoBy 28 = .ok (.iload_n 1, 1) := by decide +kernel
theorem dX0_letDayGoBy_29 : decode cX0_letDayGoBy 29 = .ok (.dup2, 1) := by decide +kernel
theorem dX0_letDayGoBy_30 : decode cX0_letDayGoBy 30 = .ok (.iaload, 1) := by decide +kernel
theorem dX0_letDayGoBy_31 : decode cX0_letDayGoBy 31 = .ok (.iload_n 2, 1) := by decide +kernel
theorem dX0_letDayGoBy_32 : decode cX0_letDayGoBy 32 = .ok (.invokestatic 168, 3) := by decide +kernel
theorem dX0_letDayGoBy_35 : decode cX0_letDayGoBy 35 = .ok (.iadd, 1) := by decide +kernel
theorem dX0_letDayGoBy_36 : decode cX0_letDayGoBy 36 = .ok (.iastore, 1) := by decide +kernel
theorem dX0_letDayGoBy_37 : decode cX0_letDayGoBy 37 = .ok (.aload_n 0, 1) := by decide +kernel
theorem dX0_letDayGoBy_38 : decode cX0_letDayGoBy 38 = .ok (.getfield 41, 3) := by decide +kernel
theorem dX0_letDayGoBy_41 : decode cX0_letDayGoBy 41 = .ok (.aload_n 0, 1) := by decide +kernel
theorem dX0_letDayGoBy_42 : decode cX0_letDayGoBy 42 = .ok (.getfield 15, 3) := by decide +kernel
theorem dX0_letDayGoBy_45 : decode cX0_letDayGoBy 45 = .ok (.iload_n 1, 1) := by decide +kernel
theorem dX0_letDayGoBy_46 : decode cX0_letDayGoBy 46 = .ok (.iaload, 1) := by decide +kernel
theorem dX0_letDayGoBy_47 : decode cX0_letDayGoBy 47 = .ok (.if_icmp .lt 19, 3) := by decide +kernel
theorem dX0_letDayGoBy_50 : decode cX0_letDayGoBy 50 = .ok (.aload_n 0, 1) := by decide +kernel
theorem dX0_letDayGoBy_51 : decode cX0_letDayGoBy 51 = .ok (.iload_n 1, 1) := by decide +kernel
theorem dX0_letDayGoBy_52 : decode cX0_letDayGoBy 52 = .ok (.bipush 16, 2) := by decide +kernel
theorem dX0_letDayGoBy_54 : decode cX0_letDayGoBy 54 = .ok (.iload_n 2, 1) := by decide +kernel
theorem dX0_letDayGoBy_55 : decode cX0_letDayGoBy 55 = .ok (.isub, 1) := by decide +kernel
theorem dX0_letDayGoBy_56 : decode cX0_letDayGoBy 56 = .ok (.aload_n 0, 1) := by decide +kernel
theorem dX0_letDayGoBy_57 : decode cX0_letDayGoBy 57 = .ok (.getfield 11, 3) := by decide +kernel
theorem dX0_letDayGoBy_60 : decode cX0_letDayGoBy 60 = .ok (.iload_n 1, 1) := by decide +kernel
theorem dX0_letDayGoBy_61 : decode cX0_letDayGoBy 61 = .ok (.iaload, 1) := by decide +kernel
theorem dX0_letDayGoBy_62 : decode cX0_letDayGoBy 62 = .ok (.imul, 1) := by decide +kernel
theorem dX0_letDayGoBy_63 : decode cX0_letDayGoBy 63 = .ok (.invokevirtual 171, 3) := by decide +kernel
theorem dX0_letDayGoBy_66 : decode cX0_letDayGoBy 66 = .ok (.iinc 1 1, 3) := by decide +kernel
theorem dX0_letDayGoBy_69 : decode cX0_letDayGoBy 69 = .ok (.goto (-63), 3) := by decide +kernel
theorem dX0_letDayGoBy_72 : decode cX0_letDayGoBy 72 = .ok (.aload_n 0, 1) := by decide +kernel
theorem dX0_letDayGoBy_73 : decode cX0_letDayGoBy 73 = .ok (.dup, 1) := by decide +kernel
theorem dX0_letDayGoBy_74 : decode cX0_letDayGoBy 74 = .ok (.getfield 57, 3) := by decide +kernel
theorem dX0_letDayGoBy_77 : decode cX0_letDayGoBy 77 = .ok (.aload_n 0, 1) := by decide +kernel
theorem dX0_letDayGoBy_78 : decode cX0_letDayGoBy 78 = .ok (.getfield 21, 3) := by decide +kernel
theorem dX0_letDayGoBy_81 : decode cX0_letDayGoBy 81 = .ok (.iconst 3, 1) := by decide +kernel
theorem dX0_letDayGoBy_82 : decode cX0_letDayGoBy 82 = .ok (.iaload, 1) := by decide +kernel
theorem dX0_letDayGoBy_83 : decode cX0_letDayGoBy 83 = .ok (.aload_n 0, 1) := by decide +kernel
theorem dX0_letDayGoBy_84 : decode cX0_letDayGoBy 84 = .ok (.getfield 34, 3) := by decide +kernel
theorem dX0_letDayGoBy_87 : decode cX0_letDayGoBy 87 = .ok (.aload_n 0, 1) := by decide +kernel
theorem dX0_letDayGoBy_88 : decode cX0_letDayGoBy 88 = .ok (.getfield 41, 3) := by decide +kernel
theorem dX0_letDayGoBy_91 : decode cX0_letDayGoBy 91 = .ok (.invokevirtual 175, 3) := by decide +kernel
theorem dX0_letDayGoBy_94 : decode cX0_letDayGoBy 94 = .ok (.imul, 1) := by decide +kernel
theorem dX0_letDayGoBy_95 : decode cX0_letDayGoBy 95 = .ok (.iadd, 1) := by decide +kernel
theorem dX0_letDayGoBy_96 : decode cX0_letDayGoBy 96 = .ok (.putfield 57, 3) := by decide +kernel
theorem dX0_letDayGoBy_99 : decode cX0_letDayGoBy 99 = .ok (.aload_n 0, 1) := by decide +kernel
theorem dX0_letDayGoBy_100 : decode cX0_letDayGoBy 100 = .ok (.invokevirtual 178, 3) := by decide +kernel
theorem dX0_letDayGoBy_103 : decode cX0_letDayGoBy 103 = .ok (.aload_n 0, 1) := by decide +kernel
theorem dX0_letDayGoBy_104 : decode cX0_letDayGoBy 104 = .ok (.dup, 1) := by decide +kernel
theorem dX0_letDayGoBy_105 : decode cX0_letDayGoBy 105 = .ok (.getfield 41, 3) := by decide +kernel
theorem dX0_letDayGoBy_108 : decode cX0_letDayGoBy 108 = .ok (.iconst 1, 1) := by decide +kernel
theorem dX0_letDayGoBy_109 : decode cX0_letDayGoBy 109 = .ok (.iadd, 1) := by decide +kernel
theorem dX0_letDayGoBy_110 : decode cX0_letDayGoBy 110 = .ok (.putfield 41, 3) := by decide +kernel
theorem dX0_letDayGoBy_113 : decode cX0_letDayGoBy 113 = .ok (.return_, 1) := by decide +kernel
theorem dX0_holdSessions_0 : decode cX0_holdSessions 0 = .ok (.aload_n 0, 1) := by decide +kernel
theorem dX0_holdSessions_1 : decode cX0_holdSessions 1 = .ok (.getfield 34, 3) := by decide +kernel
theorem dX0_holdSessions_4 : decode cX0_holdSessions 4 = .ok (.aload_n 0, 1) := by decide +kernel
theorem dX0_holdSessions_5 : decode cX0_holdSessions 5 = .ok (.getfield 34, 3) := by decide +kernel
theorem dX0_holdSessions_8 : decode cX0_holdSessions 8 = .ok (.getfield 51, 3) := by decide +kernel
theorem dX0_holdSessions_11 : decode cX0_holdSessions 11 = .ok (.aload_n 0, 1) := by decide +kernel
theorem dX0_holdSessions_12 : decode cX0_holdSessions 12 = .ok (.getfield 48, 3) := by decide +kernel
theorem dX0_holdSessions_15 : decode cX0_holdSessions 15 = .ok (.iadd, 1) := by decide +kernel
theorem dX0_holdSessions_16 : decode cX0_holdSessions 16 = .ok (.invokevirtual 181, 3) := by decide +kernel
theorem dX0_holdSessions_19 : decode cX0_holdSessions 19 = .ok (.iconst 0, 1) := by decide +kernel
theorem dX0_holdSessions_20 : decode cX0_holdSessions 20 = .ok (.istore_n 1, 1) := by decide +kernel
theorem dX0_holdSessions_21 : decode cX0_holdSessions 21 = .ok (.iload_n 1, 1) := by decide +kernel
theorem dX0_holdSessions_22 : decode cX0_holdSessions 22 = .ok (.aload_n 0, 1) := by decide +kernel
theorem dX0_holdSessions_23 : decode cX0_holdSessions 23 = .ok (.getfield 48, 3) := by decide +kernel
theorem dX0_holdSessions_26 : decode cX0_holdSessions 26 = .ok (.if_icmp .ge 79, 3) := by decide +kernel
theorem dX0_holdSessions_29 : decode cX0_holdSessions 29 = .ok (.aload_n 0, 1) := by decide +kernel
theorem dX0_holdSessions_30 : decode cX0_holdSessions 30 = .ok (.getfield 26, 3) := by decide +kernel
theorem dX0_holdSessions_33 : decode cX0_holdSessions 33 = .ok (.iload_n 1, 1) := by decide +kernel
theorem dX0_holdSessions_34 : decode cX0_holdSessions 34 = .ok (.aaload, 1) := by decide +kernel
theorem dX0_holdSessions_35 : decode cX0_holdSessions 35 = .ok (.astore_n 2, 1) := by decide +kernel
theorem dX0_holdSessions_36 : decode cX0_holdSessions 36 = .ok (.aload_n 2, 1) := by decide +kernel
theorem dX0_holdSessions_37 : decode cX0_holdSessions 37 = .ok (.getfield 98, 3) := by decide +kernel
theorem dX0_holdSessions_40 : decode cX0_holdSessions 40 = .ok (.aload_n 0, 1) := by decide +kernel
theorem dX0_holdSessions_41 : decode cX0_holdSessions 41 = .ok (.getfield 41, 3) := by decide +kernel
theorem dX0_holdSessions_44 : decode cX0_holdSessions 44 = .ok (.if_icmp .ne 55, 3) := by decide +kernel
theorem dX0_holdSessions_47 : decode cX0_holdSessions 47 = .ok (.aload_n 2, 1) := by decide +kernel
theorem dX0_holdSessions_48 : decode cX0_holdSessions 48 = .ok (.getfield 88, 3) := by decide +kernel
theorem dX0_holdSessions_51 : decode cX0_holdSessions 51 = .ok (.iconst (-1), 1) := by decide +kernel
theorem dX0_holdSessions_52 : decode cX0_holdSessions 52 = .ok (.if_icmp .ne 16, 3) := by decide +kernel
theorem dX0_holdSessions_55 : decode cX0_holdSessions 55 = .ok (.aload_n 0, 1) := by decide +kernel
theorem dX0_holdSessions_56 : decode cX0_holdSessions 56 = .ok (.dup, 1) := by decide +kernel
theorem dX0_holdSessions_57 : decode cX0_holdSessions 57 = .ok (.getfield 54, 3) := by decide +kernel
theorem dX0_holdSessions_60 : decode cX0_holdSessions 60 = .ok (.iconst 1, 1) := by decide +kernel
theorem dX0_holdSessions_61 : decode cX0_holdSessions 61 = .ok (.iadd, 1) := by decide +kernel
theorem dX0_holdSessions_62 : decode cX0_holdSessions 62 = .ok (.putfield 54, 3) := by decide +kernel
theorem dX0_holdSessions_65 : decode cX0_holdSessions 65 = .ok (.goto 34, 3) := by decide +kernel
theorem dX0_holdSessions_68 : decode cX0_holdSessions 68 = .ok (.aload_n 0, 1) := by decide +kernel
theorem dX0_holdSessions_69 : decode cX0_holdSessions 69 = .ok (.getfield 34, 3) := by decide +kernel
theorem dX0_holdSessions_72 : decode cX0_holdSessions 72 = .ok (.aload_n 2, 1) := by decide +kernel
theorem dX0_holdSessions_73 : decode cX0_holdSessions 73 = .ok (.getfield 88, 3) := by decide +kernel
theorem dX0_holdSessions_76 : decode cX0_holdSessions 76 = .ok (.aload_n 2, 1) := by decide +kernel
theorem dX0_holdSessions_77 : decode cX0_holdSessions 77 = .ok (.getfield 104, 3) := by decide +kernel
theorem dX0_holdSessions_80 : decode cX0_holdSessions 80 = .ok (.aload_n 2, 1) := by decide +kernel
theorem dX0_holdSessions_81 : decode cX0_holdSessions 81 = .ok (.getfield 134, 3) := by decide +kernel
theorem dX0_holdSessions_84 : decode cX0_holdSessions 84 = .ok (.imul, 1) := by decide +kernel
theorem dX0_holdSessions_85 : decode cX0_holdSessions 85 = .ok (.aload_n 0, 1) := by decide +kernel
theorem dX0_holdSessions_86 : decode cX0_holdSessions 86 = .ok (.getfield 41, 3) := by decide +kernel
theorem dX0_holdSessions_89 : decode cX0_holdSessions 89 = .ok (.aload_n 0, 1) := by decide +kernel
theorem dX0_holdSessions_90 : decode cX0_holdSessions 90 = .ok (.getfield 21, 3) := by decide +kernel
theorem dX0_holdSessions_93 : decode cX0_holdSessions 93 = .ok (.iconst 2, 1) := by decide +kernel
theorem dX0_holdSessions_94 : decode cX0_holdSessions 94 = .ok (.iaload, 1) := by decide +kernel
theorem dX0_holdSessions_95 : decode cX0_holdSessions 95 = .ok (.iadd, 1) := by decide +kernel
theorem dX0_holdSessions_96 : decode cX0_holdSessions 96 = .ok (.invokevirtual 184, 3) := by decide +kernel
theorem dX0_holdSessions_99 : decode cX0_holdSessions 99 = .ok (.iinc 1 1, 3) := by decide +kernel
theorem dX0_holdSessions_102 : decode cX0_holdSessions 102 = .ok (.goto (-81), 3) := by decide +kernel
theorem dX0_holdSessions_105 : decode cX0_holdSessions 105 = .ok (.return_, 1) := by decide +kernel
theorem dX0_payFor_0 : decode cX0_payFor 0 = .ok (.iconst 2, 1) := by decide +kernel
theorem dX0_payFor_1 : decode cX0_payFor 1 = .ok (.iload_n 0, 1) := by decide +kernel
theorem dX0_payFor_2 : decode cX0_payFor 2 = .ok (.imul, 1) := by decide +kernel
theorem dX0_payFor_3 : decode cX0_payFor 3 = .ok (.iconst 0, 1) := by decide +kernel
theorem dX0_payFor_4 : decode cX0_payFor 4 = .ok (.iload_n 0, 1) := by decide +kernel
theorem dX0_payFor_5 : decode cX0_payFor 5 = .ok (.bipush 8, 2) := by decide +kernel
theorem dX0_payFor_7 : decode cX0_payFor 7 = .ok (.isub, 1) := by decide +kernel
theorem dX0_payFor_8 : decode cX0_payFor 8 = .ok (.invokestatic 123, 3) := by decide +kernel
theorem dX0_payFor_11 : decode cX0_payFor 11 = .ok (.iadd, 1) := by decide +kernel
theorem dX0_payFor_12 : decode cX0_payFor 12 = .ok (.ireturn, 1) := by decide +kernel
theorem dX0_typePages_0 : decode cX0_typePages 0 = .ok (.iload_n 2, 1) := by decide +kernel
theorem dX0_typePages_1 : decode cX0_typePages 1 = .ok (.istore_n 3, 1) := by decide +kernel
theorem dX0_typePages_2 : decode cX0_typePages 2 = .ok (.aload_n 0, 1) := by decide +kernel
theorem dX0_typePages_3 : decode cX0_typePages 3 = .ok (.getfield 34, 3) := by decide +kernel
theorem dX0_typePages_6 : decode cX0_typePages 6 = .ok (.getfield 51, 3) := by decide +kernel
theorem dX0_typePages_9 : decode cX0_typePages 9 = .ok (.istore 4, 2) := by decide +kernel
theorem dX0_typePages_11 : decode cX0_typePages 11 = .ok (.iload 4, 2) := by decide +kernel
theorem dX0_typePages_13 : decode cX0_typePages 13 = .ok (.ifCond .le 109, 3) := by decide +kernel
theorem dX0_typePages_16 : decode cX0_typePages 16 = .ok (.iload_n 3, 1) := by decide +kernel
theorem dX0_typePages_17 : decode cX0_typePages 17 = .ok (.ifCond .le 105, 3) := by decide +kernel
theorem dX0_typePages_20 : decode cX0_typePages 20 = .ok (.aload_n 0, 1) := by decide +kernel
theorem dX0_typePages_21 : decode cX0_typePages 21 = .ok (.getfield 34, 3) := by decide +kernel
theorem dX0_typePages_24 : decode cX0_typePages 24 = .ok (.iload_n 1, 1) := by decide +kernel
theorem dX0_typePages_25 : decode cX0_typePages 25 = .ok (.invokevirtual 188, 3) := by decide +kernel
theorem dX0_typePages_28 : decode cX0_typePages 28 = .ok (.istore 5, 2) := by decide +kernel
theorem dX0_typePages_30 : decode cX0_typePages 30 = .ok (.iload 5, 2) := by decide +kernel
theorem dX0_typePages_32 : decode cX0_typePages 32 = .ok (.iconst (-1), 1) := by decide +kernel
theorem dX0_typePages_33 : decode cX0_typePages 33 = .ok (.if_icmp .ne 4, 3) := by decide +kernel
theorem dX0_typePages_36 : decode cX0_typePages 36 = .ok (.return_, 1) := by decide +kernel
theorem dX0_typePages_37 : decode cX0_typePages 37 = .ok (.iload_n 3, 1) := by decide +kernel
theorem dX0_typePages_38 : decode cX0_typePages 38 = .ok (.aload_n 0, 1) := by decide +kernel
theorem dX0_typePages_39 : decode cX0_typePages 39 = .ok (.getfield 34, 3) := by decide +kernel
theorem dX0_typePages_42 : decode cX0_typePages 42 = .ok (.getfield 191, 3) := by decide +kernel
theorem dX0_typePages_45 : decode cX0_typePages 45 = .ok (.iload 5, 2) := by decide +kernel
theorem dX0_typePages_47 : decode cX0_typePages 47 = .ok (.iaload, 1) := by decide +kernel
theorem dX0_typePages_48 : decode cX0_typePages 48 = .ok (.invokestatic 143, 3) := by decide +kernel
theorem dX0_typePages_51 : decode cX0_typePages 51 = .ok (.istore 6, 2) := by decide +kernel
theorem dX0_typePages_53 : decode cX0_typePages 53 = .ok (.iload_n 3, 1) := by decide +kernel
theorem dX0_typePages_54 : decode cX0_typePages 54 = .ok (.iload 6, 2) := by decide +kernel
theorem dX0_typePages_56 : decode cX0_typePages 56 = .ok (.isub, 1) := by decide +kernel
theorem dX0_typePages_57 : decode cX0_typePages 57 = .ok (.istore_n 3, 1) := by decide +kernel
theorem dX0_typePages_58 : decode cX0_typePages 58 = .ok (.aload_n 0, 1) := by decide +kernel
theorem dX0_typePages_59 : decode cX0_typePages 59 = .ok (.dup, 1) := by decide +kernel
theorem dX0_typePages_60 : decode cX0_typePages 60 = .ok (.getfield 63, 3) := by decide +kernel
theorem dX0_typePages_63 : decode cX0_typePages 63 = .ok (.iload 6, 2) := by decide +kernel
theorem dX0_typePages_65 : decode cX0_typePages 65 = .ok (.iadd, 1) := by decide +kernel
theorem dX0_typePages_66 : decode cX0_typePages 66 = .ok (.putfield 63, 3) := by decide +kernel
theorem dX0_typePages_69 : decode cX0_typePages 69 = .ok (.aload_n 0, 1) := by decide +kernel
theorem dX0_typePages_70 : decode cX0_typePages 70 = .ok (.getfield 34, 3) := by decide +kernel
theorem dX0_typePages_73 : decode cX0_typePages 73 = .ok (.getfield 191, 3) := by decide +kernel
theorem dX0_typePages_76 : decode cX0_typePages 76 = .ok (.iload 5, 2) := by decide +kernel
theorem dX0_typePages_78 : decode cX0_typePages 78 = .ok (.dup2, 1) := by decide +kernel
theorem dX0_typePages_79 : decode cX0_typePages 79 = .ok (.iaload, 1) := by decide +kernel
theorem dX0_typePages_80 : decode cX0_typePages 80 = .ok (.iload 6, 2) := by decide +kernel
theorem dX0_typePages_82 : decode cX0_typePages 82 = .ok (.isub, 1) := by decide +kernel
theorem dX0_typePages_83 : decode cX0_typePages 83 = .ok (.iastore, 1) := by decide +kernel
theorem dX0_typePages_84 : decode cX0_typePages 84 = .ok (.aload_n 0, 1) := by decide +kernel
theorem dX0_typePages_85 : decode cX0_typePages 85 = .ok (.getfield 34, 3) := by decide +kernel
theorem dX0_typePages_88 : decode cX0_typePages 88 = .ok (.getfield 191, 3) := by decide +kernel
theorem dX0_typePages_91 : decode cX0_typePages 91 = .ok (.iload 5, 2) := by decide +kernel
theorem dX0_typePages_93 : decode cX0_typePages 93 = .ok (.iaload, 1) := by decide +kernel
theorem dX0_typePages_94 : decode cX0_typePages 94 = .ok (.ifCond .ne 22, 3) := by decide +kernel
theorem dX0_typePages_97 : decode cX0_typePages 97 = .ok (.aload_n 0, 1) := by decide +kernel
theorem dX0_typePages_98 : decode cX0_typePages 98 = .ok (.getfield 34, 3) := by decide +kernel
theorem dX0_typePages_101 : decode cX0_typePages 101 = .ok (.iload 5, 2) := by decide +kernel
theorem dX0_typePages_103 : decode cX0_typePages 103 = .ok (.invokevirtual 194, 3) := by decide +kernel
theorem dX0_typePages_106 : decode cX0_typePages 106 = .ok (.aload_n 0, 1) := by decide +kernel
theorem dX0_typePages_107 : decode cX0_typePages 107 = .ok (.dup, 1) := by decide +kernel
theorem dX0_typePages_108 : decode cX0_typePages 108 = .ok (.getfield 60, 3) := by decide +kernel
theorem dX0_typePages_111 : decode cX0_typePages 111 = .ok (.iconst 1, 1) := by decide +kernel
theorem dX0_typePages_112 : decode cX0_typePages 112 = .ok (.iadd, 1) := by decide +kernel
theorem dX0_typePages_113 : decode cX0_typePages 113 = .ok (.putfield 60, 3) := by decide +kernel
theorem dX0_typePages_116 : decode cX0_typePages 116 = .ok (.iinc 4 (-1), 3) := by decide +kernel
theorem dX0_typePages_119 : decode cX0_typePages 119 = .ok (.goto (-108), 3) := by decide +kernel
theorem dX0_typePages_122 : decode cX0_typePages 122 = .ok (.return_, 1) := by decide +kernel
theorem dX0_removeTodays_0 : decode cX0_removeTodays 0 = .ok (.aload_n 0, 1) := by decide +kernel
theorem dX0_removeTodays_1 : decode cX0_removeTodays 1 = .ok (.getfield 48, 3) := by decide +kernel
theorem dX0_removeTodays_4 : decode cX0_removeTodays 4 = .ok (.iconst 1, 1) := by decide +kernel
theorem dX0_removeTodays_5 : decode cX0_removeTodays 5 = .ok (.isub, 1) := by decide +kernel
theorem dX0_removeTodays_6 : decode cX0_removeTodays 6 = .ok (.istore_n 1, 1) := by decide +kernel
theorem dX0_removeTodays_7 : decode cX0_removeTodays 7 = .ok (.iload_n 1, 1) := by decide +kernel
theorem dX0_removeTodays_8 : decode cX0_removeTodays 8 = .ok (.ifCond .lt 30, 3) := by decide +kernel
theorem dX0_removeTodays_11 : decode cX0_removeTodays 11 = .ok (.aload_n 0, 1) := by decide +kernel
theorem dX0_removeTodays_12 : decode cX0_removeTodays 12 = .ok (.getfield 26, 3) := by decide +kernel
theorem dX0_removeTodays_15 : decode cX0_removeTodays 15 = .ok (.iload_n 1, 1) := by decide +kernel
theorem dX0_removeTodays_16 : decode cX0_removeTodays 16 = .ok (.aaload, 1) := by decide +kernel
theorem dX0_removeTodays_17 : decode cX0_removeTodays 17 = .ok (.getfield 98, 3) := by decide +kernel
theorem dX0_removeTodays_20 : decode cX0_removeTodays 20 = .ok (.aload_n 0, 1) := by decide +kernel
theorem dX0_removeTodays_21 : decode cX0_removeTodays 21 = .ok (.getfield 41, 3) := by decide +kernel
theorem dX0_removeTodays_24 : decode cX0_removeTodays 24 = .ok (.if_icmp .ne 8, 3) := by decide +kernel
theorem dX0_removeTodays_27 : decode cX0_removeTodays 27 = .ok (.aload_n 0, 1) := by decide +kernel
theorem dX0_removeTodays_28 : decode cX0_removeTodays 28 = .ok (.iload_n 1, 1) := by decide +kernel
theorem dX0_removeTodays_29 : decode cX0_removeTodays 29 = .ok (.invokevirtual 156, 3) := by decide +kernel
theorem dX0_removeTodays_32 : decode cX0_removeTodays 32 = .ok (.iinc 1 (-1), 3) := by decide +kernel
theorem dX0_removeTodays_35 : decode cX0_removeTodays 35 = .ok (.goto (-28), 3) := by decide +kernel
theorem dX0_removeTodays_38 : decode cX0_removeTodays 38 = .ok (.return_, 1) := by decide +kernel
theorem dX0_allPay_0 : decode cX0_allPay 0 = .ok (.iconst 0, 1) := by decide +kernel
theorem dX0_allPay_1 : decode cX0_allPay 1 = .ok (.istore_n 1, 1) := by decide +kernel
theorem dX0_allPay_2 : decode cX0_allPay 2 = .ok (.iconst 0, 1) := by decide +kernel
theorem dX0_allPay_3 : decode cX0_allPay 3 = .ok (.istore_n 2, 1) := by decide +kernel
theorem dX0_allPay_4 : decode cX0_allPay 4 = .ok (.iload_n 2, 1) := by decide +kernel
theorem dX0_allPay_5 : decode cX0_allPay 5 = .ok (.aload_n 0, 1) := by decide +kernel
theorem dX0_allPay_6 : decode cX0_allPay 6 = .ok (.getfield 45, 3) := by decide +kernel
theorem dX0_allPay_9 : decode cX0_allPay 9 = .ok (.if_icmp .ge 18, 3) := by decide +kernel
theorem dX0_allPay_12 : decode cX0_allPay 12 = .ok (.iload_n 1, 1) := by decide +kernel
theorem dX0_allPay_13 : decode cX0_allPay 13 = .ok (.aload_n 0, 1) := by decide +kernel
theorem dX0_allPay_14 : decode cX0_allPay 14 = .ok (.getfield 18, 3) := by decide +kernel
theorem dX0_allPay_17 : decode cX0_allPay 17 = .ok (.iload_n 2, 1) := by decide +kernel
theorem dX0_allPay_18 : decode cX0_allPay 18 = .ok (.iaload, 1) := by decide +kernel
theorem dX0_allPay_19 : decode cX0_allPay 19 = .ok (.iadd, 1) := by decide +kernel
theorem dX0_allPay_20 : decode cX0_allPay 20 = .ok (.istore_n 1, 1) := by decide +kernel
theorem dX0_allPay_21 : decode cX0_allPay 21 = .ok (.iinc 2 1, 3) := by decide +kernel
theorem dX0_allPay_24 : decode cX0_allPay 24 = .ok (.goto (-20), 3) := by decide +kernel
theorem dX0_allPay_27 : decode cX0_allPay 27 = .ok (.iload_n 1, 1) := by decide +kernel
theorem dX0_allPay_28 : decode cX0_allPay 28 = .ok (.ireturn, 1) := by decide +kernel
