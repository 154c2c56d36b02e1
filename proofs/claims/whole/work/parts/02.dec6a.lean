theorem dX6_init_0 : decode cX6_init 0 = .ok (.aload_n 0, 1) := by decide +kernel
theorem dX6_init_1 : decode cX6_init 1 = .ok (.invokespecial 1, 3) := by decide +kernel
theorem dX6_init_4 : decode cX6_init 4 = .ok (.aload_n 0, 1) := by decide +kernel
theorem dX6_init_5 : decode cX6_init 5 = .ok (.bipush 120, 2) := by decide +kernel
theorem dX6_init_7 : decode cX6_init 7 = .ok (.newarray .int, 2) := by decide +kernel
theorem dX6_init_9 : decode cX6_init 9 = .ok (.putfield 7, 3) := by decide +kernel
theorem dX6_init_12 : decode cX6_init 12 = .ok (.aload_n 0, 1) := by decide +kernel
theorem dX6_init_13 : decode cX6_init 13 = .ok (.sipush 2047, 3) := by decide +kernel
theorem dX6_init_16 : decode cX6_init 16 = .ok (.newarray .int, 2) := by decide +kernel
theorem dX6_init_18 : decode cX6_init 18 = .ok (.putfield 13, 3) := by decide +kernel
theorem dX6_init_21 : decode cX6_init 21 = .ok (.aload_n 0, 1) := by decide +kernel
theorem dX6_init_22 : decode cX6_init 22 = .ok (.sipush 2047, 3) := by decide +kernel
theorem dX6_init_25 : decode cX6_init 25 = .ok (.newarray .int, 2) := by decide +kernel
theorem dX6_init_27 : decode cX6_init 27 = .ok (.putfield 16, 3) := by decide +kernel
theorem dX6_init_30 : decode cX6_init 30 = .ok (.aload_n 0, 1) := by decide +kernel
theorem dX6_init_31 : decode cX6_init 31 = .ok (.sipush 28658, 3) := by decide +kernel
theorem dX6_init_34 : decode cX6_init 34 = .ok (.newarray .int, 2) := by decide +kernel
theorem dX6_init_36 : decode cX6_init 36 = .ok (.putfield 19, 3) := by decide +kernel
theorem dX6_init_39 : decode cX6_init 39 = .ok (.aload_n 0, 1) := by decide +kernel
theorem dX6_init_40 : decode cX6_init 40 = .ok (.sipush 4094, 3) := by decide +kernel
theorem dX6_init_43 : decode cX6_init 43 = .ok (.newarray .int, 2) := by decide +kernel
theorem dX6_init_45 : decode cX6_init 45 = .ok (.putfield 22, 3) := by decide +kernel
theorem dX6_init_48 : decode cX6_init 48 = .ok (.aload_n 0, 1) := by decide +kernel
theorem dX6_init_49 : decode cX6_init 49 = .ok (.iconst 2, 1) := by decide +kernel
theorem dX6_init_50 : decode cX6_init 50 = .ok (.newarray .boolean, 2) := by decide +kernel
theorem dX6_init_52 : decode cX6_init 52 = .ok (.putfield 25, 3) := by decide +kernel
theorem dX6_init_55 : decode cX6_init 55 = .ok (.aload_n 0, 1) := by decide +kernel
theorem dX6_init_56 : decode cX6_init 56 = .ok (.bipush 16, 2) := by decide +kernel
theorem dX6_init_58 : decode cX6_init 58 = .ok (.newarray .int, 2) := by decide +kernel
theorem dX6_init_60 : decode cX6_init 60 = .ok (.putfield 29, 3) := by decide +kernel
theorem dX6_init_63 : decode cX6_init 63 = .ok (.aload_n 0, 1) := by decide +kernel
theorem dX6_init_64 : decode cX6_init 64 = .ok (.bipush 16, 2) := by decide +kernel
theorem dX6_init_66 : decode cX6_init 66 = .ok (.newarray .int, 2) := by decide +kernel
theorem dX6_init_68 : decode cX6_init 68 = .ok (.putfield 32, 3) := by decide +kernel
theorem dX6_init_71 : decode cX6_init 71 = .ok (.aload_n 0, 1) := by decide +kernel
theorem dX6_init_72 : decode cX6_init 72 = .ok (.bipush 16, 2) := by decide +kernel
theorem dX6_init_74 : decode cX6_init 74 = .ok (.newarray .int, 2) := by decide +kernel
theorem dX6_init_76 : decode cX6_init 76 = .ok (.putfield 35, 3) := by decide +kernel
theorem dX6_init_79 : decode cX6_init 79 = .ok (.aload_n 0, 1) := by decide +kernel
theorem dX6_init_80 : decode cX6_init 80 = .ok (.bipush 16, 2) := by decide +kernel
theorem dX6_init_82 : decode cX6_init 82 = .ok (.newarray .int, 2) := by decide +kernel
theorem dX6_init_84 : decode cX6_init 84 = .ok (.putfield 38, 3) := by decide +kernel
theorem dX6_init_87 : decode cX6_init 87 = .ok (.aload_n 0, 1) := by decide +kernel
theorem dX6_init_88 : decode cX6_init 88 = .ok (.getfield 13, 3) := by decide +kernel
theorem dX6_init_91 : decode cX6_init 91 = .ok (.invokestatic 41, 3) := by decide +kernel
theorem dX6_init_94 : decode cX6_init 94 = .ok (.return_, 1) := by decide +kernel
theorem dX6_thrown_0 : decode cX6_thrown 0 = .ok (.aload_n 0, 1) := by decide +kernel
theorem dX6_thrown_1 : decode cX6_thrown 1 = .ok (.getfield 45, 3) := by decide +kernel
theorem dX6_thrown_4 : decode cX6_thrown 4 = .ok (.ireturn, 1) := by decide +kernel
theorem dX6_refused_0 : decode cX6_refused 0 = .ok (.aload_n 0, 1) := by decide +kernel
theorem dX6_refused_1 : decode cX6_refused 1 = .ok (.iload_n 1, 1) := by decide +kernel
theorem dX6_refused_2 : decode cX6_refused 2 = .ok (.putfield 45, 3) := by decide +kernel
theorem dX6_refused_5 : decode cX6_refused 5 = .ok (.iload_n 1, 1) := by decide +kernel
theorem dX6_refused_6 : decode cX6_refused 6 = .ok (.ifCond .le 7, 3) := by decide +kernel
theorem dX6_refused_9 : decode cX6_refused 9 = .ok (.iconst 1, 1) := by decide +kernel
theorem dX6_refused_10 : decode cX6_refused 10 = .ok (.goto 4, 3) := by decide +kernel
theorem dX6_refused_13 : decode cX6_refused 13 = .ok (.iconst 0, 1) := by decide +kernel
theorem dX6_refused_14 : decode cX6_refused 14 = .ok (.ireturn, 1) := by decide +kernel
theorem dX6_in_0 : decode cX6_in 0 = .ok (.lload_n 0, 1) := by decide +kernel
theorem dX6_in_1 : decode cX6_in 1 = .ok (.lload_n 2, 1) := by decide +kernel
theorem dX6_in_2 : decode cX6_in 2 = .ok (.lcmp, 1) := by decide +kernel
theorem dX6_in_3 : decode cX6_in 3 = .ok (.ifCond .lt 14, 3) := by decide +kernel
theorem dX6_in_6 : decode cX6_in 6 = .ok (.lload_n 0, 1) := by decide +kernel
theorem dX6_in_7 : decode cX6_in 7 = .ok (.lload 4, 2) := by decide +kernel
theorem dX6_in_9 : decode cX6_in 9 = .ok (.lcmp, 1) := by decide +kernel
theorem dX6_in_10 : decode cX6_in 10 = .ok (.ifCond .gt 7, 3) := by decide +kernel
theorem dX6_in_13 : decode cX6_in 13 = .ok (.iconst 1, 1) := by decide +kernel
theorem dX6_in_14 : decode cX6_in 14 = .ok (.goto 4, 3) := by decide +kernel
theorem dX6_in_17 : decode cX6_in 17 = .ok (.iconst 0, 1) := by decide +kernel
theorem dX6_in_18 : decode cX6_in 18 = .ok (.ireturn, 1) := by decide +kernel
theorem dX6_copyState_0 : decode cX6_copyState 0 = .ok (.bipush 127, 2) := by decide +kernel
theorem dX6_copyState_2 : decode cX6_copyState 2 = .ok (.iconst 3, 1) := by decide +kernel
theorem dX6_copyState_3 : decode cX6_copyState 3 = .ok (.aload_n 0, 1) := by decide +kernel
theorem dX6_copyState_4 : decode cX6_copyState 4 = .ok (.iload_n 1, 1) := by decide +kernel
theorem dX6_copyState_5 : decode cX6_copyState 5 = .ok (.iconst 2, 1) := by decide +kernel
theorem dX6_copyState_6 : decode cX6_copyState 6 = .ok (.iadd, 1) := by decide +kernel
theorem dX6_copyState_7 : decode cX6_copyState 7 = .ok (.iaload, 1) := by decide +kernel
theorem dX6_copyState_8 : decode cX6_copyState 8 = .ok (.imul, 1) := by decide +kernel
theorem dX6_copyState_9 : decode cX6_copyState 9 = .ok (.iadd, 1) := by decide +kernel
theorem dX6_copyState_10 : decode cX6_copyState 10 = .ok (.istore 4, 2) := by decide +kernel
theorem dX6_copyState_12 : decode cX6_copyState 12 = .ok (.iconst 0, 1) := by decide +kernel
theorem dX6_copyState_13 : decode cX6_copyState 13 = .ok (.istore 5, 2) := by decide +kernel
theorem dX6_copyState_15 : decode cX6_copyState 15 = .ok (.iload 5, 2) := by decide +kernel
theorem dX6_copyState_17 : decode cX6_copyState 17 = .ok (.iload 4, 2) := by decide +kernel
theorem dX6_copyState_19 : decode cX6_copyState 19 = .ok (.if_icmp .ge 21, 3) := by decide +kernel
theorem dX6_copyState_22 : decode cX6_copyState 22 = .ok (.aload_n 2, 1) := by decide +kernel
theorem dX6_copyState_23 : decode cX6_copyState 23 = .ok (.iload_n 3, 1) := by decide +kernel
theorem dX6_copyState_24 : decode cX6_copyState 24 = .ok (.iload 5, 2) := by decide +kernel
theorem dX6_copyState_26 : decode cX6_copyState 26 = .ok (.iadd, 1) := by decide +kernel
theorem dX6_copyState_27 : decode cX6_copyState 27 = .ok (.aload_n 0, 1) := by decide +kernel
theorem dX6_copyState_28 : decode cX6_copyState 28 = .ok (.iload_n 1, 1) := by decide +kernel
theorem dX6_copyState_29 : decode cX6_copyState 29 = .ok (.iload 5, 2) := by decide +kernel
theorem dX6_copyState_31 : decode cX6_copyState 31 = .ok (.iadd, 1) := by decide +kernel
theorem dX6_copyState_32 : decode cX6_copyState 32 = .ok (.iaload, 1) := by decide +kernel
theorem dX6_copyState_33 : decode cX6_copyState 33 = .ok (.iastore, 1) := by decide +kernel
theorem dX6_copyState_34 : decode cX6_copyState 34 = .ok (.iinc 5 1, 3) := by decide +kernel
theorem dX6_copyState_37 : decode cX6_copyState 37 = .ok (.goto (-22), 3) := by decide +kernel
theorem dX6_copyState_40 : decode cX6_copyState 40 = .ok (.return_, 1) := by decide +kernel
theorem dX6_begin_0 : decode cX6_begin 0 = .ok (.iconst 0, 1) := by decide +kernel
theorem dX6_begin_1 : decode cX6_begin 1 = .ok (.istore_n 1, 1) := by decide +kernel
theorem dX6_begin_2 : decode cX6_begin 2 = .ok (.iload_n 1, 1) := by decide +kernel
theorem dX6_begin_3 : decode cX6_begin 3 = .ok (.bipush 127, 2) := by decide +kernel
theorem dX6_begin_5 : decode cX6_begin 5 = .ok (.if_icmp .ge 13, 3) := by decide +kernel
theorem dX6_begin_8 : decode cX6_begin 8 = .ok (.aload_n 0, 1) := by decide +kernel
theorem dX6_begin_9 : decode cX6_begin 9 = .ok (.iload_n 1, 1) := by decide +kernel
theorem dX6_begin_10 : decode cX6_begin 10 = .ok (.iconst 0, 1) := by decide +kernel
theorem dX6_begin_11 : decode cX6_begin 11 = .ok (.iastore, 1) := by decide +kernel
theorem dX6_begin_12 : decode cX6_begin 12 = .ok (.iinc 1 1, 3) := by decide +kernel
theorem dX6_begin_15 : decode cX6_begin 15 = .ok (.goto (-13), 3) := by decide +kernel
theorem dX6_begin_18 : decode cX6_begin 18 = .ok (.aload_n 0, 1) := by decide +kernel
theorem dX6_begin_19 : decode cX6_begin 19 = .ok (.bipush 9, 2) := by decide +kernel
theorem dX6_begin_21 : decode cX6_begin 21 = .ok (.bipush 6, 2) := by decide +kernel
theorem dX6_begin_23 : decode cX6_begin 23 = .ok (.iastore, 1) := by decide +kernel
theorem dX6_begin_24 : decode cX6_begin 24 = .ok (.aload_n 0, 1) := by decide +kernel
theorem dX6_begin_25 : decode cX6_begin 25 = .ok (.bipush 10, 2) := by decide +kernel
theorem dX6_begin_27 : decode cX6_begin 27 = .ok (.bipush 10, 2) := by decide +kernel
theorem dX6_begin_29 : decode cX6_begin 29 = .ok (.iastore, 1) := by decide +kernel
theorem dX6_begin_30 : decode cX6_begin 30 = .ok (.aload_n 0, 1) := by decide +kernel
theorem dX6_begin_31 : decode cX6_begin 31 = .ok (.bipush 11, 2) := by decide +kernel
theorem dX6_begin_33 : decode cX6_begin 33 = .ok (.iconst 2, 1) := by decide +kernel
theorem dX6_begin_34 : decode cX6_begin 34 = .ok (.iastore, 1) := by decide +kernel
theorem dX6_begin_35 : decode cX6_begin 35 = .ok (.aload_n 0, 1) := by decide +kernel
theorem dX6_begin_36 : decode cX6_begin 36 = .ok (.bipush 12, 2) := by decide +kernel
theorem dX6_begin_38 : decode cX6_begin 38 = .ok (.iconst 5, 1) := by decide +kernel
theorem dX6_begin_39 : decode cX6_begin 39 = .ok (.iastore, 1) := by decide +kernel
theorem dX6_begin_40 : decode cX6_begin 40 = .ok (.return_, 1) := by decide +kernel
theorem dX6_isPerson_0 : decode cX6_isPerson 0 = .ok (.iload_n 1, 1) := by decide +kernel
theorem dX6_isPerson_1 : decode cX6_isPerson 1 = .ok (.i2l, 1) := by decide +kernel
theorem dX6_isPerson_2 : decode cX6_isPerson 2 = .ok (.lconst 0, 1) := by decide +kernel
theorem dX6_isPerson_3 : decode cX6_isPerson 3 = .ok (.aload_n 0, 1) := by decide +kernel
theorem dX6_isPerson_4 : decode cX6_isPerson 4 = .ok (.iconst 0, 1) := by decide +kernel
theorem dX6_isPerson_5 : decode cX6_isPerson 5 = .ok (.iaload, 1) := by decide +kernel
theorem dX6_isPerson_6 : decode cX6_isPerson 6 = .ok (.iconst 1, 1) := by decide +kernel
theorem dX6_isPerson_7 : decode cX6_isPerson 7 = .ok (.isub, 1) := by decide +kernel
theorem dX6_isPerson_8 : decode cX6_isPerson 8 = .ok (.i2l, 1) := by decide +kernel
theorem dX6_isPerson_9 : decode cX6_isPerson 9 = .ok (.invokestatic 49, 3) := by decide +kernel
theorem dX6_isPerson_12 : decode cX6_isPerson 12 = .ok (.ireturn, 1) := by decide +kernel
theorem dX6_isSession_0 : decode cX6_isSession 0 = .ok (.iload_n 1, 1) := by decide +kernel
theorem dX6_isSession_1 : decode cX6_isSession 1 = .ok (.i2l, 1) := by decide +kernel
theorem dX6_isSession_2 : decode cX6_isSession 2 = .ok (.lconst 0, 1) := by decide +kernel
theorem dX6_isSession_3 : decode cX6_isSession 3 = .ok (.aload_n 0, 1) := by decide +kernel
theorem dX6_isSession_4 : decode cX6_isSession 4 = .ok (.iconst 1, 1) := by decide +kernel
theorem dX6_isSession_5 : decode cX6_isSession 5 = .ok (.iaload, 1) := by decide +kernel
theorem dX6_isSession_6 : decode cX6_isSession 6 = .ok (.iconst 1, 1) := by decide +kernel
theorem dX6_isSession_7 : decode cX6_isSession 7 = .ok (.isub, 1) := by decide +kernel
theorem dX6_isSession_8 : decode cX6_isSession 8 = .ok (.i2l, 1) := by decide +kernel
theorem dX6_isSession_9 : decode cX6_isSession 9 = .ok (.invokestatic 49, 3) := by decide +kernel
theorem dX6_isSession_12 : decode cX6_isSession 12 = .ok (.ireturn, 1) := by decide +kernel
theorem dX6_isRoom_0 : decode cX6_isRoom 0 = .ok (.iload_n 0, 1) := by decide +kernel
theorem dX6_isRoom_1 : decode cX6_isRoom 1 = .ok (.i2l, 1) := by decide +kernel
theorem dX6_isRoom_2 : decode cX6_isRoom 2 = .ok (.lconst 0, 1) := by decide +kernel
theorem dX6_isRoom_3 : decode cX6_isRoom 3 = .ok (.ldc2_w 53, 3) := by decide +kernel
theorem dX6_isRoom_6 : decode cX6_isRoom 6 = .ok (.invokestatic 49, 3) := by decide +kernel
theorem dX6_isRoom_9 : decode cX6_isRoom 9 = .ok (.ireturn, 1) := by decide +kernel
theorem dX6_of_0 : decode cX6_of 0 = .ok (.aload_n 0, 1) := by decide +kernel
theorem dX6_of_1 : decode cX6_of 1 = .ok (.bipush 31, 2) := by decide +kernel
theorem dX6_of_3 : decode cX6_of 3 = .ok (.bipush 6, 2) := by decide +kernel
theorem dX6_of_5 : decode cX6_of 5 = .ok (.iload_n 1, 1) := by decide +kernel
theorem dX6_of_6 : decode cX6_of 6 = .ok (.imul, 1) := by decide +kernel
theorem dX6_of_7 : decode cX6_of 7 = .ok (.iadd, 1) := by decide +kernel
theorem dX6_of_8 : decode cX6_of 8 = .ok (.iload_n 2, 1) := by decide +kernel
theorem dX6_of_9 : decode cX6_of 9 = .ok (.iadd, 1) := by decide +kernel
theorem dX6_of_10 : decode cX6_of 10 = .ok (.iaload, 1) := by decide +kernel
theorem dX6_of_11 : decode cX6_of 11 = .ok (.ireturn, 1) := by decide +kernel
theorem dX6_lay_0 : decode cX6_lay 0 = .ok (.aload_n 0, 1) := by decide +kernel
theorem dX6_lay_1 : decode cX6_lay 1 = .ok (.bipush 31, 2) := by decide +kernel
theorem dX6_lay_3 : decode cX6_lay 3 = .ok (.bipush 6, 2) := by decide +kernel
theorem dX6_lay_5 : decode cX6_lay 5 = .ok (.iload_n 1, 1) := by decide +kernel
theorem dX6_lay_6 : decode cX6_lay 6 = .ok (.imul, 1) := by decide +kernel
theorem dX6_lay_7 : decode cX6_lay 7 = .ok (.iadd, 1) := by decide +kernel
theorem dX6_lay_8 : decode cX6_lay 8 = .ok (.iload_n 2, 1) := by decide +kernel
theorem dX6_lay_9 : decode cX6_lay 9 = .ok (.iadd, 1) := by decide +kernel
theorem dX6_lay_10 : decode cX6_lay 10 = .ok (.iload_n 3, 1) := by decide +kernel
theorem dX6_lay_11 : decode cX6_lay 11 = .ok (.iastore, 1) := by decide +kernel
theorem dX6_lay_12 : decode cX6_lay 12 = .ok (.return_, 1) := by decide +kernel
theorem dX6_end_0 : decode cX6_end 0 = .ok (.aload_n 0, 1) := by decide +kernel
theorem dX6_end_1 : decode cX6_end 1 = .ok (.iload_n 1, 1) := by decide +kernel
theorem dX6_end_2 : decode cX6_end 2 = .ok (.iconst 2, 1) := by decide +kernel
theorem dX6_end_3 : decode cX6_end 3 = .ok (.invokestatic 55, 3) := by decide +kernel
theorem dX6_end_6 : decode cX6_end 6 = .ok (.aload_n 0, 1) := by decide +kernel
theorem dX6_end_7 : decode cX6_end 7 = .ok (.iload_n 1, 1) := by decide +kernel
theorem dX6_end_8 : decode cX6_end 8 = .ok (.iconst 3, 1) := by decide +kernel
theorem dX6_end_9 : decode cX6_end 9 = .ok (.invokestatic 55, 3) := by decide +kernel
theorem dX6_end_12 : decode cX6_end 12 = .ok (.iadd, 1) := by decide +kernel
theorem dX6_end_13 : decode cX6_end 13 = .ok (.ireturn, 1) := by decide +kernel
theorem dX6_isAhead_0 : decode cX6_isAhead 0 = .ok (.aload_n 0, 1) := by decide +kernel
theorem dX6_isAhead_1 : decode cX6_isAhead 1 = .ok (.iload_n 1, 1) := by decide +kernel
theorem dX6_isAhead_2 : decode cX6_isAhead 2 = .ok (.iconst 1, 1) := by decide +kernel
theorem dX6_isAhead_3 : decode cX6_isAhead 3 = .ok (.invokestatic 55, 3) := by decide +kernel
theorem dX6_isAhead_6 : decode cX6_isAhead 6 = .ok (.iload_n 2, 1) := by decide +kernel
theorem dX6_isAhead_7 : decode cX6_isAhead 7 = .ok (.if_icmp .eq 19, 3) := by decide +kernel
theorem dX6_isAhead_10 : decode cX6_isAhead 10 = .ok (.aload_n 0, 1) := by decide +kernel
theorem dX6_isAhead_11 : decode cX6_isAhead 11 = .ok (.iload_n 1, 1) := by decide +kernel
theorem dX6_isAhead_12 : decode cX6_isAhead 12 = .ok (.iconst 1, 1) := by decide +kernel
theorem dX6_isAhead_13 : decode cX6_isAhead 13 = .ok (.invokestatic 55, 3) := by decide +kernel
theorem dX6_isAhead_16 : decode cX6_isAhead 16 = .ok (.iload_n 2, 1) := by decide +kernel
theorem dX6_isAhead_17 : decode cX6_isAhead 17 = .ok (.if_icmp .ge 7, 3) := by decide +kernel
theorem dX6_isAhead_20 : decode cX6_isAhead 20 = .ok (.iconst 1, 1) := by decide +kernel
theorem dX6_isAhead_21 : decode cX6_isAhead 21 = .ok (.goto 4, 3) := by decide +kernel
theorem dX6_isAhead_24 : decode cX6_isAhead 24 = .ok (.iconst 0, 1) := by decide +kernel
theorem dX6_isAhead_25 : decode cX6_isAhead 25 = .ok (.ireturn, 1) := by decide +kernel
theorem dX6_isAhead_26 : decode cX6_isAhead 26 = .ok (.aload_n 0, 1) := by decide +kernel
theorem dX6_isAhead_27 : decode cX6_isAhead 27 = .ok (.iload_n 1, 1) := by decide +kernel
theorem dX6_isAhead_28 : decode cX6_isAhead 28 = .ok (.iconst 2, 1) := by decide +kernel
theorem dX6_isAhead_29 : decode cX6_isAhead 29 = .ok (.invokestatic 55, 3) := by decide +kernel
theorem dX6_isAhead_32 : decode cX6_isAhead 32 = .ok (.iload_n 3, 1) := by decide +kernel
theorem dX6_isAhead_33 : decode cX6_isAhead 33 = .ok (.if_icmp .eq 21, 3) := by decide +kernel
theorem dX6_isAhead_36 : decode cX6_isAhead 36 = .ok (.aload_n 0, 1) := by decide +kernel
theorem dX6_isAhead_37 : decode cX6_isAhead 37 = .ok (.iload_n 1, 1) := by decide +kernel
theorem dX6_isAhead_38 : decode cX6_isAhead 38 = .ok (.iconst 2, 1) := by decide +kernel
theorem dX6_isAhead_39 : decode cX6_isAhead 39 = .ok (.invokestatic 55, 3) := by decide +kernel
theorem dX6_isAhead_42 : decode cX6_isAhead 42 = .ok (.iload_n 3, 1) := by decide +kernel
theorem dX6_isAhead_43 : decode cX6_isAhead 43 = .ok (.if_icmp .ge 7, 3) := by decide +kernel
theorem dX6_isAhead_46 : decode cX6_isAhead 46 = .ok (.iconst 1, 1) := by decide +kernel
theorem dX6_isAhead_47 : decode cX6_isAhead 47 = .ok (.goto 23, 3) := by decide +kernel
theorem dX6_isAhead_50 : decode cX6_isAhead 50 = .ok (.iconst 0, 1) := by decide +kernel
theorem dX6_isAhead_51 : decode cX6_isAhead 51 = .ok (.goto 19, 3) := by decide +kernel
theorem dX6_isAhead_54 : decode cX6_isAhead 54 = .ok (.aload_n 0, 1) := by decide +kernel
theorem dX6_isAhead_55 : decode cX6_isAhead 55 = .ok (.iload_n 1, 1) := by decide +kernel
theorem dX6_isAhead_56 : decode cX6_isAhead 56 = .ok (.iconst 0, 1) := by decide +kernel
theorem dX6_isAhead_57 : decode cX6_isAhead 57 = .ok (.invokestatic 55, 3) := by decide +kernel
theorem dX6_isAhead_60 : decode cX6_isAhead 60 = .ok (.iload 4, 2) := by decide +kernel
theorem dX6_isAhead_62 : decode cX6_isAhead 62 = .ok (.if_icmp .ge 7, 3) := by decide +kernel
theorem dX6_isAhead_65 : decode cX6_isAhead 65 = .ok (.iconst 1, 1) := by decide +kernel
theorem dX6_isAhead_66 : decode cX6_isAhead 66 = .ok (.goto 4, 3) := by decide +kernel
theorem dX6_isAhead_69 : decode cX6_isAhead 69 = .ok (.iconst 0, 1) := by decide +kernel
theorem dX6_isAhead_70 : decode cX6_isAhead 70 = .ok (.ireturn, 1) := by decide +kernel
theorem dX6_insert_0 : decode cX6_insert 0 = .ok (.aload_n 0, 1) := by decide +kernel
theorem dX6_insert_1 : decode cX6_insert 1 = .ok (.iconst 1, 1) := by decide +kernel
theorem dX6_insert_2 : decode cX6_insert 2 = .ok (.iaload, 1) := by decide +kernel
theorem dX6_insert_3 : decode cX6_insert 3 = .ok (.istore 7, 2) := by decide +kernel
theorem dX6_insert_5 : decode cX6_insert 5 = .ok (.iload 7, 2) := by decide +kernel
theorem dX6_insert_7 : decode cX6_insert 7 = .ok (.ifCond .le 57, 3) := by decide +kernel
theorem dX6_insert_10 : decode cX6_insert 10 = .ok (.aload_n 0, 1) := by decide +kernel
theorem dX6_insert_11 : decode cX6_insert 11 = .ok (.iload 7, 2) := by decide +kernel
theorem dX6_insert_13 : decode cX6_insert 13 = .ok (.iconst 1, 1) := by decide +kernel
theorem dX6_insert_14 : decode cX6_insert 14 = .ok (.isub, 1) := by decide +kernel
theorem dX6_insert_15 : decode cX6_insert 15 = .ok (.iload_n 2, 1) := by decide +kernel
theorem dX6_insert_16 : decode cX6_insert 16 = .ok (.iload_n 3, 1) := by decide +kernel
theorem dX6_insert_17 : decode cX6_insert 17 = .ok (.iload_n 1, 1) := by decide +kernel
theorem dX6_insert_18 : decode cX6_insert 18 = .ok (.invokestatic 59, 3) := by decide +kernel
theorem dX6_insert_21 : decode cX6_insert 21 = .ok (.ifCond .ne 43, 3) := by decide +kernel
theorem dX6_insert_24 : decode cX6_insert 24 = .ok (.iconst 0, 1) := by decide +kernel
theorem dX6_insert_25 : decode cX6_insert 25 = .ok (.istore 8, 2) := by decide +kernel
theorem dX6_insert_27 : decode cX6_insert 27 = .ok (.iload 8, 2) := by decide +kernel
theorem dX6_insert_29 : decode cX6_insert 29 = .ok (.bipush 6, 2) := by decide +kernel
theorem dX6_insert_31 : decode cX6_insert 31 = .ok (.if_icmp .ge 27, 3) := by decide +kernel
theorem dX6_insert_34 : decode cX6_insert 34 = .ok (.aload_n 0, 1) := by decide +kernel
theorem dX6_insert_35 : decode cX6_insert 35 = .ok (.iload 7, 2) := by decide +kernel
theorem dX6_insert_37 : decode cX6_insert 37 = .ok (.iload 8, 2) := by decide +kernel
theorem dX6_insert_39 : decode cX6_insert 39 = .ok (.aload_n 0, 1) := by decide +kernel
theorem dX6_insert_40 : decode cX6_insert 40 = .ok (.iload 7, 2) := by decide +kernel
theorem dX6_insert_42 : decode cX6_insert 42 = .ok (.iconst 1, 1) := by decide +kernel
theorem dX6_insert_43 : decode cX6_insert 43 = .ok (.isub, 1) := by decide +kernel
theorem dX6_insert_44 : decode cX6_insert 44 = .ok (.iload 8, 2) := by decide +kernel
theorem dX6_insert_46 : decode cX6_insert 46 = .ok (.invokestatic 55, 3) := by decide +kernel
theorem dX6_insert_49 : decode cX6_insert 49 = .ok (.invokestatic 63, 3) := by decide +kernel
theorem dX6_insert_52 : decode cX6_insert 52 = .ok (.iinc 8 1, 3) := by decide +kernel
theorem dX6_insert_55 : decode cX6_insert 55 = .ok (.goto (-28), 3) := by decide +kernel
theorem dX6_insert_58 : decode cX6_insert 58 = .ok (.iinc 7 (-1), 3) := by decide +kernel
theorem dX6_insert_61 : decode cX6_insert 61 = .ok (.goto (-56), 3) := by decide +kernel
theorem dX6_insert_64 : decode cX6_insert 64 = .ok (.aload_n 0, 1) := by decide +kernel
theorem dX6_insert_65 : decode cX6_insert 65 = .ok (.iload 7, 2) := by decide +kernel
theorem dX6_insert_67 : decode cX6_insert 67 = .ok (.iconst 0, 1) := by decide +kernel
theorem dX6_insert_68 : decode cX6_insert 68 = .ok (.iload_n 1, 1) := by decide +kernel
theorem dX6_insert_69 : decode cX6_insert 69 = .ok (.invokestatic 63, 3) := by decide +kernel
theorem dX6_insert_72 : decode cX6_insert 72 = .ok (.aload_n 0, 1) := by decide +kernel
theorem dX6_insert_73 : decode cX6_insert 73 = .ok (.iload 7, 2) := by decide +kernel
theorem dX6_insert_75 : decode cX6_insert 75 = .ok (.iconst 1, 1) := by decide +kernel
theorem dX6_insert_76 : decode cX6_insert 76 = .ok (.iload_n 2, 1) := by decide +kernel
theorem dX6_insert_77 : decode cX6_insert 77 = .ok (.invokestatic 63, 3) := by decide +kernel
theorem dX6_insert_80 : decode cX6_insert 80 = .ok (.aload_n 0, 1) := by decide +kernel
theorem dX6_insert_81 : decode cX6_insert 81 = .ok (.iload 7, 2) := by decide +kernel
theorem dX6_insert_83 : decode cX6_insert 83 = .ok (.iconst 2, 1) := by decide +kernel
theorem dX6_insert_84 : decode cX6_insert 84 = .ok (.iload_n 3, 1) := by decide +kernel
theorem dX6_insert_85 : decode cX6_insert 85 = .ok (.invokestatic 63, 3) := by decide +kernel
theorem dX6_insert_88 : decode cX6_insert 88 = .ok (.aload_n 0, 1) := by decide +kernel
theorem dX6_insert_89 : decode cX6_insert 89 = .ok (.iload 7, 2) := by decide +kernel
theorem dX6_insert_91 : decode cX6_insert 91 = .ok (.iconst 3, 1) := by decide +kernel
theorem dX6_insert_92 : decode cX6_insert 92 = .ok (.iload 4, 2) := by decide +kernel
theorem dX6_insert_94 : decode cX6_insert 94 = .ok (.invokestatic 63, 3) := by decide +kernel
theorem dX6_insert_97 : decode cX6_insert 97 = .ok (.aload_n 0, 1) := by decide +kernel
theorem dX6_insert_98 : decode cX6_insert 98 = .ok (.iload 7, 2) := by decide +kernel
theorem dX6_insert_100 : decode cX6_insert 100 = .ok (.iconst 4, 1) := by decide +kernel
theorem dX6_insert_101 : decode cX6_insert 101 = .ok (.iload 5, 2) := by decide +kernel
theorem dX6_insert_103 : decode cX6_insert 103 = .ok (.invokestatic 63, 3) := by decide +kernel
theorem dX6_insert_106 : decode cX6_insert 106 = .ok (.aload_n 0, 1) := by decide +kernel
theorem dX6_insert_107 : decode cX6_insert 107 = .ok (.iload 7, 2) := by decide +kernel
theorem dX6_insert_109 : decode cX6_insert 109 = .ok (.iconst 5, 1) := by decide +kernel
theorem dX6_insert_110 : decode cX6_insert 110 = .ok (.iload 6, 2) := by decide +kernel
theorem dX6_insert_112 : decode cX6_insert 112 = .ok (.invokestatic 63, 3) := by decide +kernel
theorem dX6_insert_115 : decode cX6_insert 115 = .ok (.aload_n 0, 1) := by decide +kernel
theorem dX6_insert_116 : decode cX6_insert 116 = .ok (.iconst 1, 1) := by decide +kernel
theorem dX6_insert_117 : decode cX6_insert 117 = .ok (.dup2, 1) := by decide +kernel
theorem dX6_insert_118 : decode cX6_insert 118 = .ok (.iaload, 1) := by decide +kernel
theorem dX6_insert_119 : decode cX6_insert 119 = .ok (.iconst 1, 1) := by decide +kernel
theorem dX6_insert_120 : decode cX6_insert 120 = .ok (.iadd, 1) := by decide +kernel
theorem dX6_insert_121 : decode cX6_insert 121 = .ok (.iastore, 1) := by decide +kernel
theorem dX6_insert_122 : decode cX6_insert 122 = .ok (.iload 7, 2) := by decide +kernel
theorem dX6_insert_124 : decode cX6_insert 124 = .ok (.ireturn, 1) := by decide +kernel
theorem dX6_removeOn_0 : decode cX6_removeOn 0 = .ok (.aload_n 0, 1) := by decide +kernel
theorem dX6_removeOn_1 : decode cX6_removeOn 1 = .ok (.iconst 1, 1) := by decide +kernel
theorem dX6_removeOn_2 : decode cX6_removeOn 2 = .ok (.dup2, 1) := by decide +kernel
theorem dX6_removeOn_3 : decode cX6_removeOn 3 = .ok (.iaload, 1) := by decide +kernel
theorem dX6_removeOn_4 : decode cX6_removeOn 4 = .ok (.iconst 1, 1) := by decide +kernel
theorem dX6_removeOn_5 : decode cX6_removeOn 5 = .ok (.isub, 1) := by decide +kernel
theorem dX6_removeOn_6 : decode cX6_removeOn 6 = .ok (.iastore, 1) := by decide +kernel
theorem dX6_removeOn_7 : decode cX6_removeOn 7 = .ok (.bipush 6, 2) := by decide +kernel
theorem dX6_removeOn_9 : decode cX6_removeOn 9 = .ok (.iload_n 1, 1) := by decide +kernel
theorem dX6_removeOn_10 : decode cX6_removeOn 10 = .ok (.imul, 1) := by decide +kernel
theorem dX6_removeOn_11 : decode cX6_removeOn 11 = .ok (.istore_n 2, 1) := by decide +kernel
theorem dX6_removeOn_12 : decode cX6_removeOn 12 = .ok (.iload_n 2, 1) := by decide +kernel
theorem dX6_removeOn_13 : decode cX6_removeOn 13 = .ok (.bipush 6, 2) := by decide +kernel
theorem dX6_removeOn_15 : decode cX6_removeOn 15 = .ok (.aload_n 0, 1) := by decide +kernel
theorem dX6_removeOn_16 : decode cX6_removeOn 16 = .ok (.iconst 1, 1) := by decide +kernel
theorem dX6_removeOn_17 : decode cX6_removeOn 17 = .ok (.iaload, 1) := by decide +kernel
theorem dX6_removeOn_18 : decode cX6_removeOn 18 = .ok (.imul, 1) := by decide +kernel
theorem dX6_removeOn_19 : decode cX6_removeOn 19 = .ok (.if_icmp .ge 24, 3) := by decide +kernel
theorem dX6_removeOn_22 : decode cX6_removeOn 22 = .ok (.aload_n 0, 1) := by decide +kernel
theorem dX6_removeOn_23 : decode cX6_removeOn 23 = .ok (.bipush 31, 2) := by decide +kernel
theorem dX6_removeOn_25 : decode cX6_removeOn 25 = .ok (.iload_n 2, 1) := by decide +kernel
theorem dX6_removeOn_26 : decode cX6_removeOn 26 = .ok (.iadd, 1) := by decide +kernel
theorem dX6_removeOn_27 : decode cX6_removeOn 27 = .ok (.aload_n 0, 1) := by decide +kernel
theorem dX6_removeOn_28 : decode cX6_removeOn 28 = .ok (.bipush 31, 2) := by decide +kernel
theorem dX6_removeOn_30 : decode cX6_removeOn 30 = .ok (.iload_n 2, 1) := by decide +kernel
theorem dX6_removeOn_31 : decode cX6_removeOn 31 = .ok (.iadd, 1) := by decide +kernel
theorem dX6_removeOn_32 : decode cX6_removeOn 32 = .ok (.bipush 6, 2) := by decide +kernel
theorem dX6_removeOn_34 : decode cX6_removeOn 34 = .ok (.iadd, 1) := by decide +kernel
theorem dX6_removeOn_35 : decode cX6_removeOn 35 = .ok (.iaload, 1) := by decide +kernel
theorem dX6_removeOn_36 : decode cX6_removeOn 36 = .ok (.iastore, 1) := by decide +kernel
theorem dX6_removeOn_37 : decode cX6_removeOn 37 = .ok (.iinc 2 1, 3) := by decide +kernel
theorem dX6_removeOn_40 : decode cX6_removeOn 40 = .ok (.goto (-28), 3) := by decide +kernel
theorem dX6_removeOn_43 : decode cX6_removeOn 43 = .ok (.aload_n 0, 1) := by decide +kernel
theorem dX6_removeOn_44 : decode cX6_removeOn 44 = .ok (.iconst 1, 1) := by decide +kernel
theorem dX6_removeOn_45 : decode cX6_removeOn 45 = .ok (.iaload, 1) := by decide +kernel
theorem dX6_removeOn_46 : decode cX6_removeOn 46 = .ok (.ireturn, 1) := by decide +kernel
theorem dX6_isFree_0 : decode cX6_isFree 0 = .ok (.iconst 0, 1) := by decide +kernel
theorem dX6_isFree_1 : decode cX6_isFree 1 = .ok (.istore 5, 2) := by decide +kernel
theorem dX6_isFree_3 : decode cX6_isFree 3 = .ok (.iload 5, 2) := by decide +kernel
theorem dX6_isFree_5 : decode cX6_isFree 5 = .ok (.aload_n 0, 1) := by decide +kernel
theorem dX6_isFree_6 : decode cX6_isFree 6 = .ok (.iconst 1, 1) := by decide +kernel
theorem dX6_isFree_7 : decode cX6_isFree 7 = .ok (.iaload, 1) := by decide +kernel
theorem dX6_isFree_8 : decode cX6_isFree 8 = .ok (.if_icmp .ge 57, 3) := by decide +kernel
theorem dX6_isFree_11 : decode cX6_isFree 11 = .ok (.aload_n 0, 1) := by decide +kernel
theorem dX6_isFree_12 : decode cX6_isFree 12 = .ok (.iload 5, 2) := by decide +kernel
theorem dX6_isFree_14 : decode cX6_isFree 14 = .ok (.iconst 0, 1) := by decide +kernel
theorem dX6_isFree_15 : decode cX6_isFree 15 = .ok (.invokestatic 55, 3) := by decide +kernel
theorem dX6_isFree_18 : decode cX6_isFree 18 = .ok (.iload_n 1, 1) := by decide +kernel
theorem dX6_isFree_19 : decode cX6_isFree 19 = .ok (.if_icmp .ne 40, 3) := by decide +kernel
theorem dX6_isFree_22 : decode cX6_isFree 22 = .ok (.aload_n 0, 1) := by decide +kernel
theorem dX6_isFree_23 : decode cX6_isFree 23 = .ok (.iload 5, 2) := by decide +kernel
theorem dX6_isFree_25 : decode cX6_isFree 25 = .ok (.iconst 1, 1) := by decide +kernel
theorem dX6_isFree_26 : decode cX6_isFree 26 = .ok (.invokestatic 55, 3) := by decide +kernel
theorem dX6_isFree_29 : decode cX6_isFree 29 = .ok (.iload_n 2, 1) := by decide +kernel
theorem dX6_isFree_30 : decode cX6_isFree 30 = .ok (.if_icmp .ne 29, 3) := by decide +kernel
theorem dX6_isFree_33 : decode cX6_isFree 33 = .ok (.iload_n 3, 1) := by decide +kernel
theorem dX6_isFree_34 : decode cX6_isFree 34 = .ok (.aload_n 0, 1) := by decide +kernel
theorem dX6_isFree_35 : decode cX6_isFree 35 = .ok (.iload 5, 2) := by decide +kernel
theorem dX6_isFree_37 : decode cX6_isFree 37 = .ok (.invokestatic 67, 3) := by decide +kernel
theorem dX6_isFree_40 : decode cX6_isFree 40 = .ok (.if_icmp .ge 19, 3) := by decide +kernel
theorem dX6_isFree_43 : decode cX6_isFree 43 = .ok (.aload_n 0, 1) := by decide +kernel
theorem dX6_isFree_44 : decode cX6_isFree 44 = .ok (.iload 5, 2) := by decide +kernel
theorem dX6_isFree_46 : decode cX6_isFree 46 = .ok (.iconst 2, 1) := by decide +kernel
theorem dX6_isFree_47 : decode cX6_isFree 47 = .ok (.invokestatic 55, 3) := by decide +kernel
theorem dX6_isFree_50 : decode cX6_isFree 50 = .ok (.iload_n 3, 1) := by decide +kernel
theorem dX6_isFree_51 : decode cX6_isFree 51 = .ok (.iload 4, 2) := by decide +kernel
theorem dX6_isFree_53 : decode cX6_isFree 53 = .ok (.iadd, 1) := by decide +kernel
theorem dX6_isFree_54 : decode cX6_isFree 54 = .ok (.if_icmp .ge 5, 3) := by decide +kernel
theorem dX6_isFree_57 : decode cX6_isFree 57 = .ok (.iconst 0, 1) := by decide +kernel
theorem dX6_isFree_58 : decode cX6_isFree 58 = .ok (.ireturn, 1) := by decide +kernel
theorem dX6_isFree_59 : decode cX6_isFree 59 = .ok (.iinc 5 1, 3) := by decide +kernel
theorem dX6_isFree_62 : decode cX6_isFree 62 = .ok (.goto (-59), 3) := by decide +kernel
theorem dX6_isFree_65 : decode cX6_isFree 65 = .ok (.iconst 1, 1) := by decide +kernel
theorem dX6_isFree_66 : decode cX6_isFree 66 = .ok (.ireturn, 1) := by decide +kernel
theorem dX6_isTime_0 : decode cX6_isTime 0 = .ok (.iload_n 1, 1) := by decide +kernel
theorem dX6_isTime_1 : decode cX6_isTime 1 = .ok (.i2l, 1) := by decide +kernel
theorem dX6_isTime_2 : decode cX6_isTime 2 = .ok (.aload_n 0, 1) := by decide +kernel
theorem dX6_isTime_3 : decode cX6_isTime 3 = .ok (.iconst 3, 1) := by decide +kernel
theorem dX6_isTime_4 : decode cX6_isTime 4 = .ok (.iaload, 1) := by decide +kernel
theorem dX6_isTime_5 : decode cX6_isTime 5 = .ok (.i2l, 1) := by decide +kernel
theorem dX6_isTime_6 : decode cX6_isTime 6 = .ok (.ldc2_w 71, 3) := by decide +kernel
theorem dX6_isTime_9 : decode cX6_isTime 9 = .ok (.invokestatic 49, 3) := by decide +kernel
theorem dX6_isTime_12 : decode cX6_isTime 12 = .ok (.ifCond .eq 33, 3) := by decide +kernel
theorem dX6_isTime_15 : decode cX6_isTime 15 = .ok (.iload_n 2, 1) := by decide +kernel
theorem dX6_isTime_16 : decode cX6_isTime 16 = .ok (.i2l, 1) := by decide +kernel
theorem dX6_isTime_17 : decode cX6_isTime 17 = .ok (.lconst 0, 1) := by decide +kernel
theorem dX6_isTime_18 : decode cX6_isTime 18 = .ok (.ldc2_w 73, 3) := by decide +kernel
theorem dX6_isTime_21 : decode cX6_isTime 21 = .ok (.invokestatic 49, 3) := by decide +kernel
theorem dX6_isTime_24 : decode cX6_isTime 24 = .ok (.ifCond .eq 21, 3) := by decide +kernel
theorem dX6_isTime_27 : decode cX6_isTime 27 = .ok (.iload_n 3, 1) := by decide +kernel
theorem dX6_isTime_28 : decode cX6_isTime 28 = .ok (.i2l, 1) := by decide +kernel
theorem dX6_isTime_29 : decode cX6_isTime 29 = .ok (.lconst 1, 1) := by decide +kernel
theorem dX6_isTime_30 : decode cX6_isTime 30 = .ok (.bipush 16, 2) := by decide +kernel
theorem dX6_isTime_32 : decode cX6_isTime 32 = .ok (.iload_n 2, 1) := by decide +kernel
theorem dX6_isTime_33 : decode cX6_isTime 33 = .ok (.isub, 1) := by decide +kernel
theorem dX6_isTime_34 : decode cX6_isTime 34 = .ok (.i2l, 1) := by decide +kernel
theorem dX6_isTime_35 : decode cX6_isTime 35 = .ok (.invokestatic 49, 3) := by decide +kernel
theorem dX6_isTime_38 : decode cX6_isTime 38 = .ok (.ifCond .eq 7, 3) := by decide +kernel
theorem dX6_isTime_41 : decode cX6_isTime 41 = .ok (.iconst 1, 1) := by decide +kernel
theorem dX6_isTime_42 : decode cX6_isTime 42 = .ok (.goto 4, 3) := by decide +kernel
theorem dX6_isTime_45 : decode cX6_isTime 45 = .ok (.iconst 0, 1) := by decide +kernel
theorem dX6_isTime_46 : decode cX6_isTime 46 = .ok (.ireturn, 1) := by decide +kernel
theorem dX6_isNew_0 : decode cX6_isNew 0 = .ok (.iload_n 1, 1) := by decide +kernel
theorem dX6_isNew_1 : decode cX6_isNew 1 = .ok (.invokestatic 75, 3) := by decide +kernel
theorem dX6_isNew_4 : decode cX6_isNew 4 = .ok (.ifCond .eq 51, 3) := by decide +kernel
theorem dX6_isNew_7 : decode cX6_isNew 7 = .ok (.aload_n 0, 1) := by decide +kernel
theorem dX6_isNew_8 : decode cX6_isNew 8 = .ok (.iload_n 2, 1) := by decide +kernel
theorem dX6_isNew_9 : decode cX6_isNew 9 = .ok (.iload_n 3, 1) := by decide +kernel
theorem dX6_isNew_10 : decode cX6_isNew 10 = .ok (.iload 4, 2) := by decide +kernel
theorem dX6_isNew_12 : decode cX6_isNew 12 = .ok (.invokestatic 79, 3) := by decide +kernel
theorem dX6_isNew_15 : decode cX6_isNew 15 = .ok (.ifCond .eq 40, 3) := by decide +kernel
theorem dX6_isNew_18 : decode cX6_isNew 18 = .ok (.iload 5, 2) := by decide +kernel
theorem dX6_isNew_20 : decode cX6_isNew 20 = .ok (.i2l, 1) := by decide +kernel
theorem dX6_isNew_21 : decode cX6_isNew 21 = .ok (.lconst 1, 1) := by decide +kernel
theorem dX6_isNew_22 : decode cX6_isNew 22 = .ok (.ldc2_w 83, 3) := by decide +kernel
theorem dX6_isNew_25 : decode cX6_isNew 25 = .ok (.invokestatic 49, 3) := by decide +kernel
theorem dX6_isNew_28 : decode cX6_isNew 28 = .ok (.ifCond .eq 27, 3) := by decide +kernel
theorem dX6_isNew_31 : decode cX6_isNew 31 = .ok (.aload_n 0, 1) := by decide +kernel
theorem dX6_isNew_32 : decode cX6_isNew 32 = .ok (.iconst 1, 1) := by decide +kernel
theorem dX6_isNew_33 : decode cX6_isNew 33 = .ok (.iaload, 1) := by decide +kernel
theorem dX6_isNew_34 : decode cX6_isNew 34 = .ok (.bipush 16, 2) := by decide +kernel
theorem dX6_isNew_36 : decode cX6_isNew 36 = .ok (.if_icmp .ge 19, 3) := by decide +kernel
theorem dX6_isNew_39 : decode cX6_isNew 39 = .ok (.aload_n 0, 1) := by decide +kernel
theorem dX6_isNew_40 : decode cX6_isNew 40 = .ok (.iload_n 1, 1) := by decide +kernel
theorem dX6_isNew_41 : decode cX6_isNew 41 = .ok (.iload_n 2, 1) := by decide +kernel
theorem dX6_isNew_42 : decode cX6_isNew 42 = .ok (.iload_n 3, 1) := by decide +kernel
theorem dX6_isNew_43 : decode cX6_isNew 43 = .ok (.iload 4, 2) := by decide +kernel
theorem dX6_isNew_45 : decode cX6_isNew 45 = .ok (.invokestatic 85, 3) := by decide +kernel
theorem dX6_isNew_48 : decode cX6_isNew 48 = .ok (.ifCond .eq 7, 3) := by decide +kernel
theorem dX6_isNew_51 : decode cX6_isNew 51 = .ok (.iconst 1, 1) := by decide +kernel
theorem dX6_isNew_52 : decode cX6_isNew 52 = .ok (.goto 4, 3) := by decide +kernel
theorem dX6_isNew_55 : decode cX6_isNew 55 = .ok (.iconst 0, 1) := by decide +kernel
theorem dX6_isNew_56 : decode cX6_isNew 56 = .ok (.ireturn, 1) := by decide +kernel
theorem dX6_slots_0 : decode cX6_slots 0 = .ok (.iconst 0, 1) := by decide +kernel
theorem dX6_slots_1 : decode cX6_slots 1 = .ok (.istore 4, 2) := by decide +kernel
theorem dX6_slots_3 : decode cX6_slots 3 = .ok (.iconst 0, 1) := by decide +kernel
theorem dX6_slots_4 : decode cX6_slots 4 = .ok (.istore 5, 2) := by decide +kernel
theorem dX6_slots_6 : decode cX6_slots 6 = .ok (.iload 5, 2) := by decide +kernel
theorem dX6_slots_8 : decode cX6_slots 8 = .ok (.aload_n 0, 1) := by decide +kernel
theorem dX6_slots_9 : decode cX6_slots 9 = .ok (.iconst 1, 1) := by decide +kernel
theorem dX6_slots_10 : decode cX6_slots 10 = .ok (.iaload, 1) := by decide +kernel
theorem dX6_slots_11 : decode cX6_slots 11 = .ok (.if_icmp .ge 48, 3) := by decide +kernel
theorem dX6_slots_14 : decode cX6_slots 14 = .ok (.iload 5, 2) := by decide +kernel
theorem dX6_slots_16 : decode cX6_slots 16 = .ok (.iload_n 3, 1) := by decide +kernel
theorem dX6_slots_17 : decode cX6_slots 17 = .ok (.if_icmp .eq 36, 3) := by decide +kernel
theorem dX6_slots_20 : decode cX6_slots 20 = .ok (.aload_n 0, 1) := by decide +kernel
theorem dX6_slots_21 : decode cX6_slots 21 = .ok (.iload 5, 2) := by decide +kernel
theorem dX6_slots_23 : decode cX6_slots 23 = .ok (.iconst 5, 1) := by decide +kernel
theorem dX6_slots_24 : decode cX6_slots 24 = .ok (.invokestatic 55, 3) := by decide +kernel
theorem dX6_slots_27 : decode cX6_slots 27 = .ok (.iload_n 1, 1) := by decide +kernel
theorem dX6_slots_28 : decode cX6_slots 28 = .ok (.if_icmp .ne 25, 3) := by decide +kernel
theorem dX6_slots_31 : decode cX6_slots 31 = .ok (.aload_n 0, 1) := by decide +kernel
theorem dX6_slots_32 : decode cX6_slots 32 = .ok (.iload 5, 2) := by decide +kernel
theorem dX6_slots_34 : decode cX6_slots 34 = .ok (.iconst 1, 1) := by decide +kernel
theorem dX6_slots_35 : decode cX6_slots 35 = .ok (.invokestatic 55, 3) := by decide +kernel
theorem dX6_slots_38 : decode cX6_slots 38 = .ok (.iload_n 2, 1) := by decide +kernel
theorem dX6_slots_39 : decode cX6_slots 39 = .ok (.if_icmp .ne 14, 3) := by decide +kernel
theorem dX6_slots_42 : decode cX6_slots 42 = .ok (.iload 4, 2) := by decide +kernel
theorem dX6_slots_44 : decode cX6_slots 44 = .ok (.aload_n 0, 1) := by decide +kernel
theorem dX6_slots_45 : decode cX6_slots 45 = .ok (.iload 5, 2) := by decide +kernel
theorem dX6_slots_47 : decode cX6_slots 47 = .ok (.invokestatic 88, 3) := by decide +kernel
theorem dX6_slots_50 : decode cX6_slots 50 = .ok (.ior, 1) := by decide +kernel
theorem dX6_slots_51 : decode cX6_slots 51 = .ok (.istore 4, 2) := by decide +kernel
theorem dX6_slots_53 : decode cX6_slots 53 = .ok (.iinc 5 1, 3) := by decide +kernel
theorem dX6_slots_56 : decode cX6_slots 56 = .ok (.goto (-50), 3) := by decide +kernel
theorem dX6_slots_59 : decode cX6_slots 59 = .ok (.iload 4, 2) := by decide +kernel
theorem dX6_slots_61 : decode cX6_slots 61 = .ok (.ireturn, 1) := by decide +kernel
theorem dX6_span_0 : decode cX6_span 0 = .ok (.iconst 1, 1) := by decide +kernel
theorem dX6_span_1 : decode cX6_span 1 = .ok (.aload_n 0, 1) := by decide +kernel
theorem dX6_span_2 : decode cX6_span 2 = .ok (.iload_n 1, 1) := by decide +kernel
theorem dX6_span_3 : decode cX6_span 3 = .ok (.invokestatic 67, 3) := by decide +kernel
theorem dX6_span_6 : decode cX6_span 6 = .ok (.ishl, 1) := by decide +kernel
theorem dX6_span_7 : decode cX6_span 7 = .ok (.iconst 1, 1) := by decide +kernel
theorem dX6_span_8 : decode cX6_span 8 = .ok (.aload_n 0, 1) := by decide +kernel
theorem dX6_span_9 : decode cX6_span 9 = .ok (.iload_n 1, 1) := by decide +kernel
theorem dX6_span_10 : decode cX6_span 10 = .ok (.iconst 2, 1) := by decide +kernel
theorem dX6_span_11 : decode cX6_span 11 = .ok (.invokestatic 55, 3) := by decide +kernel
theorem dX6_span_14 : decode cX6_span 14 = .ok (.ishl, 1) := by decide +kernel
theorem dX6_span_15 : decode cX6_span 15 = .ok (.isub, 1) := by decide +kernel
theorem dX6_span_16 : decode cX6_span 16 = .ok (.ireturn, 1) := by decide +kernel
theorem dX6_count_0 : decode cX6_count 0 = .ok (.iconst 0, 1) := by decide +kernel
theorem dX6_count_1 : decode cX6_count 1 = .ok (.istore_n 1, 1) := by decide +kernel
theorem dX6_count_2 : decode cX6_count 2 = .ok (.iconst 0, 1) := by decide +kernel
theorem dX6_count_3 : decode cX6_count 3 = .ok (.istore_n 2, 1) := by decide +kernel
theorem dX6_count_4 : decode cX6_count 4 = .ok (.iload_n 2, 1) := by decide +kernel
theorem dX6_count_5 : decode cX6_count 5 = .ok (.bipush 16, 2) := by decide +kernel
theorem dX6_count_7 : decode cX6_count 7 = .ok (.if_icmp .ge 17, 3) := by decide +kernel
theorem dX6_count_10 : decode cX6_count 10 = .ok (.iload_n 1, 1) := by decide +kernel
theorem dX6_count_11 : decode cX6_count 11 = .ok (.iload_n 0, 1) := by decide +kernel
theorem dX6_count_12 : decode cX6_count 12 = .ok (.iload_n 2, 1) := by decide +kernel
theorem dX6_count_13 : decode cX6_count 13 = .ok (.ishr, 1) := by decide +kernel
theorem dX6_count_14 : decode cX6_count 14 = .ok (.iconst 1, 1) := by decide +kernel
theorem dX6_count_15 : decode cX6_count 15 = .ok (.iand, 1) := by decide +kernel
theorem dX6_count_16 : decode cX6_count 16 = .ok (.iadd, 1) := by decide +kernel
theorem dX6_count_17 : decode cX6_count 17 = .ok (.istore_n 1, 1) := by decide +kernel
theorem dX6_count_18 : decode cX6_count 18 = .ok (.iinc 2 1, 3) := by decide +kernel
theorem dX6_count_21 : decode cX6_count 21 = .ok (.goto (-17), 3) := by decide +kernel
theorem dX6_count_24 : decode cX6_count 24 = .ok (.iload_n 1, 1) := by decide +kernel
theorem dX6_count_25 : decode cX6_count 25 = .ok (.ireturn, 1) := by decide +kernel
theorem dX6_longest_0 : decode cX6_longest 0 = .ok (.iconst 0, 1) := by decide +kernel
theorem dX6_longest_1 : decode cX6_longest 1 = .ok (.istore_n 1, 1) := by decide +kernel
theorem dX6_longest_2 : decode cX6_longest 2 = .ok (.iconst 0, 1) := by decide +kernel
theorem dX6_longest_3 : decode cX6_longest 3 = .ok (.istore_n 2, 1) := by decide +kernel
theorem dX6_longest_4 : decode cX6_longest 4 = .ok (.iconst 0, 1) := by decide +kernel
theorem dX6_longest_5 : decode cX6_longest 5 = .ok (.istore_n 3, 1) := by decide +kernel
theorem dX6_longest_6 : decode cX6_longest 6 = .ok (.iload_n 3, 1) := by decide +kernel
theorem dX6_longest_7 : decode cX6_longest 7 = .ok (.bipush 16, 2) := by decide +kernel
theorem dX6_longest_9 : decode cX6_longest 9 = .ok (.if_icmp .ge 37, 3) := by decide +kernel
theorem dX6_longest_12 : decode cX6_longest 12 = .ok (.iload_n 0, 1) := by decide +kernel
theorem dX6_longest_13 : decode cX6_longest 13 = .ok (.iload_n 3, 1) := by decide +kernel
theorem dX6_longest_14 : decode cX6_longest 14 = .ok (.ishr, 1) := by decide +kernel
theorem dX6_longest_15 : decode cX6_longest 15 = .ok (.iconst 1, 1) := by decide +kernel
theorem dX6_longest_16 : decode cX6_longest 16 = .ok (.iand, 1) := by decide +kernel
theorem dX6_longest_17 : decode cX6_longest 17 = .ok (.iconst 1, 1) := by decide +kernel
theorem dX6_longest_18 : decode cX6_longest 18 = .ok (.if_icmp .ne 9, 3) := by decide +kernel
theorem dX6_longest_21 : decode cX6_longest 21 = .ok (.iload_n 2, 1) := by decide +kernel
theorem dX6_longest_22 : decode cX6_longest 22 = .ok (.iconst 1, 1) := by decide +kernel
theorem dX6_longest_23 : decode cX6_longest 23 = .ok (.iadd, 1) := by decide +kernel
theorem dX6_longest_24 : decode cX6_longest 24 = .ok (.goto 4, 3) := by decide +kernel
theorem dX6_longest_27 : decode cX6_longest 27 = .ok (.iconst 0, 1) := by decide +kernel
theorem dX6_longest_28 : decode cX6_longest 28 = .ok (.istore_n 2, 1) := by decide +kernel
theorem dX6_longest_29 : decode cX6_longest 29 = .ok (.iload_n 2, 1) := by decide +kernel
theorem dX6_longest_30 : decode cX6_longest 30 = .ok (.iload_n 1, 1) := by decide +kernel
theorem dX6_longest_31 : decode cX6_longest 31 = .ok (.if_icmp .le 7, 3) := by decide +kernel
theorem dX6_longest_34 : decode cX6_longest 34 = .ok (.iload_n 2, 1) := by decide +kernel
theorem dX6_longest_35 : decode cX6_longest 35 = .ok (.goto 4, 3) := by decide +kernel
theorem dX6_longest_38 : decode cX6_longest 38 = .ok (.iload_n 1, 1) := by decide +kernel
theorem dX6_longest_39 : decode cX6_longest 39 = .ok (.istore_n 1, 1) := by decide +kernel
theorem dX6_longest_40 : decode cX6_longest 40 = .ok (.iinc 3 1, 3) := by decide +kernel
theorem dX6_longest_43 : decode cX6_longest 43 = .ok (.goto (-37), 3) := by decide +kernel
theorem dX6_longest_46 : decode cX6_longest 46 = .ok (.iload_n 1, 1) := by decide +kernel
theorem dX6_longest_47 : decode cX6_longest 47 = .ok (.ireturn, 1) := by decide +kernel
theorem dX6_leaveOf_0 : decode cX6_leaveOf 0 = .ok (.aload_n 0, 1) := by decide +kernel
theorem dX6_leaveOf_1 : decode cX6_leaveOf 1 = .ok (.bipush 13, 2) := by decide +kernel
theorem dX6_leaveOf_3 : decode cX6_leaveOf 3 = .ok (.iconst 3, 1) := by decide +kernel
theorem dX6_leaveOf_4 : decode cX6_leaveOf 4 = .ok (.iload_n 1, 1) := by decide +kernel
theorem dX6_leaveOf_5 : decode cX6_leaveOf 5 = .ok (.imul, 1) := by decide +kernel
theorem dX6_leaveOf_6 : decode cX6_leaveOf 6 = .ok (.iadd, 1) := by decide +kernel
theorem dX6_leaveOf_7 : decode cX6_leaveOf 7 = .ok (.iconst 1, 1) := by decide +kernel
theorem dX6_leaveOf_8 : decode cX6_leaveOf 8 = .ok (.iadd, 1) := by decide +kernel
theorem dX6_leaveOf_9 : decode cX6_leaveOf 9 = .ok (.iaload, 1) := by decide +kernel
theorem dX6_leaveOf_10 : decode cX6_leaveOf 10 = .ok (.ireturn, 1) := by decide +kernel
theorem dX6_why_0 : decode cX6_why 0 = .ok (.aload_n 0, 1) := by decide +kernel
theorem dX6_why_1 : decode cX6_why 1 = .ok (.iload_n 1, 1) := by decide +kernel
theorem dX6_why_2 : decode cX6_why 2 = .ok (.iconst 5, 1) := by decide +kernel
theorem dX6_why_3 : decode cX6_why 3 = .ok (.invokestatic 55, 3) := by decide +kernel
theorem dX6_why_6 : decode cX6_why 6 = .ok (.iload_n 2, 1) := by decide +kernel
theorem dX6_why_7 : decode cX6_why 7 = .ok (.if_icmp .ne 5, 3) := by decide +kernel
theorem dX6_why_10 : decode cX6_why 10 = .ok (.iconst 0, 1) := by decide +kernel
theorem dX6_why_11 : decode cX6_why 11 = .ok (.ireturn, 1) := by decide +kernel
theorem dX6_why_12 : decode cX6_why 12 = .ok (.aload_n 0, 1) := by decide +kernel
theorem dX6_why_13 : decode cX6_why 13 = .ok (.iload_n 1, 1) := by decide +kernel
theorem dX6_why_14 : decode cX6_why 14 = .ok (.iconst 1, 1) := by decide +kernel
theorem dX6_why_15 : decode cX6_why 15 = .ok (.invokestatic 55, 3) := by decide +kernel
theorem dX6_why_18 : decode cX6_why 18 = .ok (.istore_n 3, 1) := by decide +kernel
theorem dX6_why_19 : decode cX6_why 19 = .ok (.aload_n 0, 1) := by decide +kernel
theorem dX6_why_20 : decode cX6_why 20 = .ok (.iload_n 2, 1) := by decide +kernel
theorem dX6_why_21 : decode cX6_why 21 = .ok (.iload_n 3, 1) := by decide +kernel
theorem dX6_why_22 : decode cX6_why 22 = .ok (.iload_n 1, 1) := by decide +kernel
theorem dX6_why_23 : decode cX6_why 23 = .ok (.invokestatic 91, 3) := by decide +kernel
theorem dX6_why_26 : decode cX6_why 26 = .ok (.istore 4, 2) := by decide +kernel
theorem dX6_why_28 : decode cX6_why 28 = .ok (.iload 4, 2) := by decide +kernel
theorem dX6_why_30 : decode cX6_why 30 = .ok (.aload_n 0, 1) := by decide +kernel
theorem dX6_why_31 : decode cX6_why 31 = .ok (.iload_n 1, 1) := by decide +kernel
theorem dX6_why_32 : decode cX6_why 32 = .ok (.invokestatic 88, 3) := by decide +kernel
theorem dX6_why_35 : decode cX6_why 35 = .ok (.ior, 1) := by decide +kernel
theorem dX6_why_36 : decode cX6_why 36 = .ok (.istore 5, 2) := by decide +kernel
theorem dX6_why_38 : decode cX6_why 38 = .ok (.iload_n 3, 1) := by decide +kernel
theorem dX6_why_39 : decode cX6_why 39 = .ok (.aload_n 0, 1) := by decide +kernel
theorem dX6_why_40 : decode cX6_why 40 = .ok (.iload_n 2, 1) := by decide +kernel
theorem dX6_why_41 : decode cX6_why 41 = .ok (.invokestatic 95, 3) := by decide +kernel
theorem dX6_why_44 : decode cX6_why 44 = .ok (.if_icmp .ge 5, 3) := by decide +kernel
theorem dX6_why_47 : decode cX6_why 47 = .ok (.iconst 1, 1) := by decide +kernel
theorem dX6_why_48 : decode cX6_why 48 = .ok (.ireturn, 1) := by decide +kernel
theorem dX6_why_49 : decode cX6_why 49 = .ok (.iload 4, 2) := by decide +kernel
theorem dX6_why_51 : decode cX6_why 51 = .ok (.aload_n 0, 1) := by decide +kernel
theorem dX6_why_52 : decode cX6_why 52 = .ok (.iload_n 1, 1) := by decide +kernel
theorem dX6_why_53 : decode cX6_why 53 = .ok (.invokestatic 88, 3) := by decide +kernel
theorem dX6_why_56 : decode cX6_why 56 = .ok (.iand, 1) := by decide +kernel
theorem dX6_why_57 : decode cX6_why 57 = .ok (.ifCond .eq 5, 3) := by decide +kernel
theorem dX6_why_60 : decode cX6_why 60 = .ok (.iconst 2, 1) := by decide +kernel
theorem dX6_why_61 : decode cX6_why 61 = .ok (.ireturn, 1) := by decide +kernel
theorem dX6_why_62 : decode cX6_why 62 = .ok (.iload 5, 2) := by decide +kernel
theorem dX6_why_64 : decode cX6_why 64 = .ok (.invokestatic 98, 3) := by decide +kernel
theorem dX6_why_67 : decode cX6_why 67 = .ok (.aload_n 0, 1) := by decide +kernel
theorem dX6_why_68 : decode cX6_why 68 = .ok (.bipush 9, 2) := by decide +kernel
theorem dX6_why_70 : decode cX6_why 70 = .ok (.iaload, 1) := by decide +kernel
theorem dX6_why_71 : decode cX6_why 71 = .ok (.if_icmp .le 7, 3) := by decide +kernel
theorem dX6_why_74 : decode cX6_why 74 = .ok (.iconst 3, 1) := by decide +kernel
theorem dX6_why_75 : decode cX6_why 75 = .ok (.goto 20, 3) := by decide +kernel
theorem dX6_why_78 : decode cX6_why 78 = .ok (.iload 5, 2) := by decide +kernel
theorem dX6_why_80 : decode cX6_why 80 = .ok (.invokestatic 102, 3) := by decide +kernel
theorem dX6_why_83 : decode cX6_why 83 = .ok (.aload_n 0, 1) := by decide +kernel
theorem dX6_why_84 : decode cX6_why 84 = .ok (.bipush 10, 2) := by decide +kernel
theorem dX6_why_86 : decode cX6_why 86 = .ok (.iaload, 1) := by decide +kernel
theorem dX6_why_87 : decode cX6_why 87 = .ok (.if_icmp .le 7, 3) := by decide +kernel
theorem dX6_why_90 : decode cX6_why 90 = .ok (.iconst 4, 1) := by decide +kernel
theorem dX6_why_91 : decode cX6_why 91 = .ok (.goto 4, 3) := by decide +kernel
theorem dX6_why_94 : decode cX6_why 94 = .ok (.iconst 0, 1) := by decide +kernel
theorem dX6_why_95 : decode cX6_why 95 = .ok (.ireturn, 1) := by decide +kernel
theorem dX6_onDesk_0 : decode cX6_onDesk 0 = .ok (.iconst 0, 1) := by decide +kernel
theorem dX6_onDesk_1 : decode cX6_onDesk 1 = .ok (.istore_n 3, 1) := by decide +kernel
theorem dX6_onDesk_2 : decode cX6_onDesk 2 = .ok (.iconst 0, 1) := by decide +kernel
theorem dX6_onDesk_3 : decode cX6_onDesk 3 = .ok (.istore 4, 2) := by decide +kernel
theorem dX6_onDesk_5 : decode cX6_onDesk 5 = .ok (.iload 4, 2) := by decide +kernel
theorem dX6_onDesk_7 : decode cX6_onDesk 7 = .ok (.aload_n 0, 1) := by decide +kernel
theorem dX6_onDesk_8 : decode cX6_onDesk 8 = .ok (.iconst 2, 1) := by decide +kernel
theorem dX6_onDesk_9 : decode cX6_onDesk 9 = .ok (.iaload, 1) := by decide +kernel
theorem dX6_onDesk_10 : decode cX6_onDesk 10 = .ok (.if_icmp .ge 52, 3) := by decide +kernel
theorem dX6_onDesk_13 : decode cX6_onDesk 13 = .ok (.bipush 127, 2) := by decide +kernel
theorem dX6_onDesk_15 : decode cX6_onDesk 15 = .ok (.iconst 3, 1) := by decide +kernel
theorem dX6_onDesk_16 : decode cX6_onDesk 16 = .ok (.iload 4, 2) := by decide +kernel
theorem dX6_onDesk_18 : decode cX6_onDesk 18 = .ok (.imul, 1) := by decide +kernel
theorem dX6_onDesk_19 : decode cX6_onDesk 19 = .ok (.iadd, 1) := by decide +kernel
theorem dX6_onDesk_20 : decode cX6_onDesk 20 = .ok (.istore 5, 2) := by decide +kernel
theorem dX6_onDesk_22 : decode cX6_onDesk 22 = .ok (.iload_n 3, 1) := by decide +kernel
theorem dX6_onDesk_23 : decode cX6_onDesk 23 = .ok (.iload_n 1, 1) := by decide +kernel
theorem dX6_onDesk_24 : decode cX6_onDesk 24 = .ok (.iconst (-1), 1) := by decide +kernel
theorem dX6_onDesk_25 : decode cX6_onDesk 25 = .ok (.if_icmp .eq 15, 3) := by decide +kernel
theorem dX6_onDesk_28 : decode cX6_onDesk 28 = .ok (.aload_n 0, 1) := by decide +kernel
theorem dX6_onDesk_29 : decode cX6_onDesk 29 = .ok (.iload 5, 2) := by decide +kernel
theorem dX6_onDesk_31 : decode cX6_onDesk 31 = .ok (.iaload, 1) := by decide +kernel
theorem dX6_onDesk_32 : decode cX6_onDesk 32 = .ok (.iload_n 1, 1) := by decide +kernel
theorem dX6_onDesk_33 : decode cX6_onDesk 33 = .ok (.if_icmp .eq 7, 3) := by decide +kernel
theorem dX6_onDesk_36 : decode cX6_onDesk 36 = .ok (.iconst 0, 1) := by decide +kernel
theorem dX6_onDesk_37 : decode cX6_onDesk 37 = .ok (.goto 17, 3) := by decide +kernel
theorem dX6_onDesk_40 : decode cX6_onDesk 40 = .ok (.iload_n 2, 1) := by decide +kernel
theorem dX6_onDesk_41 : decode cX6_onDesk 41 = .ok (.ifCond .eq 12, 3) := by decide +kernel
theorem dX6_onDesk_44 : decode cX6_onDesk 44 = .ok (.aload_n 0, 1) := by decide +kernel
theorem dX6_onDesk_45 : decode cX6_onDesk 45 = .ok (.iload 5, 2) := by decide +kernel
theorem dX6_onDesk_47 : decode cX6_onDesk 47 = .ok (.iconst 1, 1) := by decide +kernel
theorem dX6_onDesk_48 : decode cX6_onDesk 48 = .ok (.iadd, 1) := by decide +kernel
theorem dX6_onDesk_49 : decode cX6_onDesk 49 = .ok (.iaload, 1) := by decide +kernel
theorem dX6_onDesk_50 : decode cX6_onDesk 50 = .ok (.goto 4, 3) := by decide +kernel
theorem dX6_onDesk_53 : decode cX6_onDesk 53 = .ok (.iconst 1, 1) := by decide +kernel
theorem dX6_onDesk_54 : decode cX6_onDesk 54 = .ok (.iadd, 1) := by decide +kernel
theorem dX6_onDesk_55 : decode cX6_onDesk 55 = .ok (.istore_n 3, 1) := by decide +kernel
theorem dX6_onDesk_56 : decode cX6_onDesk 56 = .ok (.iinc 4 1, 3) := by decide +kernel
theorem dX6_onDesk_59 : decode cX6_onDesk 59 = .ok (.goto (-54), 3) := by decide +kernel
theorem dX6_onDesk_62 : decode cX6_onDesk 62 = .ok (.iload_n 3, 1) := by decide +kernel
theorem dX6_onDesk_63 : decode cX6_onDesk 63 = .ok (.ireturn, 1) := by decide +kernel
theorem dX6_best_0 : decode cX6_best 0 = .ok (.iconst (-1), 1) := by decide +kernel
theorem dX6_best_1 : decode cX6_best 1 = .ok (.istore_n 2, 1) := by decide +kernel
theorem dX6_best_2 : decode cX6_best 2 = .ok (.iconst 0, 1) := by decide +kernel
theorem dX6_best_3 : decode cX6_best 3 = .ok (.istore_n 3, 1) := by decide +kernel
theorem dX6_best_4 : decode cX6_best 4 = .ok (.iload_n 3, 1) := by decide +kernel
theorem dX6_best_5 : decode cX6_best 5 = .ok (.aload_n 0, 1) := by decide +kernel
theorem dX6_best_6 : decode cX6_best 6 = .ok (.iconst 0, 1) := by decide +kernel
theorem dX6_best_7 : decode cX6_best 7 = .ok (.iaload, 1) := by decide +kernel
theorem dX6_best_8 : decode cX6_best 8 = .ok (.if_icmp .ge 91, 3) := by decide +kernel
theorem dX6_best_11 : decode cX6_best 11 = .ok (.aload_n 0, 1) := by decide +kernel
theorem dX6_best_12 : decode cX6_best 12 = .ok (.iload_n 1, 1) := by decide +kernel
theorem dX6_best_13 : decode cX6_best 13 = .ok (.iload_n 3, 1) := by decide +kernel
theorem dX6_best_14 : decode cX6_best 14 = .ok (.invokestatic 105, 3) := by decide +kernel
theorem dX6_best_17 : decode cX6_best 17 = .ok (.ifCond .ne 76, 3) := by decide +kernel
theorem dX6_best_20 : decode cX6_best 20 = .ok (.iload_n 2, 1) := by decide +kernel
theorem dX6_best_21 : decode cX6_best 21 = .ok (.iconst (-1), 1) := by decide +kernel
theorem dX6_best_22 : decode cX6_best 22 = .ok (.if_icmp .ne 7, 3) := by decide +kernel
theorem dX6_best_25 : decode cX6_best 25 = .ok (.iconst (-1), 1) := by decide +kernel
theorem dX6_best_26 : decode cX6_best 26 = .ok (.goto 34, 3) := by decide +kernel
theorem dX6_best_29 : decode cX6_best 29 = .ok (.aload_n 0, 1) := by decide +kernel
theorem dX6_best_30 : decode cX6_best 30 = .ok (.iload_n 3, 1) := by decide +kernel
theorem dX6_best_31 : decode cX6_best 31 = .ok (.aload_n 0, 1) := by decide +kernel
theorem dX6_best_32 : decode cX6_best 32 = .ok (.iload_n 1, 1) := by decide +kernel
theorem dX6_best_33 : decode cX6_best 33 = .ok (.iconst 1, 1) := by decide +kernel
theorem dX6_best_34 : decode cX6_best 34 = .ok (.invokestatic 55, 3) := by decide +kernel
theorem dX6_best_37 : decode cX6_best 37 = .ok (.iconst (-1), 1) := by decide +kernel
theorem dX6_best_38 : decode cX6_best 38 = .ok (.invokestatic 91, 3) := by decide +kernel
theorem dX6_best_41 : decode cX6_best 41 = .ok (.invokestatic 102, 3) := by decide +kernel
theorem dX6_best_44 : decode cX6_best 44 = .ok (.aload_n 0, 1) := by decide +kernel
theorem dX6_best_45 : decode cX6_best 45 = .ok (.iload_n 2, 1) := by decide +kernel
theorem dX6_best_46 : decode cX6_best 46 = .ok (.aload_n 0, 1) := by decide +kernel
theorem dX6_best_47 : decode cX6_best 47 = .ok (.iload_n 1, 1) := by decide +kernel
theorem dX6_best_48 : decode cX6_best 48 = .ok (.iconst 1, 1) := by decide +kernel
theorem dX6_best_49 : decode cX6_best 49 = .ok (.invokestatic 55, 3) := by decide +kernel
theorem dX6_best_52 : decode cX6_best 52 = .ok (.iconst (-1), 1) := by decide +kernel
theorem dX6_best_53 : decode cX6_best 53 = .ok (.invokestatic 91, 3) := by decide +kernel
theorem dX6_best_56 : decode cX6_best 56 = .ok (.invokestatic 102, 3) := by decide +kernel
theorem dX6_best_59 : decode cX6_best 59 = .ok (.isub, 1) := by decide +kernel
theorem dX6_best_60 : decode cX6_best 60 = .ok (.istore 4, 2) := by decide +kernel
theorem dX6_best_62 : decode cX6_best 62 = .ok (.iload 4, 2) := by decide +kernel
theorem dX6_best_64 : decode cX6_best 64 = .ok (.ifCond .lt 23, 3) := by decide +kernel
theorem dX6_best_67 : decode cX6_best 67 = .ok (.iload 4, 2) := by decide +kernel
theorem dX6_best_69 : decode cX6_best 69 = .ok (.ifCond .ne 22, 3) := by decide +kernel
theorem dX6_best_72 : decode cX6_best 72 = .ok (.aload_n 0, 1) := by decide +kernel
theorem dX6_best_73 : decode cX6_best 73 = .ok (.iload_n 3, 1) := by decide +kernel
theorem dX6_best_74 : decode cX6_best 74 = .ok (.iconst 1, 1) := by decide +kernel
theorem dX6_best_75 : decode cX6_best 75 = .ok (.invokestatic 108, 3) := by decide +kernel
theorem dX6_best_78 : decode cX6_best 78 = .ok (.aload_n 0, 1) := by decide +kernel
theorem dX6_best_79 : decode cX6_best 79 = .ok (.iload_n 2, 1) := by decide +kernel
theorem dX6_best_80 : decode cX6_best 80 = .ok (.iconst 1, 1) := by decide +kernel
theorem dX6_best_81 : decode cX6_best 81 = .ok (.invokestatic 108, 3) := by decide +kernel
theorem dX6_best_84 : decode cX6_best 84 = .ok (.if_icmp .ge 7, 3) := by decide +kernel
theorem dX6_best_87 : decode cX6_best 87 = .ok (.iload_n 3, 1) := by decide +kernel
theorem dX6_best_88 : decode cX6_best 88 = .ok (.goto 4, 3) := by decide +kernel
theorem dX6_best_91 : decode cX6_best 91 = .ok (.iload_n 2, 1) := by decide +kernel
theorem dX6_best_92 : decode cX6_best 92 = .ok (.istore_n 2, 1) := by decide +kernel
theorem dX6_best_93 : decode cX6_best 93 = .ok (.iinc 3 1, 3) := by decide +kernel
theorem dX6_best_96 : decode cX6_best 96 = .ok (.goto (-92), 3) := by decide +kernel
theorem dX6_best_99 : decode cX6_best 99 = .ok (.iload_n 2, 1) := by decide +kernel
theorem dX6_best_100 : decode cX6_best 100 = .ok (.ireturn, 1) := by decide +kernel
theorem dX6_giveAllOn_0 : decode cX6_giveAllOn 0 = .ok (.iconst 0, 1) := by decide +kernel
theorem dX6_giveAllOn_1 : decode cX6_giveAllOn 1 = .ok (.istore_n 1, 1) := by decide +kernel
theorem dX6_giveAllOn_2 : decode cX6_giveAllOn 2 = .ok (.iconst 0, 1) := by decide +kernel
theorem dX6_giveAllOn_3 : decode cX6_giveAllOn 3 = .ok (.istore_n 2, 1) := by decide +kernel
theorem dX6_giveAllOn_4 : decode cX6_giveAllOn 4 = .ok (.iload_n 2, 1) := by decide +kernel
theorem dX6_giveAllOn_5 : decode cX6_giveAllOn 5 = .ok (.aload_n 0, 1) := by decide +kernel
theorem dX6_giveAllOn_6 : decode cX6_giveAllOn 6 = .ok (.iconst 1, 1) := by decide +kernel
theorem dX6_giveAllOn_7 : decode cX6_giveAllOn 7 = .ok (.iaload, 1) := by decide +kernel
theorem dX6_giveAllOn_8 : decode cX6_giveAllOn 8 = .ok (.if_icmp .ge 48, 3) := by decide +kernel
theorem dX6_giveAllOn_11 : decode cX6_giveAllOn 11 = .ok (.aload_n 0, 1) := by decide +kernel
theorem dX6_giveAllOn_12 : decode cX6_giveAllOn 12 = .ok (.iload_n 2, 1) := by decide +kernel
theorem dX6_giveAllOn_13 : decode cX6_giveAllOn 13 = .ok (.iconst 5, 1) := by decide +kernel
theorem dX6_giveAllOn_14 : decode cX6_giveAllOn 14 = .ok (.invokestatic 55, 3) := by decide +kernel
theorem dX6_giveAllOn_17 : decode cX6_giveAllOn 17 = .ok (.iconst (-1), 1) := by decide +kernel
theorem dX6_giveAllOn_18 : decode cX6_giveAllOn 18 = .ok (.if_icmp .ne 32, 3) := by decide +kernel
theorem dX6_giveAllOn_21 : decode cX6_giveAllOn 21 = .ok (.aload_n 0, 1) := by decide +kernel
theorem dX6_giveAllOn_22 : decode cX6_giveAllOn 22 = .ok (.iload_n 2, 1) := by decide +kernel
theorem dX6_giveAllOn_23 : decode cX6_giveAllOn 23 = .ok (.iconst 5, 1) := by decide +kernel
theorem dX6_giveAllOn_24 : decode cX6_giveAllOn 24 = .ok (.aload_n 0, 1) := by decide +kernel
theorem dX6_giveAllOn_25 : decode cX6_giveAllOn 25 = .ok (.iload_n 2, 1) := by decide +kernel
theorem dX6_giveAllOn_26 : decode cX6_giveAllOn 26 = .ok (.invokestatic 112, 3) := by decide +kernel
theorem dX6_giveAllOn_29 : decode cX6_giveAllOn 29 = .ok (.invokestatic 63, 3) := by decide +kernel
theorem dX6_giveAllOn_32 : decode cX6_giveAllOn 32 = .ok (.iload_n 1, 1) := by decide +kernel
theorem dX6_giveAllOn_33 : decode cX6_giveAllOn 33 = .ok (.aload_n 0, 1) := by decide +kernel
theorem dX6_giveAllOn_34 : decode cX6_giveAllOn 34 = .ok (.iload_n 2, 1) := by decide +kernel
theorem dX6_giveAllOn_35 : decode cX6_giveAllOn 35 = .ok (.iconst 5, 1) := by decide +kernel
theorem dX6_giveAllOn_36 : decode cX6_giveAllOn 36 = .ok (.invokestatic 55, 3) := by decide +kernel
theorem dX6_giveAllOn_39 : decode cX6_giveAllOn 39 = .ok (.iconst (-1), 1) := by decide +kernel
theorem dX6_giveAllOn_40 : decode cX6_giveAllOn 40 = .ok (.if_icmp .ne 7, 3) := by decide +kernel
theorem dX6_giveAllOn_43 : decode cX6_giveAllOn 43 = .ok (.iconst 0, 1) := by decide +kernel
theorem dX6_giveAllOn_44 : decode cX6_giveAllOn 44 = .ok (.goto 4, 3) := by decide +kernel
theorem dX6_giveAllOn_47 : decode cX6_giveAllOn 47 = .ok (.iconst 1, 1) := by decide +kernel
theorem dX6_giveAllOn_48 : decode cX6_giveAllOn 48 = .ok (.iadd, 1) := by decide +kernel
theorem dX6_giveAllOn_49 : decode cX6_giveAllOn 49 = .ok (.istore_n 1, 1) := by decide +kernel
theorem dX6_giveAllOn_50 : decode cX6_giveAllOn 50 = .ok (.iinc 2 1, 3) := by decide +kernel
theorem dX6_giveAllOn_53 : decode cX6_giveAllOn 53 = .ok (.goto (-49), 3) := by decide +kernel
theorem dX6_giveAllOn_56 : decode cX6_giveAllOn 56 = .ok (.iload_n 1, 1) := by decide +kernel
theorem dX6_giveAllOn_57 : decode cX6_giveAllOn 57 = .ok (.ireturn, 1) := by decide +kernel
theorem dX6_canGive_0 : decode cX6_canGive 0 = .ok (.iload_n 2, 1) := by decide +kernel
theorem dX6_canGive_1 : decode cX6_canGive 1 = .ok (.iconst (-1), 1) := by decide +kernel
theorem dX6_canGive_2 : decode cX6_canGive 2 = .ok (.if_icmp .eq 12, 3) := by decide +kernel
theorem dX6_canGive_5 : decode cX6_canGive 5 = .ok (.aload_n 0, 1) := by decide +kernel
theorem dX6_canGive_6 : decode cX6_canGive 6 = .ok (.iload_n 1, 1) := by decide +kernel
theorem dX6_canGive_7 : decode cX6_canGive 7 = .ok (.iload_n 2, 1) := by decide +kernel
theorem dX6_canGive_8 : decode cX6_canGive 8 = .ok (.invokestatic 105, 3) := by decide +kernel
theorem dX6_canGive_11 : decode cX6_canGive 11 = .ok (.ifCond .ne 7, 3) := by decide +kernel
theorem dX6_canGive_14 : decode cX6_canGive 14 = .ok (.iconst 1, 1) := by decide +kernel
theorem dX6_canGive_15 : decode cX6_canGive 15 = .ok (.goto 4, 3) := by decide +kernel
theorem dX6_canGive_18 : decode cX6_canGive 18 = .ok (.iconst 0, 1) := by decide +kernel
theorem dX6_canGive_19 : decode cX6_canGive 19 = .ok (.ireturn, 1) := by decide +kernel
theorem dX6_giveOn_0 : decode cX6_giveOn 0 = .ok (.aload_n 0, 1) := by decide +kernel
theorem dX6_giveOn_1 : decode cX6_giveOn 1 = .ok (.iload_n 1, 1) := by decide +kernel
theorem dX6_giveOn_2 : decode cX6_giveOn 2 = .ok (.iconst 5, 1) := by decide +kernel
theorem dX6_giveOn_3 : decode cX6_giveOn 3 = .ok (.invokestatic 55, 3) := by decide +kernel
theorem dX6_giveOn_6 : decode cX6_giveOn 6 = .ok (.istore_n 3, 1) := by decide +kernel
theorem dX6_giveOn_7 : decode cX6_giveOn 7 = .ok (.aload_n 0, 1) := by decide +kernel
theorem dX6_giveOn_8 : decode cX6_giveOn 8 = .ok (.iload_n 1, 1) := by decide +kernel
theorem dX6_giveOn_9 : decode cX6_giveOn 9 = .ok (.iconst 5, 1) := by decide +kernel
theorem dX6_giveOn_10 : decode cX6_giveOn 10 = .ok (.iload_n 2, 1) := by decide +kernel
theorem dX6_giveOn_11 : decode cX6_giveOn 11 = .ok (.invokestatic 63, 3) := by decide +kernel
theorem dX6_giveOn_14 : decode cX6_giveOn 14 = .ok (.iload_n 3, 1) := by decide +kernel
theorem dX6_giveOn_15 : decode cX6_giveOn 15 = .ok (.ireturn, 1) := by decide +kernel
theorem dX6_takeLater_0 : decode cX6_takeLater 0 = .ok (.iconst 0, 1) := by decide +kernel
theorem dX6_takeLater_1 : decode cX6_takeLater 1 = .ok (.istore 5, 2) := by decide +kernel
theorem dX6_takeLater_3 : decode cX6_takeLater 3 = .ok (.iconst 0, 1) := by decide +kernel
theorem dX6_takeLater_4 : decode cX6_takeLater 4 = .ok (.istore 6, 2) := by decide +kernel
theorem dX6_takeLater_6 : decode cX6_takeLater 6 = .ok (.iload 6, 2) := by decide +kernel
theorem dX6_takeLater_8 : decode cX6_takeLater 8 = .ok (.aload_n 1, 1) := by decide +kernel
theorem dX6_takeLater_9 : decode cX6_takeLater 9 = .ok (.iconst 1, 1) := by decide +kernel
theorem dX6_takeLater_10 : decode cX6_takeLater 10 = .ok (.iaload, 1) := by decide +kernel
theorem dX6_takeLater_11 : decode cX6_takeLater 11 = .ok (.if_icmp .ge 112, 3) := by decide +kernel
theorem dX6_takeLater_14 : decode cX6_takeLater 14 = .ok (.aload_n 1, 1) := by decide +kernel
theorem dX6_takeLater_15 : decode cX6_takeLater 15 = .ok (.iload 6, 2) := by decide +kernel
theorem dX6_takeLater_17 : decode cX6_takeLater 17 = .ok (.iconst 0, 1) := by decide +kernel
theorem dX6_takeLater_18 : decode cX6_takeLater 18 = .ok (.invokestatic 55, 3) := by decide +kernel
theorem dX6_takeLater_21 : decode cX6_takeLater 21 = .ok (.iload_n 2, 1) := by decide +kernel
theorem dX6_takeLater_22 : decode cX6_takeLater 22 = .ok (.if_icmp .ne 95, 3) := by decide +kernel
theorem dX6_takeLater_25 : decode cX6_takeLater 25 = .ok (.aload_n 1, 1) := by decide +kernel
theorem dX6_takeLater_26 : decode cX6_takeLater 26 = .ok (.iload 6, 2) := by decide +kernel
theorem dX6_takeLater_28 : decode cX6_takeLater 28 = .ok (.iconst 1, 1) := by decide +kernel
theorem dX6_takeLater_29 : decode cX6_takeLater 29 = .ok (.invokestatic 55, 3) := by decide +kernel
theorem dX6_takeLater_32 : decode cX6_takeLater 32 = .ok (.iload_n 3, 1) := by decide +kernel
theorem dX6_takeLater_33 : decode cX6_takeLater 33 = .ok (.if_icmp .ne 84, 3) := by decide +kernel
theorem dX6_takeLater_36 : decode cX6_takeLater 36 = .ok (.aload_n 1, 1) := by decide +kernel
theorem dX6_takeLater_37 : decode cX6_takeLater 37 = .ok (.iload 6, 2) := by decide +kernel
theorem dX6_takeLater_39 : decode cX6_takeLater 39 = .ok (.iconst 2, 1) := by decide +kernel
theorem dX6_takeLater_40 : decode cX6_takeLater 40 = .ok (.invokestatic 55, 3) := by decide +kernel
theorem dX6_takeLater_43 : decode cX6_takeLater 43 = .ok (.iload 4, 2) := by decide +kernel
theorem dX6_takeLater_45 : decode cX6_takeLater 45 = .ok (.if_icmp .le 72, 3) := by decide +kernel
theorem dX6_takeLater_48 : decode cX6_takeLater 48 = .ok (.aload_n 0, 1) := by decide +kernel
theorem dX6_takeLater_49 : decode cX6_takeLater 49 = .ok (.getfield 29, 3) := by decide +kernel
theorem dX6_takeLater_52 : decode cX6_takeLater 52 = .ok (.iload 5, 2) := by decide +kernel
theorem dX6_takeLater_54 : decode cX6_takeLater 54 = .ok (.aload_n 1, 1) := by decide +kernel
theorem dX6_takeLater_55 : decode cX6_takeLater 55 = .ok (.iload 6, 2) := by decide +kernel
theorem dX6_takeLater_57 : decode cX6_takeLater 57 = .ok (.iconst 2, 1) := by decide +kernel
theorem dX6_takeLater_58 : decode cX6_takeLater 58 = .ok (.invokestatic 55, 3) := by decide +kernel
theorem dX6_takeLater_61 : decode cX6_takeLater 61 = .ok (.iastore, 1) := by decide +kernel
theorem dX6_takeLater_62 : decode cX6_takeLater 62 = .ok (.aload_n 0, 1) := by decide +kernel
theorem dX6_takeLater_63 : decode cX6_takeLater 63 = .ok (.getfield 32, 3) := by decide +kernel
theorem dX6_takeLater_66 : decode cX6_takeLater 66 = .ok (.iload 5, 2) := by decide +kernel
theorem dX6_takeLater_68 : decode cX6_takeLater 68 = .ok (.aload_n 1, 1) := by decide +kernel
theorem dX6_takeLater_69 : decode cX6_takeLater 69 = .ok (.iload 6, 2) := by decide +kernel
theorem dX6_takeLater_71 : decode cX6_takeLater 71 = .ok (.iconst 3, 1) := by decide +kernel
theorem dX6_takeLater_72 : decode cX6_takeLater 72 = .ok (.invokestatic 55, 3) := by decide +kernel
theorem dX6_takeLater_75 : decode cX6_takeLater 75 = .ok (.iastore, 1) := by decide +kernel
theorem dX6_takeLater_76 : decode cX6_takeLater 76 = .ok (.aload_n 0, 1) := by decide +kernel
theorem dX6_takeLater_77 : decode cX6_takeLater 77 = .ok (.getfield 35, 3) := by decide +kernel
theorem dX6_takeLater_80 : decode cX6_takeLater 80 = .ok (.iload 5, 2) := by decide +kernel
theorem dX6_takeLater_82 : decode cX6_takeLater 82 = .ok (.aload_n 1, 1) := by decide +kernel
theorem dX6_takeLater_83 : decode cX6_takeLater 83 = .ok (.iload 6, 2) := by decide +kernel
theorem dX6_takeLater_85 : decode cX6_takeLater 85 = .ok (.iconst 4, 1) := by decide +kernel
theorem dX6_takeLater_86 : decode cX6_takeLater 86 = .ok (.invokestatic 55, 3) := by decide +kernel
theorem dX6_takeLater_89 : decode cX6_takeLater 89 = .ok (.iastore, 1) := by decide +kernel
theorem dX6_takeLater_90 : decode cX6_takeLater 90 = .ok (.aload_n 0, 1) := by decide +kernel
theorem dX6_takeLater_91 : decode cX6_takeLater 91 = .ok (.getfield 38, 3) := by decide +kernel
theorem dX6_takeLater_94 : decode cX6_takeLater 94 = .ok (.iload 5, 2) := by decide +kernel
theorem dX6_takeLater_96 : decode cX6_takeLater 96 = .ok (.aload_n 1, 1) := by decide +kernel
theorem dX6_takeLater_97 : decode cX6_takeLater 97 = .ok (.iload 6, 2) := by decide +kernel
theorem dX6_takeLater_99 : decode cX6_takeLater 99 = .ok (.iconst 5, 1) := by decide +kernel
theorem dX6_takeLater_100 : decode cX6_takeLater 100 = .ok (.invokestatic 55, 3) := by decide +kernel
theorem dX6_takeLater_103 : decode cX6_takeLater 103 = .ok (.iastore, 1) := by decide +kernel
theorem dX6_takeLater_104 : decode cX6_takeLater 104 = .ok (.iinc 5 1, 3) := by decide +kernel
theorem dX6_takeLater_107 : decode cX6_takeLater 107 = .ok (.aload_n 1, 1) := by decide +kernel
theorem dX6_takeLater_108 : decode cX6_takeLater 108 = .ok (.iload 6, 2) := by decide +kernel
theorem dX6_takeLater_110 : decode cX6_takeLater 110 = .ok (.invokestatic 115, 3) := by decide +kernel
theorem dX6_takeLater_113 : decode cX6_takeLater 113 = .ok (.pop, 1) := by decide +kernel
theorem dX6_takeLater_114 : decode cX6_takeLater 114 = .ok (.goto (-108), 3) := by decide +kernel
theorem dX6_takeLater_117 : decode cX6_takeLater 117 = .ok (.iinc 6 1, 3) := by decide +kernel
theorem dX6_takeLater_120 : decode cX6_takeLater 120 = .ok (.goto (-114), 3) := by decide +kernel
theorem dX6_takeLater_123 : decode cX6_takeLater 123 = .ok (.iload 5, 2) := by decide +kernel
theorem dX6_takeLater_125 : decode cX6_takeLater 125 = .ok (.ireturn, 1) := by decide +kernel
theorem dX6_extendOn_0 : decode cX6_extendOn 0 = .ok (.aload_n 1, 1) := by decide +kernel
theorem dX6_extendOn_1 : decode cX6_extendOn 1 = .ok (.iload_n 2, 1) := by decide +kernel
theorem dX6_extendOn_2 : decode cX6_extendOn 2 = .ok (.iconst 0, 1) := by decide +kernel
theorem dX6_extendOn_3 : decode cX6_extendOn 3 = .ok (.invokestatic 55, 3) := by decide +kernel
theorem dX6_extendOn_6 : decode cX6_extendOn 6 = .ok (.istore 4, 2) := by decide +kernel
theorem dX6_extendOn_8 : decode cX6_extendOn 8 = .ok (.aload_n 1, 1) := by decide +kernel
theorem dX6_extendOn_9 : decode cX6_extendOn 9 = .ok (.iload_n 2, 1) := by decide +kernel
theorem dX6_extendOn_10 : decode cX6_extendOn 10 = .ok (.iconst 1, 1) := by decide +kernel
theorem dX6_extendOn_11 : decode cX6_extendOn 11 = .ok (.invokestatic 55, 3) := by decide +kernel
theorem dX6_extendOn_14 : decode cX6_extendOn 14 = .ok (.istore 5, 2) := by decide +kernel
theorem dX6_extendOn_16 : decode cX6_extendOn 16 = .ok (.aload_n 1, 1) := by decide +kernel
theorem dX6_extendOn_17 : decode cX6_extendOn 17 = .ok (.iload_n 2, 1) := by decide +kernel
theorem dX6_extendOn_18 : decode cX6_extendOn 18 = .ok (.iconst 2, 1) := by decide +kernel
theorem dX6_extendOn_19 : decode cX6_extendOn 19 = .ok (.invokestatic 55, 3) := by decide +kernel
theorem dX6_extendOn_22 : decode cX6_extendOn 22 = .ok (.istore 6, 2) := by decide +kernel
theorem dX6_extendOn_24 : decode cX6_extendOn 24 = .ok (.aload_n 1, 1) := by decide +kernel
theorem dX6_extendOn_25 : decode cX6_extendOn 25 = .ok (.iload_n 2, 1) := by decide +kernel
theorem dX6_extendOn_26 : decode cX6_extendOn 26 = .ok (.iconst 5, 1) := by decide +kernel
theorem dX6_extendOn_27 : decode cX6_extendOn 27 = .ok (.invokestatic 55, 3) := by decide +kernel
theorem dX6_extendOn_30 : decode cX6_extendOn 30 = .ok (.istore 7, 2) := by decide +kernel
theorem dX6_extendOn_32 : decode cX6_extendOn 32 = .ok (.aload_n 1, 1) := by decide +kernel
theorem dX6_extendOn_33 : decode cX6_extendOn 33 = .ok (.iload_n 2, 1) := by decide +kernel
theorem dX6_extendOn_34 : decode cX6_extendOn 34 = .ok (.iconst 3, 1) := by decide +kernel
theorem dX6_extendOn_35 : decode cX6_extendOn 35 = .ok (.invokestatic 55, 3) := by decide +kernel
theorem dX6_extendOn_38 : decode cX6_extendOn 38 = .ok (.iload_n 3, 1) := by decide +kernel
theorem dX6_extendOn_39 : decode cX6_extendOn 39 = .ok (.iadd, 1) := by decide +kernel
theorem dX6_extendOn_40 : decode cX6_extendOn 40 = .ok (.bipush 16, 2) := by decide +kernel
theorem dX6_extendOn_42 : decode cX6_extendOn 42 = .ok (.iload 6, 2) := by decide +kernel
theorem dX6_extendOn_44 : decode cX6_extendOn 44 = .ok (.isub, 1) := by decide +kernel
theorem dX6_extendOn_45 : decode cX6_extendOn 45 = .ok (.if_icmp .ge 14, 3) := by decide +kernel
theorem dX6_extendOn_48 : decode cX6_extendOn 48 = .ok (.aload_n 1, 1) := by decide +kernel
theorem dX6_extendOn_49 : decode cX6_extendOn 49 = .ok (.iload_n 2, 1) := by decide +kernel
theorem dX6_extendOn_50 : decode cX6_extendOn 50 = .ok (.iconst 3, 1) := by decide +kernel
theorem dX6_extendOn_51 : decode cX6_extendOn 51 = .ok (.invokestatic 55, 3) := by decide +kernel
theorem dX6_extendOn_54 : decode cX6_extendOn 54 = .ok (.iload_n 3, 1) := by decide +kernel
theorem dX6_extendOn_55 : decode cX6_extendOn 55 = .ok (.iadd, 1) := by decide +kernel
theorem dX6_extendOn_56 : decode cX6_extendOn 56 = .ok (.goto 8, 3) := by decide +kernel
theorem dX6_extendOn_59 : decode cX6_extendOn 59 = .ok (.bipush 16, 2) := by decide +kernel
theorem dX6_extendOn_61 : decode cX6_extendOn 61 = .ok (.iload 6, 2) := by decide +kernel
theorem dX6_extendOn_63 : decode cX6_extendOn 63 = .ok (.isub, 1) := by decide +kernel
theorem dX6_extendOn_64 : decode cX6_extendOn 64 = .ok (.istore 8, 2) := by decide +kernel
theorem dX6_extendOn_66 : decode cX6_extendOn 66 = .ok (.aload_n 1, 1) := by decide +kernel
theorem dX6_extendOn_67 : decode cX6_extendOn 67 = .ok (.iload_n 2, 1) := by decide +kernel
theorem dX6_extendOn_68 : decode cX6_extendOn 68 = .ok (.iconst 3, 1) := by decide +kernel
theorem dX6_extendOn_69 : decode cX6_extendOn 69 = .ok (.iload 8, 2) := by decide +kernel
theorem dX6_extendOn_71 : decode cX6_extendOn 71 = .ok (.invokestatic 63, 3) := by decide +kernel
theorem dX6_extendOn_74 : decode cX6_extendOn 74 = .ok (.aload_n 0, 1) := by decide +kernel
theorem dX6_extendOn_75 : decode cX6_extendOn 75 = .ok (.aload_n 1, 1) := by decide +kernel
theorem dX6_extendOn_76 : decode cX6_extendOn 76 = .ok (.iload 4, 2) := by decide +kernel
theorem dX6_extendOn_78 : decode cX6_extendOn 78 = .ok (.iload 5, 2) := by decide +kernel
theorem dX6_extendOn_80 : decode cX6_extendOn 80 = .ok (.iload 6, 2) := by decide +kernel
theorem dX6_extendOn_82 : decode cX6_extendOn 82 = .ok (.invokevirtual 118, 3) := by decide +kernel
theorem dX6_extendOn_85 : decode cX6_extendOn 85 = .ok (.istore 9, 2) := by decide +kernel
theorem dX6_extendOn_87 : decode cX6_extendOn 87 = .ok (.iload 6, 2) := by decide +kernel
theorem dX6_extendOn_89 : decode cX6_extendOn 89 = .ok (.iload 8, 2) := by decide +kernel
theorem dX6_extendOn_91 : decode cX6_extendOn 91 = .ok (.iadd, 1) := by decide +kernel
theorem dX6_extendOn_92 : decode cX6_extendOn 92 = .ok (.istore 10, 2) := by decide +kernel
theorem dX6_extendOn_94 : decode cX6_extendOn 94 = .ok (.iconst 0, 1) := by decide +kernel
theorem dX6_extendOn_95 : decode cX6_extendOn 95 = .ok (.istore 11, 2) := by decide +kernel
theorem dX6_extendOn_97 : decode cX6_extendOn 97 = .ok (.iload 11, 2) := by decide +kernel
theorem dX6_extendOn_99 : decode cX6_extendOn 99 = .ok (.iload 9, 2) := by decide +kernel
theorem dX6_extendOn_101 : decode cX6_extendOn 101 = .ok (.if_icmp .ge 127, 3) := by decide +kernel
theorem dX6_extendOn_104 : decode cX6_extendOn 104 = .ok (.aload_n 0, 1) := by decide +kernel
theorem dX6_extendOn_105 : decode cX6_extendOn 105 = .ok (.getfield 29, 3) := by decide +kernel
theorem dX6_extendOn_108 : decode cX6_extendOn 108 = .ok (.iload 11, 2) := by decide +kernel
theorem dX6_extendOn_110 : decode cX6_extendOn 110 = .ok (.iaload, 1) := by decide +kernel
theorem dX6_extendOn_111 : decode cX6_extendOn 111 = .ok (.iload 10, 2) := by decide +kernel
theorem dX6_extendOn_113 : decode cX6_extendOn 113 = .ok (.if_icmp .ge 7, 3) := by decide +kernel
theorem dX6_extendOn_116 : decode cX6_extendOn 116 = .ok (.iconst 1, 1) := by decide +kernel
theorem dX6_extendOn_117 : decode cX6_extendOn 117 = .ok (.goto 4, 3) := by decide +kernel
theorem dX6_extendOn_120 : decode cX6_extendOn 120 = .ok (.iconst 0, 1) := by decide +kernel
theorem dX6_extendOn_121 : decode cX6_extendOn 121 = .ok (.istore 12, 2) := by decide +kernel
theorem dX6_extendOn_123 : decode cX6_extendOn 123 = .ok (.iload 12, 2) := by decide +kernel
theorem dX6_extendOn_125 : decode cX6_extendOn 125 = .ok (.ifCond .eq 8, 3) := by decide +kernel
theorem dX6_extendOn_128 : decode cX6_extendOn 128 = .ok (.iload 10, 2) := by decide +kernel
theorem dX6_extendOn_130 : decode cX6_extendOn 130 = .ok (.goto 10, 3) := by decide +kernel
theorem dX6_extendOn_133 : decode cX6_extendOn 133 = .ok (.aload_n 0, 1) := by decide +kernel
theorem dX6_extendOn_134 : decode cX6_extendOn 134 = .ok (.getfield 29, 3) := by decide +kernel
theorem dX6_extendOn_137 : decode cX6_extendOn 137 = .ok (.iload 11, 2) := by decide +kernel
theorem dX6_extendOn_139 : decode cX6_extendOn 139 = .ok (.iaload, 1) := by decide +kernel
theorem dX6_extendOn_140 : decode cX6_extendOn 140 = .ok (.istore 13, 2) := by decide +kernel
theorem dX6_extendOn_142 : decode cX6_extendOn 142 = .ok (.aload_n 0, 1) := by decide +kernel
theorem dX6_extendOn_143 : decode cX6_extendOn 143 = .ok (.getfield 32, 3) := by decide +kernel
theorem dX6_extendOn_146 : decode cX6_extendOn 146 = .ok (.iload 11, 2) := by decide +kernel
theorem dX6_extendOn_148 : decode cX6_extendOn 148 = .ok (.iaload, 1) := by decide +kernel
theorem dX6_extendOn_149 : decode cX6_extendOn 149 = .ok (.bipush 16, 2) := by decide +kernel
theorem dX6_extendOn_151 : decode cX6_extendOn 151 = .ok (.iload 13, 2) := by decide +kernel
theorem dX6_extendOn_153 : decode cX6_extendOn 153 = .ok (.isub, 1) := by decide +kernel
theorem dX6_extendOn_154 : decode cX6_extendOn 154 = .ok (.if_icmp .ge 13, 3) := by decide +kernel
theorem dX6_extendOn_157 : decode cX6_extendOn 157 = .ok (.aload_n 0, 1) := by decide +kernel
theorem dX6_extendOn_158 : decode cX6_extendOn 158 = .ok (.getfield 32, 3) := by decide +kernel
theorem dX6_extendOn_161 : decode cX6_extendOn 161 = .ok (.iload 11, 2) := by decide +kernel
theorem dX6_extendOn_163 : decode cX6_extendOn 163 = .ok (.iaload, 1) := by decide +kernel
theorem dX6_extendOn_164 : decode cX6_extendOn 164 = .ok (.goto 8, 3) := by decide +kernel
theorem dX6_extendOn_167 : decode cX6_extendOn 167 = .ok (.bipush 16, 2) := by decide +kernel
theorem dX6_extendOn_169 : decode cX6_extendOn 169 = .ok (.iload 13, 2) := by decide +kernel
theorem dX6_extendOn_171 : decode cX6_extendOn 171 = .ok (.isub, 1) := by decide +kernel
theorem dX6_extendOn_172 : decode cX6_extendOn 172 = .ok (.istore 14, 2) := by decide +kernel
theorem dX6_extendOn_174 : decode cX6_extendOn 174 = .ok (.iload 14, 2) := by decide +kernel
theorem dX6_extendOn_176 : decode cX6_extendOn 176 = .ok (.ifCond .le 46, 3) := by decide +kernel
theorem dX6_extendOn_179 : decode cX6_extendOn 179 = .ok (.aload_n 1, 1) := by decide +kernel
theorem dX6_extendOn_180 : decode cX6_extendOn 180 = .ok (.iload 4, 2) := by decide +kernel
theorem dX6_extendOn_182 : decode cX6_extendOn 182 = .ok (.iload 5, 2) := by decide +kernel
theorem dX6_extendOn_184 : decode cX6_extendOn 184 = .ok (.iload 13, 2) := by decide +kernel
theorem dX6_extendOn_186 : decode cX6_extendOn 186 = .ok (.iload 14, 2) := by decide +kernel
theorem dX6_extendOn_188 : decode cX6_extendOn 188 = .ok (.aload_n 0, 1) := by decide +kernel
theorem dX6_extendOn_189 : decode cX6_extendOn 189 = .ok (.getfield 35, 3) := by decide +kernel
theorem dX6_extendOn_192 : decode cX6_extendOn 192 = .ok (.iload 11, 2) := by decide +kernel
theorem dX6_extendOn_194 : decode cX6_extendOn 194 = .ok (.iaload, 1) := by decide +kernel
theorem dX6_extendOn_195 : decode cX6_extendOn 195 = .ok (.iload 12, 2) := by decide +kernel
theorem dX6_extendOn_197 : decode cX6_extendOn 197 = .ok (.ifCond .eq 7, 3) := by decide +kernel
theorem dX6_extendOn_200 : decode cX6_extendOn 200 = .ok (.iconst (-1), 1) := by decide +kernel
theorem dX6_extendOn_201 : decode cX6_extendOn 201 = .ok (.goto 10, 3) := by decide +kernel
theorem dX6_extendOn_204 : decode cX6_extendOn 204 = .ok (.aload_n 0, 1) := by decide +kernel
theorem dX6_extendOn_205 : decode cX6_extendOn 205 = .ok (.getfield 38, 3) := by decide +kernel
theorem dX6_extendOn_208 : decode cX6_extendOn 208 = .ok (.iload 11, 2) := by decide +kernel
theorem dX6_extendOn_210 : decode cX6_extendOn 210 = .ok (.iaload, 1) := by decide +kernel
theorem dX6_extendOn_211 : decode cX6_extendOn 211 = .ok (.invokestatic 121, 3) := by decide +kernel
theorem dX6_extendOn_214 : decode cX6_extendOn 214 = .ok (.pop, 1) := by decide +kernel
theorem dX6_extendOn_215 : decode cX6_extendOn 215 = .ok (.iload 13, 2) := by decide +kernel
theorem dX6_extendOn_217 : decode cX6_extendOn 217 = .ok (.iload 14, 2) := by decide +kernel
theorem dX6_extendOn_219 : decode cX6_extendOn 219 = .ok (.iadd, 1) := by decide +kernel
theorem dX6_extendOn_220 : decode cX6_extendOn 220 = .ok (.istore 10, 2) := by decide +kernel
theorem dX6_extendOn_222 : decode cX6_extendOn 222 = .ok (.iinc 11 1, 3) := by decide +kernel
theorem dX6_extendOn_225 : decode cX6_extendOn 225 = .ok (.goto (-128), 3) := by decide +kernel
theorem dX6_extendOn_228 : decode cX6_extendOn 228 = .ok (.iconst 1, 1) := by decide +kernel
theorem dX6_extendOn_229 : decode cX6_extendOn 229 = .ok (.iload 6, 2) := by decide +kernel
theorem dX6_extendOn_231 : decode cX6_extendOn 231 = .ok (.iload 8, 2) := by decide +kernel
theorem dX6_extendOn_233 : decode cX6_extendOn 233 = .ok (.iadd, 1) := by decide +kernel
theorem dX6_extendOn_234 : decode cX6_extendOn 234 = .ok (.ishl, 1) := by decide +kernel
theorem dX6_extendOn_235 : decode cX6_extendOn 235 = .ok (.iconst 1, 1) := by decide +kernel
theorem dX6_extendOn_236 : decode cX6_extendOn 236 = .ok (.iload 6, 2) := by decide +kernel
theorem dX6_extendOn_238 : decode cX6_extendOn 238 = .ok (.ishl, 1) := by decide +kernel
theorem dX6_extendOn_239 : decode cX6_extendOn 239 = .ok (.isub, 1) := by decide +kernel
theorem dX6_extendOn_240 : decode cX6_extendOn 240 = .ok (.istore 11, 2) := by decide +kernel
theorem dX6_extendOn_242 : decode cX6_extendOn 242 = .ok (.iconst 0, 1) := by decide +kernel
theorem dX6_extendOn_243 : decode cX6_extendOn 243 = .ok (.istore 12, 2) := by decide +kernel
theorem dX6_extendOn_245 : decode cX6_extendOn 245 = .ok (.iload 12, 2) := by decide +kernel
theorem dX6_extendOn_247 : decode cX6_extendOn 247 = .ok (.aload_n 1, 1) := by decide +kernel
theorem dX6_extendOn_248 : decode cX6_extendOn 248 = .ok (.iconst 1, 1) := by decide +kernel
theorem dX6_extendOn_249 : decode cX6_extendOn 249 = .ok (.iaload, 1) := by decide +kernel
theorem dX6_extendOn_250 : decode cX6_extendOn 250 = .ok (.if_icmp .ge 71, 3) := by decide +kernel
theorem dX6_extendOn_253 : decode cX6_extendOn 253 = .ok (.iload 7, 2) := by decide +kernel
theorem dX6_extendOn_255 : decode cX6_extendOn 255 = .ok (.iconst (-1), 1) := by decide +kernel
theorem dX6_extendOn_256 : decode cX6_extendOn 256 = .ok (.if_icmp .eq 59, 3) := by decide +kernel
theorem dX6_extendOn_259 : decode cX6_extendOn 259 = .ok (.aload_n 1, 1) := by decide +kernel
theorem dX6_extendOn_260 : decode cX6_extendOn 260 = .ok (.iload 12, 2) := by decide +kernel
theorem dX6_extendOn_262 : decode cX6_extendOn 262 = .ok (.iconst 0, 1) := by decide +kernel
theorem dX6_extendOn_263 : decode cX6_extendOn 263 = .ok (.invokestatic 55, 3) := by decide +kernel
theorem dX6_extendOn_266 : decode cX6_extendOn 266 = .ok (.iload 4, 2) := by decide +kernel
theorem dX6_extendOn_268 : decode cX6_extendOn 268 = .ok (.if_icmp .eq 47, 3) := by decide +kernel
theorem dX6_extendOn_271 : decode cX6_extendOn 271 = .ok (.aload_n 1, 1) := by decide +kernel
theorem dX6_extendOn_272 : decode cX6_extendOn 272 = .ok (.iload 12, 2) := by decide +kernel
theorem dX6_extendOn_274 : decode cX6_extendOn 274 = .ok (.iconst 1, 1) := by decide +kernel
theorem dX6_extendOn_275 : decode cX6_extendOn 275 = .ok (.invokestatic 55, 3) := by decide +kernel
theorem dX6_extendOn_278 : decode cX6_extendOn 278 = .ok (.iload 5, 2) := by decide +kernel
theorem dX6_extendOn_280 : decode cX6_extendOn 280 = .ok (.if_icmp .ne 35, 3) := by decide +kernel
theorem dX6_extendOn_283 : decode cX6_extendOn 283 = .ok (.aload_n 1, 1) := by decide +kernel
theorem dX6_extendOn_284 : decode cX6_extendOn 284 = .ok (.iload 12, 2) := by decide +kernel
theorem dX6_extendOn_286 : decode cX6_extendOn 286 = .ok (.iconst 5, 1) := by decide +kernel
theorem dX6_extendOn_287 : decode cX6_extendOn 287 = .ok (.invokestatic 55, 3) := by decide +kernel
theorem dX6_extendOn_290 : decode cX6_extendOn 290 = .ok (.iload 7, 2) := by decide +kernel
theorem dX6_extendOn_292 : decode cX6_extendOn 292 = .ok (.if_icmp .ne 23, 3) := by decide +kernel
theorem dX6_extendOn_295 : decode cX6_extendOn 295 = .ok (.aload_n 1, 1) := by decide +kernel
theorem dX6_extendOn_296 : decode cX6_extendOn 296 = .ok (.iload 12, 2) := by decide +kernel
theorem dX6_extendOn_298 : decode cX6_extendOn 298 = .ok (.invokestatic 88, 3) := by decide +kernel
theorem dX6_extendOn_301 : decode cX6_extendOn 301 = .ok (.iload 11, 2) := by decide +kernel
theorem dX6_extendOn_303 : decode cX6_extendOn 303 = .ok (.iand, 1) := by decide +kernel
theorem dX6_extendOn_304 : decode cX6_extendOn 304 = .ok (.ifCond .eq 11, 3) := by decide +kernel
theorem dX6_extendOn_307 : decode cX6_extendOn 307 = .ok (.aload_n 1, 1) := by decide +kernel
theorem dX6_extendOn_308 : decode cX6_extendOn 308 = .ok (.iload 12, 2) := by decide +kernel
theorem dX6_extendOn_310 : decode cX6_extendOn 310 = .ok (.iconst 5, 1) := by decide +kernel
theorem dX6_extendOn_311 : decode cX6_extendOn 311 = .ok (.iconst (-1), 1) := by decide +kernel
theorem dX6_extendOn_312 : decode cX6_extendOn 312 = .ok (.invokestatic 63, 3) := by decide +kernel
theorem dX6_extendOn_315 : decode cX6_extendOn 315 = .ok (.iinc 12 1, 3) := by decide +kernel
theorem dX6_extendOn_318 : decode cX6_extendOn 318 = .ok (.goto (-73), 3) := by decide +kernel
theorem dX6_extendOn_321 : decode cX6_extendOn 321 = .ok (.iload 8, 2) := by decide +kernel
theorem dX6_extendOn_323 : decode cX6_extendOn 323 = .ok (.ireturn, 1) := by decide +kernel
theorem dX6_leaveOn_0 : decode cX6_leaveOn 0 = .ok (.aload_n 0, 1) := by decide +kernel
theorem dX6_leaveOn_1 : decode cX6_leaveOn 1 = .ok (.bipush 13, 2) := by decide +kernel
theorem dX6_leaveOn_3 : decode cX6_leaveOn 3 = .ok (.iconst 3, 1) := by decide +kernel
theorem dX6_leaveOn_4 : decode cX6_leaveOn 4 = .ok (.iload_n 1, 1) := by decide +kernel
theorem dX6_leaveOn_5 : decode cX6_leaveOn 5 = .ok (.imul, 1) := by decide +kernel
theorem dX6_leaveOn_6 : decode cX6_leaveOn 6 = .ok (.iadd, 1) := by decide +kernel
theorem dX6_leaveOn_7 : decode cX6_leaveOn 7 = .ok (.iconst 1, 1) := by decide +kernel
theorem dX6_leaveOn_8 : decode cX6_leaveOn 8 = .ok (.iadd, 1) := by decide +kernel
theorem dX6_leaveOn_9 : decode cX6_leaveOn 9 = .ok (.aload_n 0, 1) := by decide +kernel
theorem dX6_leaveOn_10 : decode cX6_leaveOn 10 = .ok (.iconst 3, 1) := by decide +kernel
theorem dX6_leaveOn_11 : decode cX6_leaveOn 11 = .ok (.iaload, 1) := by decide +kernel
theorem dX6_leaveOn_12 : decode cX6_leaveOn 12 = .ok (.iload_n 2, 1) := by decide +kernel
theorem dX6_leaveOn_13 : decode cX6_leaveOn 13 = .ok (.iadd, 1) := by decide +kernel
theorem dX6_leaveOn_14 : decode cX6_leaveOn 14 = .ok (.iastore, 1) := by decide +kernel
theorem dX6_leaveOn_15 : decode cX6_leaveOn 15 = .ok (.iconst 0, 1) := by decide +kernel
theorem dX6_leaveOn_16 : decode cX6_leaveOn 16 = .ok (.istore_n 3, 1) := by decide +kernel
theorem dX6_leaveOn_17 : decode cX6_leaveOn 17 = .ok (.iconst 0, 1) := by decide +kernel
theorem dX6_leaveOn_18 : decode cX6_leaveOn 18 = .ok (.istore 4, 2) := by decide +kernel
theorem dX6_leaveOn_20 : decode cX6_leaveOn 20 = .ok (.iload 4, 2) := by decide +kernel
theorem dX6_leaveOn_22 : decode cX6_leaveOn 22 = .ok (.aload_n 0, 1) := by decide +kernel
theorem dX6_leaveOn_23 : decode cX6_leaveOn 23 = .ok (.iconst 1, 1) := by decide +kernel
theorem dX6_leaveOn_24 : decode cX6_leaveOn 24 = .ok (.iaload, 1) := by decide +kernel
theorem dX6_leaveOn_25 : decode cX6_leaveOn 25 = .ok (.if_icmp .ge 46, 3) := by decide +kernel
theorem dX6_leaveOn_28 : decode cX6_leaveOn 28 = .ok (.aload_n 0, 1) := by decide +kernel
theorem dX6_leaveOn_29 : decode cX6_leaveOn 29 = .ok (.iload 4, 2) := by decide +kernel
theorem dX6_leaveOn_31 : decode cX6_leaveOn 31 = .ok (.iconst 5, 1) := by decide +kernel
theorem dX6_leaveOn_32 : decode cX6_leaveOn 32 = .ok (.invokestatic 55, 3) := by decide +kernel
theorem dX6_leaveOn_35 : decode cX6_leaveOn 35 = .ok (.iload_n 1, 1) := by decide +kernel
theorem dX6_leaveOn_36 : decode cX6_leaveOn 36 = .ok (.if_icmp .ne 29, 3) := by decide +kernel
theorem dX6_leaveOn_39 : decode cX6_leaveOn 39 = .ok (.aload_n 0, 1) := by decide +kernel
theorem dX6_leaveOn_40 : decode cX6_leaveOn 40 = .ok (.iload 4, 2) := by decide +kernel
theorem dX6_leaveOn_42 : decode cX6_leaveOn 42 = .ok (.iconst 1, 1) := by decide +kernel
theorem dX6_leaveOn_43 : decode cX6_leaveOn 43 = .ok (.invokestatic 55, 3) := by decide +kernel
theorem dX6_leaveOn_46 : decode cX6_leaveOn 46 = .ok (.aload_n 0, 1) := by decide +kernel
theorem dX6_leaveOn_47 : decode cX6_leaveOn 47 = .ok (.iconst 3, 1) := by decide +kernel
theorem dX6_leaveOn_48 : decode cX6_leaveOn 48 = .ok (.iaload, 1) := by decide +kernel
theorem dX6_leaveOn_49 : decode cX6_leaveOn 49 = .ok (.iload_n 2, 1) := by decide +kernel
theorem dX6_leaveOn_50 : decode cX6_leaveOn 50 = .ok (.iadd, 1) := by decide +kernel
theorem dX6_leaveOn_51 : decode cX6_leaveOn 51 = .ok (.if_icmp .ge 14, 3) := by decide +kernel
theorem dX6_leaveOn_54 : decode cX6_leaveOn 54 = .ok (.aload_n 0, 1) := by decide +kernel
theorem dX6_leaveOn_55 : decode cX6_leaveOn 55 = .ok (.iload 4, 2) := by decide +kernel
theorem dX6_leaveOn_57 : decode cX6_leaveOn 57 = .ok (.iconst 5, 1) := by decide +kernel
theorem dX6_leaveOn_58 : decode cX6_leaveOn 58 = .ok (.iconst (-1), 1) := by decide +kernel
theorem dX6_leaveOn_59 : decode cX6_leaveOn 59 = .ok (.invokestatic 63, 3) := by decide +kernel
theorem dX6_leaveOn_62 : decode cX6_leaveOn 62 = .ok (.iinc 3 1, 3) := by decide +kernel
theorem dX6_leaveOn_65 : decode cX6_leaveOn 65 = .ok (.iinc 4 1, 3) := by decide +kernel
theorem dX6_leaveOn_68 : decode cX6_leaveOn 68 = .ok (.goto (-48), 3) := by decide +kernel
theorem dX6_leaveOn_71 : decode cX6_leaveOn 71 = .ok (.iload_n 3, 1) := by decide +kernel
theorem dX6_leaveOn_72 : decode cX6_leaveOn 72 = .ok (.ireturn, 1) := by decide +kernel
theorem dX6_putScript_0 : decode cX6_putScript 0 = .ok (.aload_n 0, 1) := by decide +kernel
theorem dX6_putScript_1 : decode cX6_putScript 1 = .ok (.iconst 2, 1) := by decide +kernel
theorem dX6_putScript_2 : decode cX6_putScript 2 = .ok (.iaload, 1) := by decide +kernel
theorem dX6_putScript_3 : decode cX6_putScript 3 = .ok (.sipush 640, 3) := by decide +kernel
theorem dX6_putScript_6 : decode cX6_putScript 6 = .ok (.if_icmp .ge 42, 3) := by decide +kernel
theorem dX6_putScript_9 : decode cX6_putScript 9 = .ok (.bipush 127, 2) := by decide +kernel
theorem dX6_putScript_11 : decode cX6_putScript 11 = .ok (.iconst 3, 1) := by decide +kernel
theorem dX6_putScript_12 : decode cX6_putScript 12 = .ok (.aload_n 0, 1) := by decide +kernel
theorem dX6_putScript_13 : decode cX6_putScript 13 = .ok (.iconst 2, 1) := by decide +kernel
theorem dX6_putScript_14 : decode cX6_putScript 14 = .ok (.iaload, 1) := by decide +kernel
theorem dX6_putScript_15 : decode cX6_putScript 15 = .ok (.imul, 1) := by decide +kernel
theorem dX6_putScript_16 : decode cX6_putScript 16 = .ok (.iadd, 1) := by decide +kernel
theorem dX6_putScript_17 : decode cX6_putScript 17 = .ok (.istore_n 3, 1) := by decide +kernel
theorem dX6_putScript_18 : decode cX6_putScript 18 = .ok (.aload_n 0, 1) := by decide +kernel
theorem dX6_putScript_19 : decode cX6_putScript 19 = .ok (.iload_n 3, 1) := by decide +kernel
theorem dX6_putScript_20 : decode cX6_putScript 20 = .ok (.iload_n 1, 1) := by decide +kernel
theorem dX6_putScript_21 : decode cX6_putScript 21 = .ok (.iastore, 1) := by decide +kernel
theorem dX6_putScript_22 : decode cX6_putScript 22 = .ok (.aload_n 0, 1) := by decide +kernel
theorem dX6_putScript_23 : decode cX6_putScript 23 = .ok (.iload_n 3, 1) := by decide +kernel
theorem dX6_putScript_24 : decode cX6_putScript 24 = .ok (.iconst 1, 1) := by decide +kernel
theorem dX6_putScript_25 : decode cX6_putScript 25 = .ok (.iadd, 1) := by decide +kernel
theorem dX6_putScript_26 : decode cX6_putScript 26 = .ok (.iload_n 2, 1) := by decide +kernel
theorem dX6_putScript_27 : decode cX6_putScript 27 = .ok (.iastore, 1) := by decide +kernel
theorem dX6_putScript_28 : decode cX6_putScript 28 = .ok (.aload_n 0, 1) := by decide +kernel
theorem dX6_putScript_29 : decode cX6_putScript 29 = .ok (.iload_n 3, 1) := by decide +kernel
theorem dX6_putScript_30 : decode cX6_putScript 30 = .ok (.iconst 2, 1) := by decide +kernel
theorem dX6_putScript_31 : decode cX6_putScript 31 = .ok (.iadd, 1) := by decide +kernel
theorem dX6_putScript_32 : decode cX6_putScript 32 = .ok (.aload_n 0, 1) := by decide +kernel
theorem dX6_putScript_33 : decode cX6_putScript 33 = .ok (.iconst 3, 1) := by decide +kernel
theorem dX6_putScript_34 : decode cX6_putScript 34 = .ok (.iaload, 1) := by decide +kernel
theorem dX6_putScript_35 : decode cX6_putScript 35 = .ok (.aload_n 0, 1) := by decide +kernel
theorem dX6_putScript_36 : decode cX6_putScript 36 = .ok (.bipush 11, 2) := by decide +kernel
theorem dX6_putScript_38 : decode cX6_putScript 38 = .ok (.iaload, 1) := by decide +kernel
theorem dX6_putScript_39 : decode cX6_putScript 39 = .ok (.iadd, 1) := by decide +kernel
theorem dX6_putScript_40 : decode cX6_putScript 40 = .ok (.iastore, 1) := by decide +kernel
theorem dX6_putScript_41 : decode cX6_putScript 41 = .ok (.aload_n 0, 1) := by decide +kernel
theorem dX6_putScript_42 : decode cX6_putScript 42 = .ok (.iconst 2, 1) := by decide +kernel
theorem dX6_putScript_43 : decode cX6_putScript 43 = .ok (.dup2, 1) := by decide +kernel
theorem dX6_putScript_44 : decode cX6_putScript 44 = .ok (.iaload, 1) := by decide +kernel
theorem dX6_putScript_45 : decode cX6_putScript 45 = .ok (.iconst 1, 1) := by decide +kernel
theorem dX6_putScript_46 : decode cX6_putScript 46 = .ok (.iadd, 1) := by decide +kernel
theorem dX6_putScript_47 : decode cX6_putScript 47 = .ok (.iastore, 1) := by decide +kernel
theorem dX6_putScript_48 : decode cX6_putScript 48 = .ok (.return_, 1) := by decide +kernel
theorem dX6_takeScript_0 : decode cX6_takeScript 0 = .ok (.aload_n 0, 1) := by decide +kernel
theorem dX6_takeScript_1 : decode cX6_takeScript 1 = .ok (.iconst 2, 1) := by decide +kernel
theorem dX6_takeScript_2 : decode cX6_takeScript 2 = .ok (.dup2, 1) := by decide +kernel
theorem dX6_takeScript_3 : decode cX6_takeScript 3 = .ok (.iaload, 1) := by decide +kernel
theorem dX6_takeScript_4 : decode cX6_takeScript 4 = .ok (.iconst 1, 1) := by decide +kernel
theorem dX6_takeScript_5 : decode cX6_takeScript 5 = .ok (.isub, 1) := by decide +kernel
theorem dX6_takeScript_6 : decode cX6_takeScript 6 = .ok (.iastore, 1) := by decide +kernel
theorem dX6_takeScript_7 : decode cX6_takeScript 7 = .ok (.iconst 3, 1) := by decide +kernel
theorem dX6_takeScript_8 : decode cX6_takeScript 8 = .ok (.iload_n 1, 1) := by decide +kernel
theorem dX6_takeScript_9 : decode cX6_takeScript 9 = .ok (.imul, 1) := by decide +kernel
theorem dX6_takeScript_10 : decode cX6_takeScript 10 = .ok (.istore_n 2, 1) := by decide +kernel
theorem dX6_takeScript_11 : decode cX6_takeScript 11 = .ok (.iload_n 2, 1) := by decide +kernel
theorem dX6_takeScript_12 : decode cX6_takeScript 12 = .ok (.iconst 3, 1) := by decide +kernel
theorem dX6_takeScript_13 : decode cX6_takeScript 13 = .ok (.aload_n 0, 1) := by decide +kernel
theorem dX6_takeScript_14 : decode cX6_takeScript 14 = .ok (.iconst 2, 1) := by decide +kernel
theorem dX6_takeScript_15 : decode cX6_takeScript 15 = .ok (.iaload, 1) := by decide +kernel
theorem dX6_takeScript_16 : decode cX6_takeScript 16 = .ok (.imul, 1) := by decide +kernel
theorem dX6_takeScript_17 : decode cX6_takeScript 17 = .ok (.if_icmp .ge 23, 3) := by decide +kernel
theorem dX6_takeScript_20 : decode cX6_takeScript 20 = .ok (.aload_n 0, 1) := by decide +kernel
theorem dX6_takeScript_21 : decode cX6_takeScript 21 = .ok (.bipush 127, 2) := by decide +kernel
theorem dX6_takeScript_23 : decode cX6_takeScript 23 = .ok (.iload_n 2, 1) := by decide +kernel
theorem dX6_takeScript_24 : decode cX6_takeScript 24 = .ok (.iadd, 1) := by decide +kernel
theorem dX6_takeScript_25 : decode cX6_takeScript 25 = .ok (.aload_n 0, 1) := by decide +kernel
theorem dX6_takeScript_26 : decode cX6_takeScript 26 = .ok (.bipush 127, 2) := by decide +kernel
theorem dX6_takeScript_28 : decode cX6_takeScript 28 = .ok (.iload_n 2, 1) := by decide +kernel
theorem dX6_takeScript_29 : decode cX6_takeScript 29 = .ok (.iadd, 1) := by decide +kernel
theorem dX6_takeScript_30 : decode cX6_takeScript 30 = .ok (.iconst 3, 1) := by decide +kernel
theorem dX6_takeScript_31 : decode cX6_takeScript 31 = .ok (.iadd, 1) := by decide +kernel
theorem dX6_takeScript_32 : decode cX6_takeScript 32 = .ok (.iaload, 1) := by decide +kernel
theorem dX6_takeScript_33 : decode cX6_takeScript 33 = .ok (.iastore, 1) := by decide +kernel
theorem dX6_takeScript_34 : decode cX6_takeScript 34 = .ok (.iinc 2 1, 3) := by decide +kernel
theorem dX6_takeScript_37 : decode cX6_takeScript 37 = .ok (.goto (-26), 3) := by decide +kernel
theorem dX6_takeScript_40 : decode cX6_takeScript 40 = .ok (.return_, 1) := by decide +kernel
theorem dX6_urgent_0 : decode cX6_urgent 0 = .ok (.iconst (-1), 1) := by decide +kernel
theorem dX6_urgent_1 : decode cX6_urgent 1 = .ok (.istore_n 2, 1) := by decide +kernel
theorem dX6_urgent_2 : decode cX6_urgent 2 = .ok (.iconst 0, 1) := by decide +kernel
theorem dX6_urgent_3 : decode cX6_urgent 3 = .ok (.istore_n 3, 1) := by decide +kernel
theorem dX6_urgent_4 : decode cX6_urgent 4 = .ok (.iload_n 3, 1) := by decide +kernel
theorem dX6_urgent_5 : decode cX6_urgent 5 = .ok (.aload_n 0, 1) := by decide +kernel
theorem dX6_urgent_6 : decode cX6_urgent 6 = .ok (.iconst 2, 1) := by decide +kernel
theorem dX6_urgent_7 : decode cX6_urgent 7 = .ok (.iaload, 1) := by decide +kernel
theorem dX6_urgent_8 : decode cX6_urgent 8 = .ok (.if_icmp .ge 67, 3) := by decide +kernel
theorem dX6_urgent_11 : decode cX6_urgent 11 = .ok (.aload_n 0, 1) := by decide +kernel
theorem dX6_urgent_12 : decode cX6_urgent 12 = .ok (.bipush 127, 2) := by decide +kernel
theorem dX6_urgent_14 : decode cX6_urgent 14 = .ok (.iconst 3, 1) := by decide +kernel
theorem dX6_urgent_15 : decode cX6_urgent 15 = .ok (.iload_n 3, 1) := by decide +kernel
theorem dX6_urgent_16 : decode cX6_urgent 16 = .ok (.imul, 1) := by decide +kernel
theorem dX6_urgent_17 : decode cX6_urgent 17 = .ok (.iadd, 1) := by decide +kernel
theorem dX6_urgent_18 : decode cX6_urgent 18 = .ok (.iaload, 1) := by decide +kernel
theorem dX6_urgent_19 : decode cX6_urgent 19 = .ok (.iload_n 1, 1) := by decide +kernel
theorem dX6_urgent_20 : decode cX6_urgent 20 = .ok (.if_icmp .ne 7, 3) := by decide +kernel
theorem dX6_urgent_23 : decode cX6_urgent 23 = .ok (.iconst 1, 1) := by decide +kernel
theorem dX6_urgent_24 : decode cX6_urgent 24 = .ok (.goto 4, 3) := by decide +kernel
theorem dX6_urgent_27 : decode cX6_urgent 27 = .ok (.iconst 0, 1) := by decide +kernel
theorem dX6_urgent_28 : decode cX6_urgent 28 = .ok (.istore 4, 2) := by decide +kernel
theorem dX6_urgent_30 : decode cX6_urgent 30 = .ok (.iload 4, 2) := by decide +kernel
theorem dX6_urgent_32 : decode cX6_urgent 32 = .ok (.ifCond .eq 35, 3) := by decide +kernel
theorem dX6_urgent_35 : decode cX6_urgent 35 = .ok (.iload_n 2, 1) := by decide +kernel
theorem dX6_urgent_36 : decode cX6_urgent 36 = .ok (.iconst (-1), 1) := by decide +kernel
theorem dX6_urgent_37 : decode cX6_urgent 37 = .ok (.if_icmp .eq 26, 3) := by decide +kernel
theorem dX6_urgent_40 : decode cX6_urgent 40 = .ok (.aload_n 0, 1) := by decide +kernel
theorem dX6_urgent_41 : decode cX6_urgent 41 = .ok (.bipush 127, 2) := by decide +kernel
theorem dX6_urgent_43 : decode cX6_urgent 43 = .ok (.iconst 3, 1) := by decide +kernel
theorem dX6_urgent_44 : decode cX6_urgent 44 = .ok (.iload_n 3, 1) := by decide +kernel
theorem dX6_urgent_45 : decode cX6_urgent 45 = .ok (.imul, 1) := by decide +kernel
theorem dX6_urgent_46 : decode cX6_urgent 46 = .ok (.iadd, 1) := by decide +kernel
theorem dX6_urgent_47 : decode cX6_urgent 47 = .ok (.iconst 2, 1) := by decide +kernel
theorem dX6_urgent_48 : decode cX6_urgent 48 = .ok (.iadd, 1) := by decide +kernel
theorem dX6_urgent_49 : decode cX6_urgent 49 = .ok (.iaload, 1) := by decide +kernel
theorem dX6_urgent_50 : decode cX6_urgent 50 = .ok (.aload_n 0, 1) := by decide +kernel
theorem dX6_urgent_51 : decode cX6_urgent 51 = .ok (.bipush 127, 2) := by decide +kernel
theorem dX6_urgent_53 : decode cX6_urgent 53 = .ok (.iconst 3, 1) := by decide +kernel
theorem dX6_urgent_54 : decode cX6_urgent 54 = .ok (.iload_n 2, 1) := by decide +kernel
theorem dX6_urgent_55 : decode cX6_urgent 55 = .ok (.imul, 1) := by decide +kernel
theorem dX6_urgent_56 : decode cX6_urgent 56 = .ok (.iadd, 1) := by decide +kernel
theorem dX6_urgent_57 : decode cX6_urgent 57 = .ok (.iconst 2, 1) := by decide +kernel
theorem dX6_urgent_58 : decode cX6_urgent 58 = .ok (.iadd, 1) := by decide +kernel
theorem dX6_urgent_59 : decode cX6_urgent 59 = .ok (.iaload, 1) := by decide +kernel
theorem dX6_urgent_60 : decode cX6_urgent 60 = .ok (.if_icmp .ge 7, 3) := by decide +kernel
theorem dX6_urgent_63 : decode cX6_urgent 63 = .ok (.iload_n 3, 1) := by decide +kernel
theorem dX6_urgent_64 : decode cX6_urgent 64 = .ok (.goto 4, 3) := by decide +kernel
theorem dX6_urgent_67 : decode cX6_urgent 67 = .ok (.iload_n 2, 1) := by decide +kernel
theorem dX6_urgent_68 : decode cX6_urgent 68 = .ok (.istore_n 2, 1) := by decide +kernel
theorem dX6_urgent_69 : decode cX6_urgent 69 = .ok (.iinc 3 1, 3) := by decide +kernel
theorem dX6_urgent_72 : decode cX6_urgent 72 = .ok (.goto (-68), 3) := by decide +kernel
theorem dX6_urgent_75 : decode cX6_urgent 75 = .ok (.iload_n 2, 1) := by decide +kernel
theorem dX6_urgent_76 : decode cX6_urgent 76 = .ok (.ireturn, 1) := by decide +kernel
theorem dX6_type_0 : decode cX6_type 0 = .ok (.iload_n 2, 1) := by decide +kernel
theorem dX6_type_1 : decode cX6_type 1 = .ok (.istore_n 3, 1) := by decide +kernel
theorem dX6_type_2 : decode cX6_type 2 = .ok (.aload_n 0, 1) := by decide +kernel
theorem dX6_type_3 : decode cX6_type 3 = .ok (.iload_n 1, 1) := by decide +kernel
theorem dX6_type_4 : decode cX6_type 4 = .ok (.invokestatic 125, 3) := by decide +kernel
theorem dX6_type_7 : decode cX6_type 7 = .ok (.istore 4, 2) := by decide +kernel
theorem dX6_type_9 : decode cX6_type 9 = .ok (.iload_n 3, 1) := by decide +kernel
theorem dX6_type_10 : decode cX6_type 10 = .ok (.ifCond .le 92, 3) := by decide +kernel
theorem dX6_type_13 : decode cX6_type 13 = .ok (.iload 4, 2) := by decide +kernel
theorem dX6_type_15 : decode cX6_type 15 = .ok (.iconst (-1), 1) := by decide +kernel
theorem dX6_type_16 : decode cX6_type 16 = .ok (.if_icmp .eq 86, 3) := by decide +kernel
theorem dX6_type_19 : decode cX6_type 19 = .ok (.bipush 127, 2) := by decide +kernel
theorem dX6_type_21 : decode cX6_type 21 = .ok (.iconst 3, 1) := by decide +kernel
theorem dX6_type_22 : decode cX6_type 22 = .ok (.iload 4, 2) := by decide +kernel
theorem dX6_type_24 : decode cX6_type 24 = .ok (.imul, 1) := by decide +kernel
theorem dX6_type_25 : decode cX6_type 25 = .ok (.iadd, 1) := by decide +kernel
theorem dX6_type_26 : decode cX6_type 26 = .ok (.iconst 1, 1) := by decide +kernel
theorem dX6_type_27 : decode cX6_type 27 = .ok (.iadd, 1) := by decide +kernel
theorem dX6_type_28 : decode cX6_type 28 = .ok (.istore 5, 2) := by decide +kernel
theorem dX6_type_30 : decode cX6_type 30 = .ok (.iload_n 3, 1) := by decide +kernel
theorem dX6_type_31 : decode cX6_type 31 = .ok (.aload_n 0, 1) := by decide +kernel
theorem dX6_type_32 : decode cX6_type 32 = .ok (.iload 5, 2) := by decide +kernel
theorem dX6_type_34 : decode cX6_type 34 = .ok (.iaload, 1) := by decide +kernel
theorem dX6_type_35 : decode cX6_type 35 = .ok (.if_icmp .ge 7, 3) := by decide +kernel
theorem dX6_type_38 : decode cX6_type 38 = .ok (.iload_n 3, 1) := by decide +kernel
theorem dX6_type_39 : decode cX6_type 39 = .ok (.goto 7, 3) := by decide +kernel
theorem dX6_type_42 : decode cX6_type 42 = .ok (.aload_n 0, 1) := by decide +kernel
theorem dX6_type_43 : decode cX6_type 43 = .ok (.iload 5, 2) := by decide +kernel
theorem dX6_type_45 : decode cX6_type 45 = .ok (.iaload, 1) := by decide +kernel
theorem dX6_type_46 : decode cX6_type 46 = .ok (.istore 6, 2) := by decide +kernel
theorem dX6_type_48 : decode cX6_type 48 = .ok (.aload_n 0, 1) := by decide +kernel
theorem dX6_type_49 : decode cX6_type 49 = .ok (.iload 5, 2) := by decide +kernel
theorem dX6_type_51 : decode cX6_type 51 = .ok (.dup2, 1) := by decide +kernel
theorem dX6_type_52 : decode cX6_type 52 = .ok (.iaload, 1) := by decide +kernel
theorem dX6_type_53 : decode cX6_type 53 = .ok (.iload 6, 2) := by decide +kernel
theorem dX6_type_55 : decode cX6_type 55 = .ok (.isub, 1) := by decide +kernel
theorem dX6_type_56 : decode cX6_type 56 = .ok (.iastore, 1) := by decide +kernel
theorem dX6_type_57 : decode cX6_type 57 = .ok (.iload_n 3, 1) := by decide +kernel
theorem dX6_type_58 : decode cX6_type 58 = .ok (.iload 6, 2) := by decide +kernel
theorem dX6_type_60 : decode cX6_type 60 = .ok (.isub, 1) := by decide +kernel
theorem dX6_type_61 : decode cX6_type 61 = .ok (.istore_n 3, 1) := by decide +kernel
theorem dX6_type_62 : decode cX6_type 62 = .ok (.aload_n 0, 1) := by decide +kernel
theorem dX6_type_63 : decode cX6_type 63 = .ok (.bipush 8, 2) := by decide +kernel
theorem dX6_type_65 : decode cX6_type 65 = .ok (.dup2, 1) := by decide +kernel
theorem dX6_type_66 : decode cX6_type 66 = .ok (.iaload, 1) := by decide +kernel
theorem dX6_type_67 : decode cX6_type 67 = .ok (.iload 6, 2) := by decide +kernel
theorem dX6_type_69 : decode cX6_type 69 = .ok (.iadd, 1) := by decide +kernel
theorem dX6_type_70 : decode cX6_type 70 = .ok (.iastore, 1) := by decide +kernel
theorem dX6_type_71 : decode cX6_type 71 = .ok (.aload_n 0, 1) := by decide +kernel
theorem dX6_type_72 : decode cX6_type 72 = .ok (.iload 5, 2) := by decide +kernel
theorem dX6_type_74 : decode cX6_type 74 = .ok (.iaload, 1) := by decide +kernel
theorem dX6_type_75 : decode cX6_type 75 = .ok (.ifCond .ne 17, 3) := by decide +kernel
theorem dX6_type_78 : decode cX6_type 78 = .ok (.aload_n 0, 1) := by decide +kernel
theorem dX6_type_79 : decode cX6_type 79 = .ok (.iload 4, 2) := by decide +kernel
theorem dX6_type_81 : decode cX6_type 81 = .ok (.invokestatic 128, 3) := by decide +kernel
theorem dX6_type_84 : decode cX6_type 84 = .ok (.aload_n 0, 1) := by decide +kernel
theorem dX6_type_85 : decode cX6_type 85 = .ok (.bipush 7, 2) := by decide +kernel
theorem dX6_type_87 : decode cX6_type 87 = .ok (.dup2, 1) := by decide +kernel
theorem dX6_type_88 : decode cX6_type 88 = .ok (.iaload, 1) := by decide +kernel
theorem dX6_type_89 : decode cX6_type 89 = .ok (.iconst 1, 1) := by decide +kernel
theorem dX6_type_90 : decode cX6_type 90 = .ok (.iadd, 1) := by decide +kernel
theorem dX6_type_91 : decode cX6_type 91 = .ok (.iastore, 1) := by decide +kernel
theorem dX6_type_92 : decode cX6_type 92 = .ok (.aload_n 0, 1) := by decide +kernel
theorem dX6_type_93 : decode cX6_type 93 = .ok (.iload_n 1, 1) := by decide +kernel
theorem dX6_type_94 : decode cX6_type 94 = .ok (.invokestatic 125, 3) := by decide +kernel
theorem dX6_type_97 : decode cX6_type 97 = .ok (.istore 4, 2) := by decide +kernel
theorem dX6_type_99 : decode cX6_type 99 = .ok (.goto (-90), 3) := by decide +kernel
theorem dX6_type_102 : decode cX6_type 102 = .ok (.return_, 1) := by decide +kernel
theorem dX6_payFor_0 : decode cX6_payFor 0 = .ok (.iload_n 2, 1) := by decide +kernel
theorem dX6_payFor_1 : decode cX6_payFor 1 = .ok (.bipush 8, 2) := by decide +kernel
theorem dX6_payFor_3 : decode cX6_payFor 3 = .ok (.if_icmp .le 15, 3) := by decide +kernel
theorem dX6_payFor_6 : decode cX6_payFor 6 = .ok (.bipush 16, 2) := by decide +kernel
theorem dX6_payFor_8 : decode cX6_payFor 8 = .ok (.iconst 3, 1) := by decide +kernel
theorem dX6_payFor_9 : decode cX6_payFor 9 = .ok (.iload_n 2, 1) := by decide +kernel
theorem dX6_payFor_10 : decode cX6_payFor 10 = .ok (.bipush 8, 2) := by decide +kernel
theorem dX6_payFor_12 : decode cX6_payFor 12 = .ok (.isub, 1) := by decide +kernel
theorem dX6_payFor_13 : decode cX6_payFor 13 = .ok (.imul, 1) := by decide +kernel
theorem dX6_payFor_14 : decode cX6_payFor 14 = .ok (.iadd, 1) := by decide +kernel
theorem dX6_payFor_15 : decode cX6_payFor 15 = .ok (.goto 6, 3) := by decide +kernel
theorem dX6_payFor_18 : decode cX6_payFor 18 = .ok (.iconst 2, 1) := by decide +kernel
theorem dX6_payFor_19 : decode cX6_payFor 19 = .ok (.iload_n 2, 1) := by decide +kernel
theorem dX6_payFor_20 : decode cX6_payFor 20 = .ok (.imul, 1) := by decide +kernel
theorem dX6_payFor_21 : decode cX6_payFor 21 = .ok (.istore_n 3, 1) := by decide +kernel
theorem dX6_payFor_22 : decode cX6_payFor 22 = .ok (.aload_n 0, 1) := by decide +kernel
theorem dX6_payFor_23 : decode cX6_payFor 23 = .ok (.bipush 13, 2) := by decide +kernel
theorem dX6_payFor_25 : decode cX6_payFor 25 = .ok (.iconst 3, 1) := by decide +kernel
theorem dX6_payFor_26 : decode cX6_payFor 26 = .ok (.iload_n 1, 1) := by decide +kernel
theorem dX6_payFor_27 : decode cX6_payFor 27 = .ok (.imul, 1) := by decide +kernel
theorem dX6_payFor_28 : decode cX6_payFor 28 = .ok (.iadd, 1) := by decide +kernel
theorem dX6_payFor_29 : decode cX6_payFor 29 = .ok (.iconst 2, 1) := by decide +kernel
theorem dX6_payFor_30 : decode cX6_payFor 30 = .ok (.iadd, 1) := by decide +kernel
theorem dX6_payFor_31 : decode cX6_payFor 31 = .ok (.dup2, 1) := by decide +kernel
theorem dX6_payFor_32 : decode cX6_payFor 32 = .ok (.iaload, 1) := by decide +kernel
theorem dX6_payFor_33 : decode cX6_payFor 33 = .ok (.iload_n 3, 1) := by decide +kernel
theorem dX6_payFor_34 : decode cX6_payFor 34 = .ok (.iadd, 1) := by decide +kernel
theorem dX6_payFor_35 : decode cX6_payFor 35 = .ok (.iastore, 1) := by decide +kernel
theorem dX6_payFor_36 : decode cX6_payFor 36 = .ok (.aload_n 0, 1) := by decide +kernel
theorem dX6_payFor_37 : decode cX6_payFor 37 = .ok (.iconst 5, 1) := by decide +kernel
theorem dX6_payFor_38 : decode cX6_payFor 38 = .ok (.dup2, 1) := by decide +kernel
theorem dX6_payFor_39 : decode cX6_payFor 39 = .ok (.iaload, 1) := by decide +kernel
theorem dX6_payFor_40 : decode cX6_payFor 40 = .ok (.iload_n 3, 1) := by decide +kernel
theorem dX6_payFor_41 : decode cX6_payFor 41 = .ok (.iadd, 1) := by decide +kernel
theorem dX6_payFor_42 : decode cX6_payFor 42 = .ok (.iastore, 1) := by decide +kernel
theorem dX6_payFor_43 : decode cX6_payFor 43 = .ok (.return_, 1) := by decide +kernel
theorem dX6_dayOn_0 : decode cX6_dayOn 0 = .ok (.aload_n 0, 1) := by decide +kernel
theorem dX6_dayOn_1 : decode cX6_dayOn 1 = .ok (.iconst 3, 1) := by decide +kernel
theorem dX6_dayOn_2 : decode cX6_dayOn 2 = .ok (.iaload, 1) := by decide +kernel
theorem dX6_dayOn_3 : decode cX6_dayOn 3 = .ok (.istore_n 1, 1) := by decide +kernel
theorem dX6_dayOn_4 : decode cX6_dayOn 4 = .ok (.iconst 0, 1) := by decide +kernel
theorem dX6_dayOn_5 : decode cX6_dayOn 5 = .ok (.istore_n 2, 1) := by decide +kernel
theorem dX6_dayOn_6 : decode cX6_dayOn 6 = .ok (.iload_n 2, 1) := by decide +kernel
theorem dX6_dayOn_7 : decode cX6_dayOn 7 = .ok (.aload_n 0, 1) := by decide +kernel
theorem dX6_dayOn_8 : decode cX6_dayOn 8 = .ok (.iconst 0, 1) := by decide +kernel
theorem dX6_dayOn_9 : decode cX6_dayOn 9 = .ok (.iaload, 1) := by decide +kernel
theorem dX6_dayOn_10 : decode cX6_dayOn 10 = .ok (.if_icmp .ge 24, 3) := by decide +kernel
theorem dX6_dayOn_13 : decode cX6_dayOn 13 = .ok (.aload_n 0, 1) := by decide +kernel
theorem dX6_dayOn_14 : decode cX6_dayOn 14 = .ok (.iload_n 2, 1) := by decide +kernel
theorem dX6_dayOn_15 : decode cX6_dayOn 15 = .ok (.aload_n 0, 1) := by decide +kernel
theorem dX6_dayOn_16 : decode cX6_dayOn 16 = .ok (.iload_n 2, 1) := by decide +kernel
theorem dX6_dayOn_17 : decode cX6_dayOn 17 = .ok (.iload_n 1, 1) := by decide +kernel
theorem dX6_dayOn_18 : decode cX6_dayOn 18 = .ok (.iconst (-1), 1) := by decide +kernel
theorem dX6_dayOn_19 : decode cX6_dayOn 19 = .ok (.invokestatic 91, 3) := by decide +kernel
theorem dX6_dayOn_22 : decode cX6_dayOn 22 = .ok (.invokestatic 102, 3) := by decide +kernel
theorem dX6_dayOn_25 : decode cX6_dayOn 25 = .ok (.invokestatic 132, 3) := by decide +kernel
theorem dX6_dayOn_28 : decode cX6_dayOn 28 = .ok (.iinc 2 1, 3) := by decide +kernel
theorem dX6_dayOn_31 : decode cX6_dayOn 31 = .ok (.goto (-25), 3) := by decide +kernel
theorem dX6_dayOn_34 : decode cX6_dayOn 34 = .ok (.iconst 0, 1) := by decide +kernel
theorem dX6_dayOn_35 : decode cX6_dayOn 35 = .ok (.istore_n 2, 1) := by decide +kernel
theorem dX6_dayOn_36 : decode cX6_dayOn 36 = .ok (.iload_n 2, 1) := by decide +kernel
theorem dX6_dayOn_37 : decode cX6_dayOn 37 = .ok (.aload_n 0, 1) := by decide +kernel
theorem dX6_dayOn_38 : decode cX6_dayOn 38 = .ok (.iconst 1, 1) := by decide +kernel
theorem dX6_dayOn_39 : decode cX6_dayOn 39 = .ok (.iaload, 1) := by decide +kernel
theorem dX6_dayOn_40 : decode cX6_dayOn 40 = .ok (.if_icmp .ge 62, 3) := by decide +kernel
theorem dX6_dayOn_43 : decode cX6_dayOn 43 = .ok (.aload_n 0, 1) := by decide +kernel
theorem dX6_dayOn_44 : decode cX6_dayOn 44 = .ok (.iload_n 2, 1) := by decide +kernel
theorem dX6_dayOn_45 : decode cX6_dayOn 45 = .ok (.iconst 1, 1) := by decide +kernel
theorem dX6_dayOn_46 : decode cX6_dayOn 46 = .ok (.invokestatic 55, 3) := by decide +kernel
theorem dX6_dayOn_49 : decode cX6_dayOn 49 = .ok (.iload_n 1, 1) := by decide +kernel
theorem dX6_dayOn_50 : decode cX6_dayOn 50 = .ok (.if_icmp .ne 52, 3) := by decide +kernel
theorem dX6_dayOn_53 : decode cX6_dayOn 53 = .ok (.aload_n 0, 1) := by decide +kernel
theorem dX6_dayOn_54 : decode cX6_dayOn 54 = .ok (.iload_n 2, 1) := by decide +kernel
theorem dX6_dayOn_55 : decode cX6_dayOn 55 = .ok (.iconst 5, 1) := by decide +kernel
theorem dX6_dayOn_56 : decode cX6_dayOn 56 = .ok (.invokestatic 55, 3) := by decide +kernel
theorem dX6_dayOn_59 : decode cX6_dayOn 59 = .ok (.iconst (-1), 1) := by decide +kernel
theorem dX6_dayOn_60 : decode cX6_dayOn 60 = .ok (.if_icmp .ne 13, 3) := by decide +kernel
theorem dX6_dayOn_63 : decode cX6_dayOn 63 = .ok (.aload_n 0, 1) := by decide +kernel
theorem dX6_dayOn_64 : decode cX6_dayOn 64 = .ok (.iconst 4, 1) := by decide +kernel
theorem dX6_dayOn_65 : decode cX6_dayOn 65 = .ok (.dup2, 1) := by decide +kernel
theorem dX6_dayOn_66 : decode cX6_dayOn 66 = .ok (.iaload, 1) := by decide +kernel
theorem dX6_dayOn_67 : decode cX6_dayOn 67 = .ok (.iconst 1, 1) := by decide +kernel
theorem dX6_dayOn_68 : decode cX6_dayOn 68 = .ok (.iadd, 1) := by decide +kernel
theorem dX6_dayOn_69 : decode cX6_dayOn 69 = .ok (.iastore, 1) := by decide +kernel
theorem dX6_dayOn_70 : decode cX6_dayOn 70 = .ok (.goto 26, 3) := by decide +kernel
theorem dX6_dayOn_73 : decode cX6_dayOn 73 = .ok (.aload_n 0, 1) := by decide +kernel
theorem dX6_dayOn_74 : decode cX6_dayOn 74 = .ok (.aload_n 0, 1) := by decide +kernel
theorem dX6_dayOn_75 : decode cX6_dayOn 75 = .ok (.iload_n 2, 1) := by decide +kernel
theorem dX6_dayOn_76 : decode cX6_dayOn 76 = .ok (.iconst 5, 1) := by decide +kernel
theorem dX6_dayOn_77 : decode cX6_dayOn 77 = .ok (.invokestatic 55, 3) := by decide +kernel
theorem dX6_dayOn_80 : decode cX6_dayOn 80 = .ok (.aload_n 0, 1) := by decide +kernel
theorem dX6_dayOn_81 : decode cX6_dayOn 81 = .ok (.iload_n 2, 1) := by decide +kernel
theorem dX6_dayOn_82 : decode cX6_dayOn 82 = .ok (.iconst 3, 1) := by decide +kernel
theorem dX6_dayOn_83 : decode cX6_dayOn 83 = .ok (.invokestatic 55, 3) := by decide +kernel
theorem dX6_dayOn_86 : decode cX6_dayOn 86 = .ok (.aload_n 0, 1) := by decide +kernel
theorem dX6_dayOn_87 : decode cX6_dayOn 87 = .ok (.iload_n 2, 1) := by decide +kernel
theorem dX6_dayOn_88 : decode cX6_dayOn 88 = .ok (.iconst 4, 1) := by decide +kernel
theorem dX6_dayOn_89 : decode cX6_dayOn 89 = .ok (.invokestatic 55, 3) := by decide +kernel
theorem dX6_dayOn_92 : decode cX6_dayOn 92 = .ok (.imul, 1) := by decide +kernel
theorem dX6_dayOn_93 : decode cX6_dayOn 93 = .ok (.invokestatic 136, 3) := by decide +kernel
theorem dX6_dayOn_96 : decode cX6_dayOn 96 = .ok (.iinc 2 1, 3) := by decide +kernel
theorem dX6_dayOn_99 : decode cX6_dayOn 99 = .ok (.goto (-63), 3) := by decide +kernel
theorem dX6_dayOn_102 : decode cX6_dayOn 102 = .ok (.iconst 0, 1) := by decide +kernel
theorem dX6_dayOn_103 : decode cX6_dayOn 103 = .ok (.istore_n 2, 1) := by decide +kernel
theorem dX6_dayOn_104 : decode cX6_dayOn 104 = .ok (.iload_n 2, 1) := by decide +kernel
theorem dX6_dayOn_105 : decode cX6_dayOn 105 = .ok (.aload_n 0, 1) := by decide +kernel
theorem dX6_dayOn_106 : decode cX6_dayOn 106 = .ok (.iconst 0, 1) := by decide +kernel
theorem dX6_dayOn_107 : decode cX6_dayOn 107 = .ok (.iaload, 1) := by decide +kernel
theorem dX6_dayOn_108 : decode cX6_dayOn 108 = .ok (.if_icmp .ge 45, 3) := by decide +kernel
theorem dX6_dayOn_111 : decode cX6_dayOn 111 = .ok (.iload_n 1, 1) := by decide +kernel
theorem dX6_dayOn_112 : decode cX6_dayOn 112 = .ok (.aload_n 0, 1) := by decide +kernel
theorem dX6_dayOn_113 : decode cX6_dayOn 113 = .ok (.iload_n 2, 1) := by decide +kernel
theorem dX6_dayOn_114 : decode cX6_dayOn 114 = .ok (.invokestatic 95, 3) := by decide +kernel
theorem dX6_dayOn_117 : decode cX6_dayOn 117 = .ok (.if_icmp .lt 30, 3) := by decide +kernel
theorem dX6_dayOn_120 : decode cX6_dayOn 120 = .ok (.aload_n 0, 1) := by decide +kernel
theorem dX6_dayOn_121 : decode cX6_dayOn 121 = .ok (.iload_n 2, 1) := by decide +kernel
theorem dX6_dayOn_122 : decode cX6_dayOn 122 = .ok (.bipush 16, 2) := by decide +kernel
theorem dX6_dayOn_124 : decode cX6_dayOn 124 = .ok (.aload_n 0, 1) := by decide +kernel
theorem dX6_dayOn_125 : decode cX6_dayOn 125 = .ok (.iload_n 2, 1) := by decide +kernel
theorem dX6_dayOn_126 : decode cX6_dayOn 126 = .ok (.iload_n 1, 1) := by decide +kernel
theorem dX6_dayOn_127 : decode cX6_dayOn 127 = .ok (.iconst (-1), 1) := by decide +kernel
theorem dX6_dayOn_128 : decode cX6_dayOn 128 = .ok (.invokestatic 91, 3) := by decide +kernel
theorem dX6_dayOn_131 : decode cX6_dayOn 131 = .ok (.invokestatic 102, 3) := by decide +kernel
theorem dX6_dayOn_134 : decode cX6_dayOn 134 = .ok (.isub, 1) := by decide +kernel
theorem dX6_dayOn_135 : decode cX6_dayOn 135 = .ok (.aload_n 0, 1) := by decide +kernel
theorem dX6_dayOn_136 : decode cX6_dayOn 136 = .ok (.bipush 13, 2) := by decide +kernel
theorem dX6_dayOn_138 : decode cX6_dayOn 138 = .ok (.iconst 3, 1) := by decide +kernel
theorem dX6_dayOn_139 : decode cX6_dayOn 139 = .ok (.iload_n 2, 1) := by decide +kernel
theorem dX6_dayOn_140 : decode cX6_dayOn 140 = .ok (.imul, 1) := by decide +kernel
theorem dX6_dayOn_141 : decode cX6_dayOn 141 = .ok (.iadd, 1) := by decide +kernel
theorem dX6_dayOn_142 : decode cX6_dayOn 142 = .ok (.iaload, 1) := by decide +kernel
theorem dX6_dayOn_143 : decode cX6_dayOn 143 = .ok (.imul, 1) := by decide +kernel
theorem dX6_dayOn_144 : decode cX6_dayOn 144 = .ok (.invokestatic 139, 3) := by decide +kernel
theorem dX6_dayOn_147 : decode cX6_dayOn 147 = .ok (.iinc 2 1, 3) := by decide +kernel
theorem dX6_dayOn_150 : decode cX6_dayOn 150 = .ok (.goto (-46), 3) := by decide +kernel
theorem dX6_dayOn_153 : decode cX6_dayOn 153 = .ok (.aload_n 0, 1) := by decide +kernel
theorem dX6_dayOn_154 : decode cX6_dayOn 154 = .ok (.iconst 1, 1) := by decide +kernel
theorem dX6_dayOn_155 : decode cX6_dayOn 155 = .ok (.iaload, 1) := by decide +kernel
theorem dX6_dayOn_156 : decode cX6_dayOn 156 = .ok (.ifCond .le 22, 3) := by decide +kernel
theorem dX6_dayOn_159 : decode cX6_dayOn 159 = .ok (.aload_n 0, 1) := by decide +kernel
theorem dX6_dayOn_160 : decode cX6_dayOn 160 = .ok (.iconst 0, 1) := by decide +kernel
theorem dX6_dayOn_161 : decode cX6_dayOn 161 = .ok (.iconst 1, 1) := by decide +kernel
theorem dX6_dayOn_162 : decode cX6_dayOn 162 = .ok (.invokestatic 55, 3) := by decide +kernel
theorem dX6_dayOn_165 : decode cX6_dayOn 165 = .ok (.iload_n 1, 1) := by decide +kernel
theorem dX6_dayOn_166 : decode cX6_dayOn 166 = .ok (.if_icmp .ne 12, 3) := by decide +kernel
theorem dX6_dayOn_169 : decode cX6_dayOn 169 = .ok (.aload_n 0, 1) := by decide +kernel
theorem dX6_dayOn_170 : decode cX6_dayOn 170 = .ok (.iconst 0, 1) := by decide +kernel
theorem dX6_dayOn_171 : decode cX6_dayOn 171 = .ok (.invokestatic 115, 3) := by decide +kernel
theorem dX6_dayOn_174 : decode cX6_dayOn 174 = .ok (.pop, 1) := by decide +kernel
theorem dX6_dayOn_175 : decode cX6_dayOn 175 = .ok (.goto (-22), 3) := by decide +kernel
theorem dX6_dayOn_178 : decode cX6_dayOn 178 = .ok (.iconst 0, 1) := by decide +kernel
theorem dX6_dayOn_179 : decode cX6_dayOn 179 = .ok (.istore_n 2, 1) := by decide +kernel
theorem dX6_dayOn_180 : decode cX6_dayOn 180 = .ok (.iload_n 2, 1) := by decide +kernel
theorem dX6_dayOn_181 : decode cX6_dayOn 181 = .ok (.aload_n 0, 1) := by decide +kernel
theorem dX6_dayOn_182 : decode cX6_dayOn 182 = .ok (.iconst 2, 1) := by decide +kernel
theorem dX6_dayOn_183 : decode cX6_dayOn 183 = .ok (.iaload, 1) := by decide +kernel
theorem dX6_dayOn_184 : decode cX6_dayOn 184 = .ok (.if_icmp .ge 38, 3) := by decide +kernel
theorem dX6_dayOn_187 : decode cX6_dayOn 187 = .ok (.aload_n 0, 1) := by decide +kernel
theorem dX6_dayOn_188 : decode cX6_dayOn 188 = .ok (.bipush 6, 2) := by decide +kernel
theorem dX6_dayOn_190 : decode cX6_dayOn 190 = .ok (.dup2, 1) := by decide +kernel
theorem dX6_dayOn_191 : decode cX6_dayOn 191 = .ok (.iaload, 1) := by decide +kernel
theorem dX6_dayOn_192 : decode cX6_dayOn 192 = .ok (.aload_n 0, 1) := by decide +kernel
theorem dX6_dayOn_193 : decode cX6_dayOn 193 = .ok (.bipush 127, 2) := by decide +kernel
theorem dX6_dayOn_195 : decode cX6_dayOn 195 = .ok (.iconst 3, 1) := by decide +kernel
theorem dX6_dayOn_196 : decode cX6_dayOn 196 = .ok (.iload_n 2, 1) := by decide +kernel
theorem dX6_dayOn_197 : decode cX6_dayOn 197 = .ok (.imul, 1) := by decide +kernel
theorem dX6_dayOn_198 : decode cX6_dayOn 198 = .ok (.iadd, 1) := by decide +kernel
theorem dX6_dayOn_199 : decode cX6_dayOn 199 = .ok (.iconst 2, 1) := by decide +kernel
theorem dX6_dayOn_200 : decode cX6_dayOn 200 = .ok (.iadd, 1) := by decide +kernel
theorem dX6_dayOn_201 : decode cX6_dayOn 201 = .ok (.iaload, 1) := by decide +kernel
theorem dX6_dayOn_202 : decode cX6_dayOn 202 = .ok (.iload_n 1, 1) := by decide +kernel
theorem dX6_dayOn_203 : decode cX6_dayOn 203 = .ok (.if_icmp .gt 10, 3) := by decide +kernel
theorem dX6_dayOn_206 : decode cX6_dayOn 206 = .ok (.aload_n 0, 1) := by decide +kernel
theorem dX6_dayOn_207 : decode cX6_dayOn 207 = .ok (.bipush 12, 2) := by decide +kernel
theorem dX6_dayOn_209 : decode cX6_dayOn 209 = .ok (.iaload, 1) := by decide +kernel
theorem dX6_dayOn_210 : decode cX6_dayOn 210 = .ok (.goto 4, 3) := by decide +kernel
theorem dX6_dayOn_213 : decode cX6_dayOn 213 = .ok (.iconst 0, 1) := by decide +kernel
theorem dX6_dayOn_214 : decode cX6_dayOn 214 = .ok (.iadd, 1) := by decide +kernel
theorem dX6_dayOn_215 : decode cX6_dayOn 215 = .ok (.iastore, 1) := by decide +kernel
theorem dX6_dayOn_216 : decode cX6_dayOn 216 = .ok (.iinc 2 1, 3) := by decide +kernel
theorem dX6_dayOn_219 : decode cX6_dayOn 219 = .ok (.goto (-39), 3) := by decide +kernel
theorem dX6_dayOn_222 : decode cX6_dayOn 222 = .ok (.aload_n 0, 1) := by decide +kernel
theorem dX6_dayOn_223 : decode cX6_dayOn 223 = .ok (.iconst 3, 1) := by decide +kernel
theorem dX6_dayOn_224 : decode cX6_dayOn 224 = .ok (.dup2, 1) := by decide +kernel
theorem dX6_dayOn_225 : decode cX6_dayOn 225 = .ok (.iaload, 1) := by decide +kernel
theorem dX6_dayOn_226 : decode cX6_dayOn 226 = .ok (.iconst 1, 1) := by decide +kernel
theorem dX6_dayOn_227 : decode cX6_dayOn 227 = .ok (.iadd, 1) := by decide +kernel
theorem dX6_dayOn_228 : decode cX6_dayOn 228 = .ok (.iastore, 1) := by decide +kernel
theorem dX6_dayOn_229 : decode cX6_dayOn 229 = .ok (.return_, 1) := by decide +kernel
theorem dX6_runOn_0 : decode cX6_runOn 0 = .ok (.aload_n 0, 1) := by decide +kernel
theorem dX6_runOn_1 : decode cX6_runOn 1 = .ok (.bipush 6, 2) := by decide +kernel
theorem dX6_runOn_3 : decode cX6_runOn 3 = .ok (.iaload, 1) := by decide +kernel
theorem dX6_runOn_4 : decode cX6_runOn 4 = .ok (.istore_n 2, 1) := by decide +kernel
theorem dX6_runOn_5 : decode cX6_runOn 5 = .ok (.iconst 0, 1) := by decide +kernel
theorem dX6_runOn_6 : decode cX6_runOn 6 = .ok (.istore_n 3, 1) := by decide +kernel
theorem dX6_runOn_7 : decode cX6_runOn 7 = .ok (.iload_n 3, 1) := by decide +kernel
theorem dX6_runOn_8 : decode cX6_runOn 8 = .ok (.iload_n 1, 1) := by decide +kernel
theorem dX6_runOn_9 : decode cX6_runOn 9 = .ok (.if_icmp .ge 13, 3) := by decide +kernel
theorem dX6_runOn_12 : decode cX6_runOn 12 = .ok (.aload_n 0, 1) := by decide +kernel
theorem dX6_runOn_13 : decode cX6_runOn 13 = .ok (.invokestatic 142, 3) := by decide +kernel
theorem dX6_runOn_16 : decode cX6_runOn 16 = .ok (.iinc 3 1, 3) := by decide +kernel
theorem dX6_runOn_19 : decode cX6_runOn 19 = .ok (.goto (-12), 3) := by decide +kernel
theorem dX6_runOn_22 : decode cX6_runOn 22 = .ok (.aload_n 0, 1) := by decide +kernel
theorem dX6_runOn_23 : decode cX6_runOn 23 = .ok (.bipush 6, 2) := by decide +kernel
theorem dX6_runOn_25 : decode cX6_runOn 25 = .ok (.iaload, 1) := by decide +kernel
theorem dX6_runOn_26 : decode cX6_runOn 26 = .ok (.iload_n 2, 1) := by decide +kernel
theorem dX6_runOn_27 : decode cX6_runOn 27 = .ok (.isub, 1) := by decide +kernel
theorem dX6_runOn_28 : decode cX6_runOn 28 = .ok (.ireturn, 1) := by decide +kernel
theorem dX6_canHire_0 : decode cX6_canHire 0 = .ok (.aload_n 0, 1) := by decide +kernel
theorem dX6_canHire_1 : decode cX6_canHire 1 = .ok (.iconst 0, 1) := by decide +kernel
theorem dX6_canHire_2 : decode cX6_canHire 2 = .ok (.iaload, 1) := by decide +kernel
theorem dX6_canHire_3 : decode cX6_canHire 3 = .ok (.bipush 6, 2) := by decide +kernel
theorem dX6_canHire_5 : decode cX6_canHire 5 = .ok (.if_icmp .ge 7, 3) := by decide +kernel
theorem dX6_canHire_8 : decode cX6_canHire 8 = .ok (.iconst 1, 1) := by decide +kernel
theorem dX6_canHire_9 : decode cX6_canHire 9 = .ok (.goto 4, 3) := by decide +kernel
theorem dX6_canHire_12 : decode cX6_canHire 12 = .ok (.iconst 0, 1) := by decide +kernel
theorem dX6_canHire_13 : decode cX6_canHire 13 = .ok (.ireturn, 1) := by decide +kernel
theorem dX6_hireOn_0 : decode cX6_hireOn 0 = .ok (.aload_n 0, 1) := by decide +kernel
theorem dX6_hireOn_1 : decode cX6_hireOn 1 = .ok (.iconst 0, 1) := by decide +kernel
theorem dX6_hireOn_2 : decode cX6_hireOn 2 = .ok (.iaload, 1) := by decide +kernel
theorem dX6_hireOn_3 : decode cX6_hireOn 3 = .ok (.istore_n 2, 1) := by decide +kernel
theorem dX6_hireOn_4 : decode cX6_hireOn 4 = .ok (.aload_n 0, 1) := by decide +kernel
theorem dX6_hireOn_5 : decode cX6_hireOn 5 = .ok (.bipush 13, 2) := by decide +kernel
theorem dX6_hireOn_7 : decode cX6_hireOn 7 = .ok (.iconst 3, 1) := by decide +kernel
theorem dX6_hireOn_8 : decode cX6_hireOn 8 = .ok (.iload_n 2, 1) := by decide +kernel
theorem dX6_hireOn_9 : decode cX6_hireOn 9 = .ok (.imul, 1) := by decide +kernel
theorem dX6_hireOn_10 : decode cX6_hireOn 10 = .ok (.iadd, 1) := by decide +kernel
theorem dX6_hireOn_11 : decode cX6_hireOn 11 = .ok (.iload_n 1, 1) := by decide +kernel
theorem dX6_hireOn_12 : decode cX6_hireOn 12 = .ok (.iastore, 1) := by decide +kernel
theorem dX6_hireOn_13 : decode cX6_hireOn 13 = .ok (.aload_n 0, 1) := by decide +kernel
theorem dX6_hireOn_14 : decode cX6_hireOn 14 = .ok (.bipush 13, 2) := by decide +kernel
theorem dX6_hireOn_16 : decode cX6_hireOn 16 = .ok (.iconst 3, 1) := by decide +kernel
theorem dX6_hireOn_17 : decode cX6_hireOn 17 = .ok (.iload_n 2, 1) := by decide +kernel
theorem dX6_hireOn_18 : decode cX6_hireOn 18 = .ok (.imul, 1) := by decide +kernel
theorem dX6_hireOn_19 : decode cX6_hireOn 19 = .ok (.iadd, 1) := by decide +kernel
theorem dX6_hireOn_20 : decode cX6_hireOn 20 = .ok (.iconst 1, 1) := by decide +kernel
theorem dX6_hireOn_21 : decode cX6_hireOn 21 = .ok (.iadd, 1) := by decide +kernel
theorem dX6_hireOn_22 : decode cX6_hireOn 22 = .ok (.iconst 0, 1) := by decide +kernel
theorem dX6_hireOn_23 : decode cX6_hireOn 23 = .ok (.iastore, 1) := by decide +kernel
theorem dX6_hireOn_24 : decode cX6_hireOn 24 = .ok (.aload_n 0, 1) := by decide +kernel
theorem dX6_hireOn_25 : decode cX6_hireOn 25 = .ok (.bipush 13, 2) := by decide +kernel
theorem dX6_hireOn_27 : decode cX6_hireOn 27 = .ok (.iconst 3, 1) := by decide +kernel
theorem dX6_hireOn_28 : decode cX6_hireOn 28 = .ok (.iload_n 2, 1) := by decide +kernel
theorem dX6_hireOn_29 : decode cX6_hireOn 29 = .ok (.imul, 1) := by decide +kernel
theorem dX6_hireOn_30 : decode cX6_hireOn 30 = .ok (.iadd, 1) := by decide +kernel
theorem dX6_hireOn_31 : decode cX6_hireOn 31 = .ok (.iconst 2, 1) := by decide +kernel
theorem dX6_hireOn_32 : decode cX6_hireOn 32 = .ok (.iadd, 1) := by decide +kernel
theorem dX6_hireOn_33 : decode cX6_hireOn 33 = .ok (.iconst 0, 1) := by decide +kernel
theorem dX6_hireOn_34 : decode cX6_hireOn 34 = .ok (.iastore, 1) := by decide +kernel
theorem dX6_hireOn_35 : decode cX6_hireOn 35 = .ok (.aload_n 0, 1) := by decide +kernel
theorem dX6_hireOn_36 : decode cX6_hireOn 36 = .ok (.iconst 0, 1) := by decide +kernel
theorem dX6_hireOn_37 : decode cX6_hireOn 37 = .ok (.dup2, 1) := by decide +kernel
theorem dX6_hireOn_38 : decode cX6_hireOn 38 = .ok (.iaload, 1) := by decide +kernel
theorem dX6_hireOn_39 : decode cX6_hireOn 39 = .ok (.iconst 1, 1) := by decide +kernel
theorem dX6_hireOn_40 : decode cX6_hireOn 40 = .ok (.iadd, 1) := by decide +kernel
theorem dX6_hireOn_41 : decode cX6_hireOn 41 = .ok (.iastore, 1) := by decide +kernel
theorem dX6_hireOn_42 : decode cX6_hireOn 42 = .ok (.iload_n 2, 1) := by decide +kernel
theorem dX6_hireOn_43 : decode cX6_hireOn 43 = .ok (.ireturn, 1) := by decide +kernel
theorem dX6_isSetting_0 : decode cX6_isSetting 0 = .ok (.iload_n 0, 1) := by decide +kernel
theorem dX6_isSetting_1 : decode cX6_isSetting 1 = .ok (.i2l, 1) := by decide +kernel
theorem dX6_isSetting_2 : decode cX6_isSetting 2 = .ok (.lconst 0, 1) := by decide +kernel
theorem dX6_isSetting_3 : decode cX6_isSetting 3 = .ok (.ldc2_w 145, 3) := by decide +kernel
theorem dX6_isSetting_6 : decode cX6_isSetting 6 = .ok (.invokestatic 49, 3) := by decide +kernel
theorem dX6_isSetting_9 : decode cX6_isSetting 9 = .ok (.ifCond .eq 50, 3) := by decide +kernel
theorem dX6_isSetting_12 : decode cX6_isSetting 12 = .ok (.iload_n 1, 1) := by decide +kernel
theorem dX6_isSetting_13 : decode cX6_isSetting 13 = .ok (.i2l, 1) := by decide +kernel
theorem dX6_isSetting_14 : decode cX6_isSetting 14 = .ok (.iload_n 0, 1) := by decide +kernel
theorem dX6_isSetting_15 : decode cX6_isSetting 15 = .ok (.iconst 2, 1) := by decide +kernel
theorem dX6_isSetting_16 : decode cX6_isSetting 16 = .ok (.if_icmp .ge 7, 3) := by decide +kernel
theorem dX6_isSetting_19 : decode cX6_isSetting 19 = .ok (.lconst 1, 1) := by decide +kernel
theorem dX6_isSetting_20 : decode cX6_isSetting 20 = .ok (.goto 4, 3) := by decide +kernel
theorem dX6_isSetting_23 : decode cX6_isSetting 23 = .ok (.lconst 0, 1) := by decide +kernel
theorem dX6_isSetting_24 : decode cX6_isSetting 24 = .ok (.iload_n 0, 1) := by decide +kernel
theorem dX6_isSetting_25 : decode cX6_isSetting 25 = .ok (.iconst 2, 1) := by decide +kernel
theorem dX6_isSetting_26 : decode cX6_isSetting 26 = .ok (.if_icmp .ge 9, 3) := by decide +kernel
theorem dX6_isSetting_29 : decode cX6_isSetting 29 = .ok (.ldc2_w 147, 3) := by decide +kernel
theorem dX6_isSetting_32 : decode cX6_isSetting 32 = .ok (.goto 17, 3) := by decide +kernel
theorem dX6_isSetting_35 : decode cX6_isSetting 35 = .ok (.iload_n 0, 1) := by decide +kernel
theorem dX6_isSetting_36 : decode cX6_isSetting 36 = .ok (.iconst 2, 1) := by decide +kernel
theorem dX6_isSetting_37 : decode cX6_isSetting 37 = .ok (.if_icmp .ne 9, 3) := by decide +kernel
theorem dX6_isSetting_40 : decode cX6_isSetting 40 = .ok (.ldc2_w 149, 3) := by decide +kernel
theorem dX6_isSetting_43 : decode cX6_isSetting 43 = .ok (.goto 6, 3) := by decide +kernel
theorem dX6_isSetting_46 : decode cX6_isSetting 46 = .ok (.ldc2_w 151, 3) := by decide +kernel
theorem dX6_isSetting_49 : decode cX6_isSetting 49 = .ok (.invokestatic 49, 3) := by decide +kernel
theorem dX6_isSetting_52 : decode cX6_isSetting 52 = .ok (.ifCond .eq 7, 3) := by decide +kernel
theorem dX6_isSetting_55 : decode cX6_isSetting 55 = .ok (.iconst 1, 1) := by decide +kernel
theorem dX6_isSetting_56 : decode cX6_isSetting 56 = .ok (.goto 4, 3) := by decide +kernel
theorem dX6_isSetting_59 : decode cX6_isSetting 59 = .ok (.iconst 0, 1) := by decide +kernel
theorem dX6_isSetting_60 : decode cX6_isSetting 60 = .ok (.ireturn, 1) := by decide +kernel
theorem dX6_append_0 : decode cX6_append 0 = .ok (.aload_n 0, 1) := by decide +kernel
theorem dX6_append_1 : decode cX6_append 1 = .ok (.iload_n 1, 1) := by decide +kernel
theorem dX6_append_2 : decode cX6_append 2 = .ok (.i2l, 1) := by decide +kernel
theorem dX6_append_3 : decode cX6_append 3 = .ok (.lconst 0, 1) := by decide +kernel
theorem dX6_append_4 : decode cX6_append 4 = .ok (.ldc2_w 153, 3) := by decide +kernel
theorem dX6_append_7 : decode cX6_append 7 = .ok (.invokestatic 49, 3) := by decide +kernel
theorem dX6_append_10 : decode cX6_append 10 = .ok (.ifCond .ne 7, 3) := by decide +kernel
theorem dX6_append_13 : decode cX6_append 13 = .ok (.iconst 1, 1) := by decide +kernel
theorem dX6_append_14 : decode cX6_append 14 = .ok (.goto 17, 3) := by decide +kernel
theorem dX6_append_17 : decode cX6_append 17 = .ok (.aload_n 0, 1) := by decide +kernel
theorem dX6_append_18 : decode cX6_append 18 = .ok (.getfield 155, 3) := by decide +kernel
theorem dX6_append_21 : decode cX6_append 21 = .ok (.bipush 120, 2) := by decide +kernel
theorem dX6_append_23 : decode cX6_append 23 = .ok (.if_icmp .ne 7, 3) := by decide +kernel
theorem dX6_append_26 : decode cX6_append 26 = .ok (.iconst 2, 1) := by decide +kernel
theorem dX6_append_27 : decode cX6_append 27 = .ok (.goto 4, 3) := by decide +kernel
theorem dX6_append_30 : decode cX6_append 30 = .ok (.iconst 0, 1) := by decide +kernel
theorem dX6_append_31 : decode cX6_append 31 = .ok (.invokevirtual 158, 3) := by decide +kernel
theorem dX6_append_34 : decode cX6_append 34 = .ok (.ifCond .eq 5, 3) := by decide +kernel
theorem dX6_append_37 : decode cX6_append 37 = .ok (.iconst 0, 1) := by decide +kernel
theorem dX6_append_38 : decode cX6_append 38 = .ok (.ireturn, 1) := by decide +kernel
theorem dX6_append_39 : decode cX6_append 39 = .ok (.aload_n 0, 1) := by decide +kernel
theorem dX6_append_40 : decode cX6_append 40 = .ok (.getfield 7, 3) := by decide +kernel
theorem dX6_append_43 : decode cX6_append 43 = .ok (.aload_n 0, 1) := by decide +kernel
theorem dX6_append_44 : decode cX6_append 44 = .ok (.getfield 155, 3) := by decide +kernel
theorem dX6_append_47 : decode cX6_append 47 = .ok (.iload_n 1, 1) := by decide +kernel
theorem dX6_append_48 : decode cX6_append 48 = .ok (.iastore, 1) := by decide +kernel
theorem dX6_append_49 : decode cX6_append 49 = .ok (.aload_n 0, 1) := by decide +kernel
theorem dX6_append_50 : decode cX6_append 50 = .ok (.dup, 1) := by decide +kernel
theorem dX6_append_51 : decode cX6_append 51 = .ok (.getfield 155, 3) := by decide +kernel
theorem dX6_append_54 : decode cX6_append 54 = .ok (.iconst 1, 1) := by decide +kernel
theorem dX6_append_55 : decode cX6_append 55 = .ok (.iadd, 1) := by decide +kernel
theorem dX6_append_56 : decode cX6_append 56 = .ok (.putfield 155, 3) := by decide +kernel
theorem dX6_append_59 : decode cX6_append 59 = .ok (.aload_n 0, 1) := by decide +kernel
theorem dX6_append_60 : decode cX6_append 60 = .ok (.getfield 155, 3) := by decide +kernel
theorem dX6_append_63 : decode cX6_append 63 = .ok (.ireturn, 1) := by decide +kernel
theorem dX6_clearText_0 : decode cX6_clearText 0 = .ok (.aload_n 0, 1) := by decide +kernel
theorem dX6_clearText_1 : decode cX6_clearText 1 = .ok (.iconst 0, 1) := by decide +kernel
theorem dX6_clearText_2 : decode cX6_clearText 2 = .ok (.putfield 45, 3) := by decide +kernel
theorem dX6_clearText_5 : decode cX6_clearText 5 = .ok (.aload_n 0, 1) := by decide +kernel
theorem dX6_clearText_6 : decode cX6_clearText 6 = .ok (.getfield 155, 3) := by decide +kernel
theorem dX6_clearText_9 : decode cX6_clearText 9 = .ok (.istore_n 1, 1) := by decide +kernel
theorem dX6_clearText_10 : decode cX6_clearText 10 = .ok (.aload_n 0, 1) := by decide +kernel
theorem dX6_clearText_11 : decode cX6_clearText 11 = .ok (.iconst 0, 1) := by decide +kernel
theorem dX6_clearText_12 : decode cX6_clearText 12 = .ok (.putfield 155, 3) := by decide +kernel
theorem dX6_clearText_15 : decode cX6_clearText 15 = .ok (.iload_n 1, 1) := by decide +kernel
theorem dX6_clearText_16 : decode cX6_clearText 16 = .ok (.ireturn, 1) := by decide +kernel
theorem dX6_figures_0 : decode cX6_figures 0 = .ok (.iconst 0, 1) := by decide +kernel
theorem dX6_figures_1 : decode cX6_figures 1 = .ok (.istore 5, 2) := by decide +kernel
theorem dX6_figures_3 : decode cX6_figures 3 = .ok (.iload_n 2, 1) := by decide +kernel
theorem dX6_figures_4 : decode cX6_figures 4 = .ok (.iconst 2, 1) := by decide +kernel
theorem dX6_figures_5 : decode cX6_figures 5 = .ok (.if_icmp .ne 8, 3) := by decide +kernel
theorem dX6_figures_8 : decode cX6_figures 8 = .ok (.bipush 10, 2) := by decide +kernel
theorem dX6_figures_10 : decode cX6_figures 10 = .ok (.goto 4, 3) := by decide +kernel
theorem dX6_figures_13 : decode cX6_figures 13 = .ok (.iconst 1, 1) := by decide +kernel
theorem dX6_figures_14 : decode cX6_figures 14 = .ok (.istore 6, 2) := by decide +kernel
theorem dX6_figures_16 : decode cX6_figures 16 = .ok (.iload 6, 2) := by decide +kernel
theorem dX6_figures_18 : decode cX6_figures 18 = .ok (.ifCond .le 104, 3) := by decide +kernel
theorem dX6_figures_21 : decode cX6_figures 21 = .ok (.iload_n 1, 1) := by decide +kernel
theorem dX6_figures_22 : decode cX6_figures 22 = .ok (.iconst (-1), 1) := by decide +kernel
theorem dX6_figures_23 : decode cX6_figures 23 = .ok (.if_icmp .eq 99, 3) := by decide +kernel
theorem dX6_figures_26 : decode cX6_figures 26 = .ok (.aload_n 0, 1) := by decide +kernel
theorem dX6_figures_27 : decode cX6_figures 27 = .ok (.getfield 161, 3) := by decide +kernel
theorem dX6_figures_30 : decode cX6_figures 30 = .ok (.aload_n 0, 1) := by decide +kernel
theorem dX6_figures_31 : decode cX6_figures 31 = .ok (.getfield 155, 3) := by decide +kernel
theorem dX6_figures_34 : decode cX6_figures 34 = .ok (.if_icmp .ge 18, 3) := by decide +kernel
theorem dX6_figures_37 : decode cX6_figures 37 = .ok (.aload_n 0, 1) := by decide +kernel
theorem dX6_figures_38 : decode cX6_figures 38 = .ok (.getfield 7, 3) := by decide +kernel
theorem dX6_figures_41 : decode cX6_figures 41 = .ok (.aload_n 0, 1) := by decide +kernel
theorem dX6_figures_42 : decode cX6_figures 42 = .ok (.getfield 161, 3) := by decide +kernel
theorem dX6_figures_45 : decode cX6_figures 45 = .ok (.iaload, 1) := by decide +kernel
theorem dX6_figures_46 : decode cX6_figures 46 = .ok (.bipush 48, 2) := by decide +kernel
theorem dX6_figures_48 : decode cX6_figures 48 = .ok (.isub, 1) := by decide +kernel
theorem dX6_figures_49 : decode cX6_figures 49 = .ok (.goto 4, 3) := by decide +kernel
theorem dX6_figures_52 : decode cX6_figures 52 = .ok (.iconst (-1), 1) := by decide +kernel
theorem dX6_figures_53 : decode cX6_figures 53 = .ok (.istore 7, 2) := by decide +kernel
theorem dX6_figures_55 : decode cX6_figures 55 = .ok (.iload 5, 2) := by decide +kernel
theorem dX6_figures_57 : decode cX6_figures 57 = .ok (.iload 7, 2) := by decide +kernel
theorem dX6_figures_59 : decode cX6_figures 59 = .ok (.iload 6, 2) := by decide +kernel
theorem dX6_figures_61 : decode cX6_figures 61 = .ok (.imul, 1) := by decide +kernel
theorem dX6_figures_62 : decode cX6_figures 62 = .ok (.iadd, 1) := by decide +kernel
theorem dX6_figures_63 : decode cX6_figures 63 = .ok (.istore 8, 2) := by decide +kernel
theorem dX6_figures_65 : decode cX6_figures 65 = .ok (.iload 7, 2) := by decide +kernel
theorem dX6_figures_67 : decode cX6_figures 67 = .ok (.i2l, 1) := by decide +kernel
theorem dX6_figures_68 : decode cX6_figures 68 = .ok (.lconst 0, 1) := by decide +kernel
theorem dX6_figures_69 : decode cX6_figures 69 = .ok (.ldc2_w 83, 3) := by decide +kernel
theorem dX6_figures_72 : decode cX6_figures 72 = .ok (.invokestatic 49, 3) := by decide +kernel
theorem dX6_figures_75 : decode cX6_figures 75 = .ok (.ifCond .eq 21, 3) := by decide +kernel
theorem dX6_figures_78 : decode cX6_figures 78 = .ok (.iload 8, 2) := by decide +kernel
theorem dX6_figures_80 : decode cX6_figures 80 = .ok (.iload 4, 2) := by decide +kernel
theorem dX6_figures_82 : decode cX6_figures 82 = .ok (.if_icmp .gt 14, 3) := by decide +kernel
theorem dX6_figures_85 : decode cX6_figures 85 = .ok (.iload 8, 2) := by decide +kernel
theorem dX6_figures_87 : decode cX6_figures 87 = .ok (.iload 6, 2) := by decide +kernel
theorem dX6_figures_89 : decode cX6_figures 89 = .ok (.iadd, 1) := by decide +kernel
theorem dX6_figures_90 : decode cX6_figures 90 = .ok (.iconst 1, 1) := by decide +kernel
theorem dX6_figures_91 : decode cX6_figures 91 = .ok (.isub, 1) := by decide +kernel
theorem dX6_figures_92 : decode cX6_figures 92 = .ok (.iload_n 3, 1) := by decide +kernel
theorem dX6_figures_93 : decode cX6_figures 93 = .ok (.if_icmp .ge 5, 3) := by decide +kernel
theorem dX6_figures_96 : decode cX6_figures 96 = .ok (.iconst (-1), 1) := by decide +kernel
theorem dX6_figures_97 : decode cX6_figures 97 = .ok (.ireturn, 1) := by decide +kernel
theorem dX6_figures_98 : decode cX6_figures 98 = .ok (.iload 8, 2) := by decide +kernel
theorem dX6_figures_100 : decode cX6_figures 100 = .ok (.istore 5, 2) := by decide +kernel
theorem dX6_figures_102 : decode cX6_figures 102 = .ok (.aload_n 0, 1) := by decide +kernel
theorem dX6_figures_103 : decode cX6_figures 103 = .ok (.dup, 1) := by decide +kernel
theorem dX6_figures_104 : decode cX6_figures 104 = .ok (.getfield 161, 3) := by decide +kernel
theorem dX6_figures_107 : decode cX6_figures 107 = .ok (.iconst 1, 1) := by decide +kernel
theorem dX6_figures_108 : decode cX6_figures 108 = .ok (.iadd, 1) := by decide +kernel
theorem dX6_figures_109 : decode cX6_figures 109 = .ok (.putfield 161, 3) := by decide +kernel
theorem dX6_figures_112 : decode cX6_figures 112 = .ok (.iload 6, 2) := by decide +kernel
theorem dX6_figures_114 : decode cX6_figures 114 = .ok (.bipush 10, 2) := by decide +kernel
theorem dX6_figures_116 : decode cX6_figures 116 = .ok (.idiv, 1) := by decide +kernel
theorem dX6_figures_117 : decode cX6_figures 117 = .ok (.istore 6, 2) := by decide +kernel
theorem dX6_figures_119 : decode cX6_figures 119 = .ok (.goto (-103), 3) := by decide +kernel
theorem dX6_figures_122 : decode cX6_figures 122 = .ok (.iload_n 1, 1) := by decide +kernel
theorem dX6_figures_123 : decode cX6_figures 123 = .ok (.iconst (-1), 1) := by decide +kernel
theorem dX6_figures_124 : decode cX6_figures 124 = .ok (.if_icmp .ne 7, 3) := by decide +kernel
theorem dX6_figures_127 : decode cX6_figures 127 = .ok (.iconst (-1), 1) := by decide +kernel
theorem dX6_figures_128 : decode cX6_figures 128 = .ok (.goto 5, 3) := by decide +kernel
theorem dX6_figures_131 : decode cX6_figures 131 = .ok (.iload 5, 2) := by decide +kernel
theorem dX6_figures_133 : decode cX6_figures 133 = .ok (.ireturn, 1) := by decide +kernel
theorem dX6_done_0 : decode cX6_done 0 = .ok (.aload_n 0, 1) := by decide +kernel
theorem dX6_done_1 : decode cX6_done 1 = .ok (.dup, 1) := by decide +kernel
theorem dX6_done_2 : decode cX6_done 2 = .ok (.getfield 164, 3) := by decide +kernel
theorem dX6_done_5 : decode cX6_done 5 = .ok (.iload_n 1, 1) := by decide +kernel
theorem dX6_done_6 : decode cX6_done 6 = .ok (.ifCond .eq 7, 3) := by decide +kernel
theorem dX6_done_9 : decode cX6_done 9 = .ok (.iconst 0, 1) := by decide +kernel
theorem dX6_done_10 : decode cX6_done 10 = .ok (.goto 4, 3) := by decide +kernel
theorem dX6_done_13 : decode cX6_done 13 = .ok (.iconst 1, 1) := by decide +kernel
theorem dX6_done_14 : decode cX6_done 14 = .ok (.iadd, 1) := by decide +kernel
theorem dX6_done_15 : decode cX6_done 15 = .ok (.putfield 164, 3) := by decide +kernel
theorem dX6_done_18 : decode cX6_done 18 = .ok (.iconst 1, 1) := by decide +kernel
theorem dX6_done_19 : decode cX6_done 19 = .ok (.ireturn, 1) := by decide +kernel
theorem dX6_readSession_0 : decode cX6_readSession 0 = .ok (.aload_n 0, 1) := by decide +kernel
theorem dX6_readSession_1 : decode cX6_readSession 1 = .ok (.iconst 0, 1) := by decide +kernel
theorem dX6_readSession_2 : decode cX6_readSession 2 = .ok (.iconst 1, 1) := by decide +kernel
theorem dX6_readSession_3 : decode cX6_readSession 3 = .ok (.iconst 0, 1) := by decide +kernel
theorem dX6_readSession_4 : decode cX6_readSession 4 = .ok (.iconst 4, 1) := by decide +kernel
theorem dX6_readSession_5 : decode cX6_readSession 5 = .ok (.invokevirtual 167, 3) := by decide +kernel
theorem dX6_readSession_8 : decode cX6_readSession 8 = .ok (.istore_n 2, 1) := by decide +kernel
theorem dX6_readSession_9 : decode cX6_readSession 9 = .ok (.aload_n 0, 1) := by decide +kernel
theorem dX6_readSession_10 : decode cX6_readSession 10 = .ok (.iload_n 2, 1) := by decide +kernel
theorem dX6_readSession_11 : decode cX6_readSession 11 = .ok (.iconst 1, 1) := by decide +kernel
theorem dX6_readSession_12 : decode cX6_readSession 12 = .ok (.iconst 0, 1) := by decide +kernel
theorem dX6_readSession_13 : decode cX6_readSession 13 = .ok (.bipush 9, 2) := by decide +kernel
theorem dX6_readSession_15 : decode cX6_readSession 15 = .ok (.invokevirtual 167, 3) := by decide +kernel
theorem dX6_readSession_18 : decode cX6_readSession 18 = .ok (.istore_n 3, 1) := by decide +kernel
theorem dX6_readSession_19 : decode cX6_readSession 19 = .ok (.aload_n 0, 1) := by decide +kernel
theorem dX6_readSession_20 : decode cX6_readSession 20 = .ok (.iload_n 3, 1) := by decide +kernel
theorem dX6_readSession_21 : decode cX6_readSession 21 = .ok (.iconst 2, 1) := by decide +kernel
theorem dX6_readSession_22 : decode cX6_readSession 22 = .ok (.iconst 0, 1) := by decide +kernel
theorem dX6_readSession_23 : decode cX6_readSession 23 = .ok (.bipush 15, 2) := by decide +kernel
theorem dX6_readSession_25 : decode cX6_readSession 25 = .ok (.invokevirtual 167, 3) := by decide +kernel
theorem dX6_readSession_28 : decode cX6_readSession 28 = .ok (.istore 4, 2) := by decide +kernel
theorem dX6_readSession_30 : decode cX6_readSession 30 = .ok (.aload_n 0, 1) := by decide +kernel
theorem dX6_readSession_31 : decode cX6_readSession 31 = .ok (.iload 4, 2) := by decide +kernel
