theorem dX1_tryHire_0 : decode cX1_tryHire 0 = .ok (.aload_n 0, 1) := by decide +kernel
theorem dX1_tryHire_1 : decode cX1_tryHire 1 = .ok (.iload_n 1, 1) := by decide +kernel
theorem dX1_tryHire_2 : decode cX1_tryHire 2 = .ok (.invokevirtual 9, 3) := by decide +kernel
theorem dX1_tryHire_5 : decode cX1_tryHire 5 = .ok (.ifCond .eq 5, 3) := by decide +kernel
theorem dX1_tryHire_8 : decode cX1_tryHire 8 = .ok (.iconst 0, 1) := by decide +kernel
theorem dX1_tryHire_9 : decode cX1_tryHire 9 = .ok (.ireturn, 1) := by decide +kernel
theorem dX1_tryHire_10 : decode cX1_tryHire 10 = .ok (.aload_n 0, 1) := by decide +kernel
theorem dX1_tryHire_11 : decode cX1_tryHire 11 = .ok (.iload_n 1, 1) := by decide +kernel
theorem dX1_tryHire_12 : decode cX1_tryHire 12 = .ok (.invokevirtual 15, 3) := by decide +kernel
theorem dX1_tryHire_15 : decode cX1_tryHire 15 = .ok (.pop, 1) := by decide +kernel
theorem dX1_tryHire_16 : decode cX1_tryHire 16 = .ok (.iconst 1, 1) := by decide +kernel
theorem dX1_tryHire_17 : decode cX1_tryHire 17 = .ok (.ireturn, 1) := by decide +kernel
theorem dX1_trySession_0 : decode cX1_trySession 0 = .ok (.aload_n 0, 1) := by decide +kernel
theorem dX1_trySession_1 : decode cX1_trySession 1 = .ok (.iload_n 1, 1) := by decide +kernel
theorem dX1_trySession_2 : decode cX1_trySession 2 = .ok (.iload_n 2, 1) := by decide +kernel
theorem dX1_trySession_3 : decode cX1_trySession 3 = .ok (.iload_n 3, 1) := by decide +kernel
theorem dX1_trySession_4 : decode cX1_trySession 4 = .ok (.iload 4, 2) := by decide +kernel
theorem dX1_trySession_6 : decode cX1_trySession 6 = .ok (.iload 5, 2) := by decide +kernel
theorem dX1_trySession_8 : decode cX1_trySession 8 = .ok (.invokevirtual 18, 3) := by decide +kernel
theorem dX1_trySession_11 : decode cX1_trySession 11 = .ok (.ifCond .eq 5, 3) := by decide +kernel
theorem dX1_trySession_14 : decode cX1_trySession 14 = .ok (.iconst 0, 1) := by decide +kernel
theorem dX1_trySession_15 : decode cX1_trySession 15 = .ok (.ireturn, 1) := by decide +kernel
theorem dX1_trySession_16 : decode cX1_trySession 16 = .ok (.aload_n 0, 1) := by decide +kernel
theorem dX1_trySession_17 : decode cX1_trySession 17 = .ok (.iload_n 1, 1) := by decide +kernel
theorem dX1_trySession_18 : decode cX1_trySession 18 = .ok (.iload_n 2, 1) := by decide +kernel
theorem dX1_trySession_19 : decode cX1_trySession 19 = .ok (.iload_n 3, 1) := by decide +kernel
theorem dX1_trySession_20 : decode cX1_trySession 20 = .ok (.iload 4, 2) := by decide +kernel
theorem dX1_trySession_22 : decode cX1_trySession 22 = .ok (.iload 5, 2) := by decide +kernel
theorem dX1_trySession_24 : decode cX1_trySession 24 = .ok (.invokevirtual 22, 3) := by decide +kernel
theorem dX1_trySession_27 : decode cX1_trySession 27 = .ok (.pop, 1) := by decide +kernel
theorem dX1_trySession_28 : decode cX1_trySession 28 = .ok (.iconst 1, 1) := by decide +kernel
theorem dX1_trySession_29 : decode cX1_trySession 29 = .ok (.ireturn, 1) := by decide +kernel
theorem dX1_tryGive_0 : decode cX1_tryGive 0 = .ok (.aload_n 0, 1) := by decide +kernel
theorem dX1_tryGive_1 : decode cX1_tryGive 1 = .ok (.iload_n 1, 1) := by decide +kernel
theorem dX1_tryGive_2 : decode cX1_tryGive 2 = .ok (.iload_n 2, 1) := by decide +kernel
theorem dX1_tryGive_3 : decode cX1_tryGive 3 = .ok (.invokevirtual 25, 3) := by decide +kernel
theorem dX1_tryGive_6 : decode cX1_tryGive 6 = .ok (.ifCond .eq 5, 3) := by decide +kernel
theorem dX1_tryGive_9 : decode cX1_tryGive 9 = .ok (.iconst 0, 1) := by decide +kernel
theorem dX1_tryGive_10 : decode cX1_tryGive 10 = .ok (.ireturn, 1) := by decide +kernel
theorem dX1_tryGive_11 : decode cX1_tryGive 11 = .ok (.aload_n 0, 1) := by decide +kernel
theorem dX1_tryGive_12 : decode cX1_tryGive 12 = .ok (.getfield 29, 3) := by decide +kernel
theorem dX1_tryGive_15 : decode cX1_tryGive 15 = .ok (.iload_n 1, 1) := by decide +kernel
theorem dX1_tryGive_16 : decode cX1_tryGive 16 = .ok (.aaload, 1) := by decide +kernel
theorem dX1_tryGive_17 : decode cX1_tryGive 17 = .ok (.iload_n 2, 1) := by decide +kernel
theorem dX1_tryGive_18 : decode cX1_tryGive 18 = .ok (.putfield 33, 3) := by decide +kernel
theorem dX1_tryGive_21 : decode cX1_tryGive 21 = .ok (.iconst 1, 1) := by decide +kernel
theorem dX1_tryGive_22 : decode cX1_tryGive 22 = .ok (.ireturn, 1) := by decide +kernel
theorem dX1_tryExtend_0 : decode cX1_tryExtend 0 = .ok (.aload_n 0, 1) := by decide +kernel
theorem dX1_tryExtend_1 : decode cX1_tryExtend 1 = .ok (.iload_n 1, 1) := by decide +kernel
theorem dX1_tryExtend_2 : decode cX1_tryExtend 2 = .ok (.iload_n 2, 1) := by decide +kernel
theorem dX1_tryExtend_3 : decode cX1_tryExtend 3 = .ok (.invokevirtual 39, 3) := by decide +kernel
theorem dX1_tryExtend_6 : decode cX1_tryExtend 6 = .ok (.ifCond .eq 5, 3) := by decide +kernel
theorem dX1_tryExtend_9 : decode cX1_tryExtend 9 = .ok (.iconst 0, 1) := by decide +kernel
theorem dX1_tryExtend_10 : decode cX1_tryExtend 10 = .ok (.ireturn, 1) := by decide +kernel
theorem dX1_tryExtend_11 : decode cX1_tryExtend 11 = .ok (.aload_n 0, 1) := by decide +kernel
theorem dX1_tryExtend_12 : decode cX1_tryExtend 12 = .ok (.iload_n 1, 1) := by decide +kernel
theorem dX1_tryExtend_13 : decode cX1_tryExtend 13 = .ok (.iload_n 2, 1) := by decide +kernel
theorem dX1_tryExtend_14 : decode cX1_tryExtend 14 = .ok (.invokevirtual 42, 3) := by decide +kernel
theorem dX1_tryExtend_17 : decode cX1_tryExtend 17 = .ok (.pop, 1) := by decide +kernel
theorem dX1_tryExtend_18 : decode cX1_tryExtend 18 = .ok (.iconst 1, 1) := by decide +kernel
theorem dX1_tryExtend_19 : decode cX1_tryExtend 19 = .ok (.ireturn, 1) := by decide +kernel
theorem dX1_tryLeave_0 : decode cX1_tryLeave 0 = .ok (.aload_n 0, 1) := by decide +kernel
theorem dX1_tryLeave_1 : decode cX1_tryLeave 1 = .ok (.iload_n 1, 1) := by decide +kernel
theorem dX1_tryLeave_2 : decode cX1_tryLeave 2 = .ok (.iload_n 2, 1) := by decide +kernel
theorem dX1_tryLeave_3 : decode cX1_tryLeave 3 = .ok (.invokevirtual 45, 3) := by decide +kernel
theorem dX1_tryLeave_6 : decode cX1_tryLeave 6 = .ok (.ifCond .eq 5, 3) := by decide +kernel
theorem dX1_tryLeave_9 : decode cX1_tryLeave 9 = .ok (.iconst 0, 1) := by decide +kernel
theorem dX1_tryLeave_10 : decode cX1_tryLeave 10 = .ok (.ireturn, 1) := by decide +kernel
theorem dX1_tryLeave_11 : decode cX1_tryLeave 11 = .ok (.aload_n 0, 1) := by decide +kernel
theorem dX1_tryLeave_12 : decode cX1_tryLeave 12 = .ok (.iload_n 1, 1) := by decide +kernel
theorem dX1_tryLeave_13 : decode cX1_tryLeave 13 = .ok (.iload_n 2, 1) := by decide +kernel
theorem dX1_tryLeave_14 : decode cX1_tryLeave 14 = .ok (.invokevirtual 48, 3) := by decide +kernel
theorem dX1_tryLeave_17 : decode cX1_tryLeave 17 = .ok (.pop, 1) := by decide +kernel
theorem dX1_tryLeave_18 : decode cX1_tryLeave 18 = .ok (.iconst 1, 1) := by decide +kernel
theorem dX1_tryLeave_19 : decode cX1_tryLeave 19 = .ok (.ireturn, 1) := by decide +kernel
theorem dX1_tryRun_0 : decode cX1_tryRun 0 = .ok (.aload_n 0, 1) := by decide +kernel
theorem dX1_tryRun_1 : decode cX1_tryRun 1 = .ok (.iload_n 1, 1) := by decide +kernel
theorem dX1_tryRun_2 : decode cX1_tryRun 2 = .ok (.invokevirtual 51, 3) := by decide +kernel
theorem dX1_tryRun_5 : decode cX1_tryRun 5 = .ok (.ifCond .eq 5, 3) := by decide +kernel
theorem dX1_tryRun_8 : decode cX1_tryRun 8 = .ok (.iconst 0, 1) := by decide +kernel
theorem dX1_tryRun_9 : decode cX1_tryRun 9 = .ok (.ireturn, 1) := by decide +kernel
theorem dX1_tryRun_10 : decode cX1_tryRun 10 = .ok (.iconst 0, 1) := by decide +kernel
theorem dX1_tryRun_11 : decode cX1_tryRun 11 = .ok (.istore_n 2, 1) := by decide +kernel
theorem dX1_tryRun_12 : decode cX1_tryRun 12 = .ok (.iload_n 2, 1) := by decide +kernel
theorem dX1_tryRun_13 : decode cX1_tryRun 13 = .ok (.iload_n 1, 1) := by decide +kernel
theorem dX1_tryRun_14 : decode cX1_tryRun 14 = .ok (.if_icmp .ge 13, 3) := by decide +kernel
theorem dX1_tryRun_17 : decode cX1_tryRun 17 = .ok (.aload_n 0, 1) := by decide +kernel
theorem dX1_tryRun_18 : decode cX1_tryRun 18 = .ok (.invokevirtual 54, 3) := by decide +kernel
theorem dX1_tryRun_21 : decode cX1_tryRun 21 = .ok (.iinc 2 1, 3) := by decide +kernel
theorem dX1_tryRun_24 : decode cX1_tryRun 24 = .ok (.goto (-12), 3) := by decide +kernel
theorem dX1_tryRun_27 : decode cX1_tryRun 27 = .ok (.iconst 1, 1) := by decide +kernel
theorem dX1_tryRun_28 : decode cX1_tryRun 28 = .ok (.ireturn, 1) := by decide +kernel
theorem dX1_doTextCommand_0 : decode cX1_doTextCommand 0 = .ok (.aload_n 1, 1) := by decide +kernel
theorem dX1_doTextCommand_1 : decode cX1_doTextCommand 1 = .ok (.getfield 57, 3) := by decide +kernel
theorem dX1_doTextCommand_4 : decode cX1_doTextCommand 4 = .ok (.astore_n 2, 1) := by decide +kernel
theorem dX1_doTextCommand_5 : decode cX1_doTextCommand 5 = .ok (.aload_n 1, 1) := by decide +kernel
theorem dX1_doTextCommand_6 : decode cX1_doTextCommand 6 = .ok (.getfield 63, 3) := by decide +kernel
theorem dX1_doTextCommand_9 : decode cX1_doTextCommand 9 = .ok (.lookupswitch 105 #[(97, 90), (100, 97), (103, 79), (110, 51), (115, 59)], 51) := by decide +kernel
theorem dX1_doTextCommand_60 : decode cX1_doTextCommand 60 = .ok (.aload_n 0, 1) := by decide +kernel
theorem dX1_doTextCommand_61 : decode cX1_doTextCommand 61 = .ok (.aload_n 2, 1) := by decide +kernel
theorem dX1_doTextCommand_62 : decode cX1_doTextCommand 62 = .ok (.iconst 0, 1) := by decide +kernel
theorem dX1_doTextCommand_63 : decode cX1_doTextCommand 63 = .ok (.iaload, 1) := by decide +kernel
theorem dX1_doTextCommand_64 : decode cX1_doTextCommand 64 = .ok (.invokestatic 66, 3) := by decide +kernel
theorem dX1_doTextCommand_67 : decode cX1_doTextCommand 67 = .ok (.ireturn, 1) := by decide +kernel
theorem dX1_doTextCommand_68 : decode cX1_doTextCommand 68 = .ok (.aload_n 0, 1) := by decide +kernel
theorem dX1_doTextCommand_69 : decode cX1_doTextCommand 69 = .ok (.aload_n 2, 1) := by decide +kernel
theorem dX1_doTextCommand_70 : decode cX1_doTextCommand 70 = .ok (.iconst 0, 1) := by decide +kernel
theorem dX1_doTextCommand_71 : decode cX1_doTextCommand 71 = .ok (.iaload, 1) := by decide +kernel
theorem dX1_doTextCommand_72 : decode cX1_doTextCommand 72 = .ok (.aload_n 2, 1) := by decide +kernel
theorem dX1_doTextCommand_73 : decode cX1_doTextCommand 73 = .ok (.iconst 1, 1) := by decide +kernel
theorem dX1_doTextCommand_74 : decode cX1_doTextCommand 74 = .ok (.iaload, 1) := by decide +kernel
theorem dX1_doTextCommand_75 : decode cX1_doTextCommand 75 = .ok (.aload_n 2, 1) := by decide +kernel
theorem dX1_doTextCommand_76 : decode cX1_doTextCommand 76 = .ok (.iconst 2, 1) := by decide +kernel
theorem dX1_doTextCommand_77 : decode cX1_doTextCommand 77 = .ok (.iaload, 1) := by decide +kernel
theorem dX1_doTextCommand_78 : decode cX1_doTextCommand 78 = .ok (.aload_n 2, 1) := by decide +kernel
theorem dX1_doTextCommand_79 : decode cX1_doTextCommand 79 = .ok (.iconst 3, 1) := by decide +kernel
theorem dX1_doTextCommand_80 : decode cX1_doTextCommand 80 = .ok (.iaload, 1) := by decide +kernel
theorem dX1_doTextCommand_81 : decode cX1_doTextCommand 81 = .ok (.aload_n 2, 1) := by decide +kernel
theorem dX1_doTextCommand_82 : decode cX1_doTextCommand 82 = .ok (.iconst 4, 1) := by decide +kernel
theorem dX1_doTextCommand_83 : decode cX1_doTextCommand 83 = .ok (.iaload, 1) := by decide +kernel
theorem dX1_doTextCommand_84 : decode cX1_doTextCommand 84 = .ok (.invokestatic 72, 3) := by decide +kernel
theorem dX1_doTextCommand_87 : decode cX1_doTextCommand 87 = .ok (.ireturn, 1) := by decide +kernel
theorem dX1_doTextCommand_88 : decode cX1_doTextCommand 88 = .ok (.aload_n 0, 1) := by decide +kernel
theorem dX1_doTextCommand_89 : decode cX1_doTextCommand 89 = .ok (.aload_n 2, 1) := by decide +kernel
theorem dX1_doTextCommand_90 : decode cX1_doTextCommand 90 = .ok (.iconst 0, 1) := by decide +kernel
theorem dX1_doTextCommand_91 : decode cX1_doTextCommand 91 = .ok (.iaload, 1) := by decide +kernel
theorem dX1_doTextCommand_92 : decode cX1_doTextCommand 92 = .ok (.aload_n 2, 1) := by decide +kernel
theorem dX1_doTextCommand_93 : decode cX1_doTextCommand 93 = .ok (.iconst 1, 1) := by decide +kernel
theorem dX1_doTextCommand_94 : decode cX1_doTextCommand 94 = .ok (.iaload, 1) := by decide +kernel
theorem dX1_doTextCommand_95 : decode cX1_doTextCommand 95 = .ok (.invokestatic 76, 3) := by decide +kernel
theorem dX1_doTextCommand_98 : decode cX1_doTextCommand 98 = .ok (.ireturn, 1) := by decide +kernel
theorem dX1_doTextCommand_99 : decode cX1_doTextCommand 99 = .ok (.aload_n 0, 1) := by decide +kernel
theorem dX1_doTextCommand_100 : decode cX1_doTextCommand 100 = .ok (.invokevirtual 80, 3) := by decide +kernel
theorem dX1_doTextCommand_103 : decode cX1_doTextCommand 103 = .ok (.pop, 1) := by decide +kernel
theorem dX1_doTextCommand_104 : decode cX1_doTextCommand 104 = .ok (.iconst 1, 1) := by decide +kernel
theorem dX1_doTextCommand_105 : decode cX1_doTextCommand 105 = .ok (.ireturn, 1) := by decide +kernel
theorem dX1_doTextCommand_106 : decode cX1_doTextCommand 106 = .ok (.aload_n 0, 1) := by decide +kernel
theorem dX1_doTextCommand_107 : decode cX1_doTextCommand 107 = .ok (.aload_n 2, 1) := by decide +kernel
theorem dX1_doTextCommand_108 : decode cX1_doTextCommand 108 = .ok (.iconst 0, 1) := by decide +kernel
theorem dX1_doTextCommand_109 : decode cX1_doTextCommand 109 = .ok (.iaload, 1) := by decide +kernel
theorem dX1_doTextCommand_110 : decode cX1_doTextCommand 110 = .ok (.invokestatic 84, 3) := by decide +kernel
theorem dX1_doTextCommand_113 : decode cX1_doTextCommand 113 = .ok (.ireturn, 1) := by decide +kernel
theorem dX1_doTextCommand_114 : decode cX1_doTextCommand 114 = .ok (.iconst 0, 1) := by decide +kernel
theorem dX1_doTextCommand_115 : decode cX1_doTextCommand 115 = .ok (.ireturn, 1) := by decide +kernel
theorem dX1_doScriptCommand_0 : decode cX1_doScriptCommand 0 = .ok (.iload_n 1, 1) := by decide +kernel
theorem dX1_doScriptCommand_1 : decode cX1_doScriptCommand 1 = .ok (.sipush 1000, 3) := by decide +kernel
theorem dX1_doScriptCommand_4 : decode cX1_doScriptCommand 4 = .ok (.idiv, 1) := by decide +kernel
theorem dX1_doScriptCommand_5 : decode cX1_doScriptCommand 5 = .ok (.bipush 10, 2) := by decide +kernel
theorem dX1_doScriptCommand_7 : decode cX1_doScriptCommand 7 = .ok (.irem, 1) := by decide +kernel
theorem dX1_doScriptCommand_8 : decode cX1_doScriptCommand 8 = .ok (.istore_n 2, 1) := by decide +kernel
theorem dX1_doScriptCommand_9 : decode cX1_doScriptCommand 9 = .ok (.iload_n 1, 1) := by decide +kernel
theorem dX1_doScriptCommand_10 : decode cX1_doScriptCommand 10 = .ok (.bipush 100, 2) := by decide +kernel
theorem dX1_doScriptCommand_12 : decode cX1_doScriptCommand 12 = .ok (.idiv, 1) := by decide +kernel
theorem dX1_doScriptCommand_13 : decode cX1_doScriptCommand 13 = .ok (.bipush 10, 2) := by decide +kernel
theorem dX1_doScriptCommand_15 : decode cX1_doScriptCommand 15 = .ok (.irem, 1) := by decide +kernel
theorem dX1_doScriptCommand_16 : decode cX1_doScriptCommand 16 = .ok (.istore_n 3, 1) := by decide +kernel
theorem dX1_doScriptCommand_17 : decode cX1_doScriptCommand 17 = .ok (.iload_n 1, 1) := by decide +kernel
theorem dX1_doScriptCommand_18 : decode cX1_doScriptCommand 18 = .ok (.bipush 10, 2) := by decide +kernel
theorem dX1_doScriptCommand_20 : decode cX1_doScriptCommand 20 = .ok (.idiv, 1) := by decide +kernel
theorem dX1_doScriptCommand_21 : decode cX1_doScriptCommand 21 = .ok (.bipush 10, 2) := by decide +kernel
theorem dX1_doScriptCommand_23 : decode cX1_doScriptCommand 23 = .ok (.irem, 1) := by decide +kernel
theorem dX1_doScriptCommand_24 : decode cX1_doScriptCommand 24 = .ok (.istore 4, 2) := by decide +kernel
theorem dX1_doScriptCommand_26 : decode cX1_doScriptCommand 26 = .ok (.iload_n 1, 1) := by decide +kernel
theorem dX1_doScriptCommand_27 : decode cX1_doScriptCommand 27 = .ok (.bipush 10, 2) := by decide +kernel
theorem dX1_doScriptCommand_29 : decode cX1_doScriptCommand 29 = .ok (.irem, 1) := by decide +kernel
theorem dX1_doScriptCommand_30 : decode cX1_doScriptCommand 30 = .ok (.istore 5, 2) := by decide +kernel
theorem dX1_doScriptCommand_32 : decode cX1_doScriptCommand 32 = .ok (.bipush 10, 2) := by decide +kernel
theorem dX1_doScriptCommand_34 : decode cX1_doScriptCommand 34 = .ok (.iload_n 2, 1) := by decide +kernel
theorem dX1_doScriptCommand_35 : decode cX1_doScriptCommand 35 = .ok (.imul, 1) := by decide +kernel
theorem dX1_doScriptCommand_36 : decode cX1_doScriptCommand 36 = .ok (.iload_n 3, 1) := by decide +kernel
theorem dX1_doScriptCommand_37 : decode cX1_doScriptCommand 37 = .ok (.iadd, 1) := by decide +kernel
theorem dX1_doScriptCommand_38 : decode cX1_doScriptCommand 38 = .ok (.istore 6, 2) := by decide +kernel
theorem dX1_doScriptCommand_40 : decode cX1_doScriptCommand 40 = .ok (.bipush 10, 2) := by decide +kernel
theorem dX1_doScriptCommand_42 : decode cX1_doScriptCommand 42 = .ok (.iload_n 3, 1) := by decide +kernel
theorem dX1_doScriptCommand_43 : decode cX1_doScriptCommand 43 = .ok (.imul, 1) := by decide +kernel
theorem dX1_doScriptCommand_44 : decode cX1_doScriptCommand 44 = .ok (.iload 4, 2) := by decide +kernel
theorem dX1_doScriptCommand_46 : decode cX1_doScriptCommand 46 = .ok (.iadd, 1) := by decide +kernel
theorem dX1_doScriptCommand_47 : decode cX1_doScriptCommand 47 = .ok (.istore 7, 2) := by decide +kernel
theorem dX1_doScriptCommand_49 : decode cX1_doScriptCommand 49 = .ok (.bipush 10, 2) := by decide +kernel
theorem dX1_doScriptCommand_51 : decode cX1_doScriptCommand 51 = .ok (.iload 4, 2) := by decide +kernel
theorem dX1_doScriptCommand_53 : decode cX1_doScriptCommand 53 = .ok (.imul, 1) := by decide +kernel
theorem dX1_doScriptCommand_54 : decode cX1_doScriptCommand 54 = .ok (.iload 5, 2) := by decide +kernel
theorem dX1_doScriptCommand_56 : decode cX1_doScriptCommand 56 = .ok (.iadd, 1) := by decide +kernel
theorem dX1_doScriptCommand_57 : decode cX1_doScriptCommand 57 = .ok (.istore 8, 2) := by decide +kernel
theorem dX1_doScriptCommand_59 : decode cX1_doScriptCommand 59 = .ok (.iload_n 1, 1) := by decide +kernel
theorem dX1_doScriptCommand_60 : decode cX1_doScriptCommand 60 = .ok (.sipush 30000, 3) := by decide +kernel
theorem dX1_doScriptCommand_63 : decode cX1_doScriptCommand 63 = .ok (.if_icmp .ne 10, 3) := by decide +kernel
theorem dX1_doScriptCommand_66 : decode cX1_doScriptCommand 66 = .ok (.aload_n 0, 1) := by decide +kernel
theorem dX1_doScriptCommand_67 : decode cX1_doScriptCommand 67 = .ok (.invokevirtual 80, 3) := by decide +kernel
theorem dX1_doScriptCommand_70 : decode cX1_doScriptCommand 70 = .ok (.pop, 1) := by decide +kernel
theorem dX1_doScriptCommand_71 : decode cX1_doScriptCommand 71 = .ok (.iconst 1, 1) := by decide +kernel
theorem dX1_doScriptCommand_72 : decode cX1_doScriptCommand 72 = .ok (.ireturn, 1) := by decide +kernel
theorem dX1_doScriptCommand_73 : decode cX1_doScriptCommand 73 = .ok (.iload_n 1, 1) := by decide +kernel
theorem dX1_doScriptCommand_74 : decode cX1_doScriptCommand 74 = .ok (.sipush 10000, 3) := by decide +kernel
theorem dX1_doScriptCommand_77 : decode cX1_doScriptCommand 77 = .ok (.idiv, 1) := by decide +kernel
theorem dX1_doScriptCommand_78 : decode cX1_doScriptCommand 78 = .ok (.tableswitch 224 1 9 #[50, 65, 224, 87, 96, 116, 136, 157, 189], 50) := by decide +kernel
theorem dX1_doScriptCommand_128 : decode cX1_doScriptCommand 128 = .ok (.aload_n 0, 1) := by decide +kernel
theorem dX1_doScriptCommand_129 : decode cX1_doScriptCommand 129 = .ok (.iload_n 2, 1) := by decide +kernel
theorem dX1_doScriptCommand_130 : decode cX1_doScriptCommand 130 = .ok (.aload_n 0, 1) := by decide +kernel
theorem dX1_doScriptCommand_131 : decode cX1_doScriptCommand 131 = .ok (.getfield 87, 3) := by decide +kernel
theorem dX1_doScriptCommand_134 : decode cX1_doScriptCommand 134 = .ok (.iload 7, 2) := by decide +kernel
theorem dX1_doScriptCommand_136 : decode cX1_doScriptCommand 136 = .ok (.iload 5, 2) := by decide +kernel
theorem dX1_doScriptCommand_138 : decode cX1_doScriptCommand 138 = .ok (.iconst 3, 1) := by decide +kernel
theorem dX1_doScriptCommand_139 : decode cX1_doScriptCommand 139 = .ok (.invokestatic 72, 3) := by decide +kernel
theorem dX1_doScriptCommand_142 : decode cX1_doScriptCommand 142 = .ok (.ireturn, 1) := by decide +kernel
theorem dX1_doScriptCommand_143 : decode cX1_doScriptCommand 143 = .ok (.iload 5, 2) := by decide +kernel
theorem dX1_doScriptCommand_145 : decode cX1_doScriptCommand 145 = .ok (.ifCond .ne 18, 3) := by decide +kernel
theorem dX1_doScriptCommand_148 : decode cX1_doScriptCommand 148 = .ok (.aload_n 0, 1) := by decide +kernel
theorem dX1_doScriptCommand_149 : decode cX1_doScriptCommand 149 = .ok (.iload 6, 2) := by decide +kernel
theorem dX1_doScriptCommand_151 : decode cX1_doScriptCommand 151 = .ok (.iload 4, 2) := by decide +kernel
theorem dX1_doScriptCommand_153 : decode cX1_doScriptCommand 153 = .ok (.invokestatic 76, 3) := by decide +kernel
theorem dX1_doScriptCommand_156 : decode cX1_doScriptCommand 156 = .ok (.ifCond .eq 7, 3) := by decide +kernel
theorem dX1_doScriptCommand_159 : decode cX1_doScriptCommand 159 = .ok (.iconst 1, 1) := by decide +kernel
theorem dX1_doScriptCommand_160 : decode cX1_doScriptCommand 160 = .ok (.goto 4, 3) := by decide +kernel
theorem dX1_doScriptCommand_163 : decode cX1_doScriptCommand 163 = .ok (.iconst 0, 1) := by decide +kernel
theorem dX1_doScriptCommand_164 : decode cX1_doScriptCommand 164 = .ok (.ireturn, 1) := by decide +kernel
theorem dX1_doScriptCommand_165 : decode cX1_doScriptCommand 165 = .ok (.aload_n 0, 1) := by decide +kernel
theorem dX1_doScriptCommand_166 : decode cX1_doScriptCommand 166 = .ok (.iload 6, 2) := by decide +kernel
theorem dX1_doScriptCommand_168 : decode cX1_doScriptCommand 168 = .ok (.iload 8, 2) := by decide +kernel
theorem dX1_doScriptCommand_170 : decode cX1_doScriptCommand 170 = .ok (.invokestatic 90, 3) := by decide +kernel
theorem dX1_doScriptCommand_173 : decode cX1_doScriptCommand 173 = .ok (.ireturn, 1) := by decide +kernel
theorem dX1_doScriptCommand_174 : decode cX1_doScriptCommand 174 = .ok (.iload_n 3, 1) := by decide +kernel
theorem dX1_doScriptCommand_175 : decode cX1_doScriptCommand 175 = .ok (.ifCond .ne 17, 3) := by decide +kernel
theorem dX1_doScriptCommand_178 : decode cX1_doScriptCommand 178 = .ok (.aload_n 0, 1) := by decide +kernel
theorem dX1_doScriptCommand_179 : decode cX1_doScriptCommand 179 = .ok (.iload_n 2, 1) := by decide +kernel
theorem dX1_doScriptCommand_180 : decode cX1_doScriptCommand 180 = .ok (.iload 8, 2) := by decide +kernel
theorem dX1_doScriptCommand_182 : decode cX1_doScriptCommand 182 = .ok (.invokestatic 93, 3) := by decide +kernel
theorem dX1_doScriptCommand_185 : decode cX1_doScriptCommand 185 = .ok (.ifCond .eq 7, 3) := by decide +kernel
theorem dX1_doScriptCommand_188 : decode cX1_doScriptCommand 188 = .ok (.iconst 1, 1) := by decide +kernel
theorem dX1_doScriptCommand_189 : decode cX1_doScriptCommand 189 = .ok (.goto 4, 3) := by decide +kernel
theorem dX1_doScriptCommand_192 : decode cX1_doScriptCommand 192 = .ok (.iconst 0, 1) := by decide +kernel
theorem dX1_doScriptCommand_193 : decode cX1_doScriptCommand 193 = .ok (.ireturn, 1) := by decide +kernel
theorem dX1_doScriptCommand_194 : decode cX1_doScriptCommand 194 = .ok (.iload 6, 2) := by decide +kernel
theorem dX1_doScriptCommand_196 : decode cX1_doScriptCommand 196 = .ok (.ifCond .ne 16, 3) := by decide +kernel
theorem dX1_doScriptCommand_199 : decode cX1_doScriptCommand 199 = .ok (.aload_n 0, 1) := by decide +kernel
theorem dX1_doScriptCommand_200 : decode cX1_doScriptCommand 200 = .ok (.iload 8, 2) := by decide +kernel
theorem dX1_doScriptCommand_202 : decode cX1_doScriptCommand 202 = .ok (.invokestatic 84, 3) := by decide +kernel
theorem dX1_doScriptCommand_205 : decode cX1_doScriptCommand 205 = .ok (.ifCond .eq 7, 3) := by decide +kernel
theorem dX1_doScriptCommand_208 : decode cX1_doScriptCommand 208 = .ok (.iconst 1, 1) := by decide +kernel
theorem dX1_doScriptCommand_209 : decode cX1_doScriptCommand 209 = .ok (.goto 4, 3) := by decide +kernel
theorem dX1_doScriptCommand_212 : decode cX1_doScriptCommand 212 = .ok (.iconst 0, 1) := by decide +kernel
theorem dX1_doScriptCommand_213 : decode cX1_doScriptCommand 213 = .ok (.ireturn, 1) := by decide +kernel
theorem dX1_doScriptCommand_214 : decode cX1_doScriptCommand 214 = .ok (.iload 6, 2) := by decide +kernel
theorem dX1_doScriptCommand_216 : decode cX1_doScriptCommand 216 = .ok (.ifCond .ne 17, 3) := by decide +kernel
theorem dX1_doScriptCommand_219 : decode cX1_doScriptCommand 219 = .ok (.aload_n 0, 1) := by decide +kernel
theorem dX1_doScriptCommand_220 : decode cX1_doScriptCommand 220 = .ok (.iconst (-1), 1) := by decide +kernel
theorem dX1_doScriptCommand_221 : decode cX1_doScriptCommand 221 = .ok (.invokevirtual 96, 3) := by decide +kernel
theorem dX1_doScriptCommand_224 : decode cX1_doScriptCommand 224 = .ok (.iload 8, 2) := by decide +kernel
theorem dX1_doScriptCommand_226 : decode cX1_doScriptCommand 226 = .ok (.if_icmp .gt 7, 3) := by decide +kernel
theorem dX1_doScriptCommand_229 : decode cX1_doScriptCommand 229 = .ok (.iconst 1, 1) := by decide +kernel
theorem dX1_doScriptCommand_230 : decode cX1_doScriptCommand 230 = .ok (.goto 4, 3) := by decide +kernel
theorem dX1_doScriptCommand_233 : decode cX1_doScriptCommand 233 = .ok (.iconst 0, 1) := by decide +kernel
theorem dX1_doScriptCommand_234 : decode cX1_doScriptCommand 234 = .ok (.ireturn, 1) := by decide +kernel
theorem dX1_doScriptCommand_235 : decode cX1_doScriptCommand 235 = .ok (.iload 5, 2) := by decide +kernel
theorem dX1_doScriptCommand_237 : decode cX1_doScriptCommand 237 = .ok (.ifCond .ne 28, 3) := by decide +kernel
theorem dX1_doScriptCommand_240 : decode cX1_doScriptCommand 240 = .ok (.aload_n 0, 1) := by decide +kernel
theorem dX1_doScriptCommand_241 : decode cX1_doScriptCommand 241 = .ok (.iload_n 2, 1) := by decide +kernel
theorem dX1_doScriptCommand_242 : decode cX1_doScriptCommand 242 = .ok (.invokevirtual 99, 3) := by decide +kernel
theorem dX1_doScriptCommand_245 : decode cX1_doScriptCommand 245 = .ok (.ifCond .ne 20, 3) := by decide +kernel
theorem dX1_doScriptCommand_248 : decode cX1_doScriptCommand 248 = .ok (.aload_n 0, 1) := by decide +kernel
theorem dX1_doScriptCommand_249 : decode cX1_doScriptCommand 249 = .ok (.getfield 102, 3) := by decide +kernel
theorem dX1_doScriptCommand_252 : decode cX1_doScriptCommand 252 = .ok (.iload_n 2, 1) := by decide +kernel
theorem dX1_doScriptCommand_253 : decode cX1_doScriptCommand 253 = .ok (.invokevirtual 106, 3) := by decide +kernel
theorem dX1_doScriptCommand_256 : decode cX1_doScriptCommand 256 = .ok (.iload 7, 2) := by decide +kernel
theorem dX1_doScriptCommand_258 : decode cX1_doScriptCommand 258 = .ok (.if_icmp .gt 7, 3) := by decide +kernel
theorem dX1_doScriptCommand_261 : decode cX1_doScriptCommand 261 = .ok (.iconst 1, 1) := by decide +kernel
theorem dX1_doScriptCommand_262 : decode cX1_doScriptCommand 262 = .ok (.goto 4, 3) := by decide +kernel
theorem dX1_doScriptCommand_265 : decode cX1_doScriptCommand 265 = .ok (.iconst 0, 1) := by decide +kernel
theorem dX1_doScriptCommand_266 : decode cX1_doScriptCommand 266 = .ok (.ireturn, 1) := by decide +kernel
theorem dX1_doScriptCommand_267 : decode cX1_doScriptCommand 267 = .ok (.iload 5, 2) := by decide +kernel
theorem dX1_doScriptCommand_269 : decode cX1_doScriptCommand 269 = .ok (.ifCond .ne 31, 3) := by decide +kernel
theorem dX1_doScriptCommand_272 : decode cX1_doScriptCommand 272 = .ok (.aload_n 0, 1) := by decide +kernel
theorem dX1_doScriptCommand_273 : decode cX1_doScriptCommand 273 = .ok (.iload 6, 2) := by decide +kernel
theorem dX1_doScriptCommand_275 : decode cX1_doScriptCommand 275 = .ok (.invokevirtual 111, 3) := by decide +kernel
theorem dX1_doScriptCommand_278 : decode cX1_doScriptCommand 278 = .ok (.ifCond .ne 22, 3) := by decide +kernel
theorem dX1_doScriptCommand_281 : decode cX1_doScriptCommand 281 = .ok (.aload_n 0, 1) := by decide +kernel
theorem dX1_doScriptCommand_282 : decode cX1_doScriptCommand 282 = .ok (.getfield 29, 3) := by decide +kernel
theorem dX1_doScriptCommand_285 : decode cX1_doScriptCommand 285 = .ok (.iload 6, 2) := by decide +kernel
theorem dX1_doScriptCommand_287 : decode cX1_doScriptCommand 287 = .ok (.aaload, 1) := by decide +kernel
theorem dX1_doScriptCommand_288 : decode cX1_doScriptCommand 288 = .ok (.getfield 33, 3) := by decide +kernel
theorem dX1_doScriptCommand_291 : decode cX1_doScriptCommand 291 = .ok (.iload 4, 2) := by decide +kernel
theorem dX1_doScriptCommand_293 : decode cX1_doScriptCommand 293 = .ok (.if_icmp .ne 7, 3) := by decide +kernel
theorem dX1_doScriptCommand_296 : decode cX1_doScriptCommand 296 = .ok (.iconst 1, 1) := by decide +kernel
theorem dX1_doScriptCommand_297 : decode cX1_doScriptCommand 297 = .ok (.goto 4, 3) := by decide +kernel
theorem dX1_doScriptCommand_300 : decode cX1_doScriptCommand 300 = .ok (.iconst 0, 1) := by decide +kernel
theorem dX1_doScriptCommand_301 : decode cX1_doScriptCommand 301 = .ok (.ireturn, 1) := by decide +kernel
theorem dX1_doScriptCommand_302 : decode cX1_doScriptCommand 302 = .ok (.iconst 0, 1) := by decide +kernel
theorem dX1_doScriptCommand_303 : decode cX1_doScriptCommand 303 = .ok (.ireturn, 1) := by decide +kernel
theorem dX1_doTurn_0 : decode cX1_doTurn 0 = .ok (.iload_n 1, 1) := by decide +kernel
theorem dX1_doTurn_1 : decode cX1_doTurn 1 = .ok (.bipush 8, 2) := by decide +kernel
theorem dX1_doTurn_3 : decode cX1_doTurn 3 = .ok (.idiv, 1) := by decide +kernel
theorem dX1_doTurn_4 : decode cX1_doTurn 4 = .ok (.istore_n 2, 1) := by decide +kernel
theorem dX1_doTurn_5 : decode cX1_doTurn 5 = .ok (.iload_n 1, 1) := by decide +kernel
theorem dX1_doTurn_6 : decode cX1_doTurn 6 = .ok (.bipush 8, 2) := by decide +kernel
theorem dX1_doTurn_8 : decode cX1_doTurn 8 = .ok (.irem, 1) := by decide +kernel
theorem dX1_doTurn_9 : decode cX1_doTurn 9 = .ok (.tableswitch 107 3 7 #[35, 43, 63, 81, 100], 35) := by decide +kernel
theorem dX1_doTurn_44 : decode cX1_doTurn 44 = .ok (.aload_n 0, 1) := by decide +kernel
theorem dX1_doTurn_45 : decode cX1_doTurn 45 = .ok (.invokevirtual 80, 3) := by decide +kernel
theorem dX1_doTurn_48 : decode cX1_doTurn 48 = .ok (.pop, 1) := by decide +kernel
theorem dX1_doTurn_49 : decode cX1_doTurn 49 = .ok (.goto 111, 3) := by decide +kernel
theorem dX1_doTurn_52 : decode cX1_doTurn 52 = .ok (.aload_n 0, 1) := by decide +kernel
theorem dX1_doTurn_53 : decode cX1_doTurn 53 = .ok (.iload_n 2, 1) := by decide +kernel
theorem dX1_doTurn_54 : decode cX1_doTurn 54 = .ok (.bipush 16, 2) := by decide +kernel
theorem dX1_doTurn_56 : decode cX1_doTurn 56 = .ok (.irem, 1) := by decide +kernel
theorem dX1_doTurn_57 : decode cX1_doTurn 57 = .ok (.iconst 1, 1) := by decide +kernel
theorem dX1_doTurn_58 : decode cX1_doTurn 58 = .ok (.iload_n 2, 1) := by decide +kernel
theorem dX1_doTurn_59 : decode cX1_doTurn 59 = .ok (.bipush 16, 2) := by decide +kernel
theorem dX1_doTurn_61 : decode cX1_doTurn 61 = .ok (.idiv, 1) := by decide +kernel
theorem dX1_doTurn_62 : decode cX1_doTurn 62 = .ok (.iconst 4, 1) := by decide +kernel
theorem dX1_doTurn_63 : decode cX1_doTurn 63 = .ok (.irem, 1) := by decide +kernel
theorem dX1_doTurn_64 : decode cX1_doTurn 64 = .ok (.iadd, 1) := by decide +kernel
theorem dX1_doTurn_65 : decode cX1_doTurn 65 = .ok (.invokestatic 90, 3) := by decide +kernel
theorem dX1_doTurn_68 : decode cX1_doTurn 68 = .ok (.pop, 1) := by decide +kernel
theorem dX1_doTurn_69 : decode cX1_doTurn 69 = .ok (.goto 91, 3) := by decide +kernel
theorem dX1_doTurn_72 : decode cX1_doTurn 72 = .ok (.aload_n 0, 1) := by decide +kernel
theorem dX1_doTurn_73 : decode cX1_doTurn 73 = .ok (.iload_n 2, 1) := by decide +kernel
theorem dX1_doTurn_74 : decode cX1_doTurn 74 = .ok (.bipush 6, 2) := by decide +kernel
theorem dX1_doTurn_76 : decode cX1_doTurn 76 = .ok (.irem, 1) := by decide +kernel
theorem dX1_doTurn_77 : decode cX1_doTurn 77 = .ok (.iload_n 2, 1) := by decide +kernel
theorem dX1_doTurn_78 : decode cX1_doTurn 78 = .ok (.bipush 6, 2) := by decide +kernel
theorem dX1_doTurn_80 : decode cX1_doTurn 80 = .ok (.idiv, 1) := by decide +kernel
theorem dX1_doTurn_81 : decode cX1_doTurn 81 = .ok (.iconst 4, 1) := by decide +kernel
theorem dX1_doTurn_82 : decode cX1_doTurn 82 = .ok (.irem, 1) := by decide +kernel
theorem dX1_doTurn_83 : decode cX1_doTurn 83 = .ok (.invokestatic 93, 3) := by decide +kernel
theorem dX1_doTurn_86 : decode cX1_doTurn 86 = .ok (.pop, 1) := by decide +kernel
theorem dX1_doTurn_87 : decode cX1_doTurn 87 = .ok (.goto 73, 3) := by decide +kernel
theorem dX1_doTurn_90 : decode cX1_doTurn 90 = .ok (.aload_n 0, 1) := by decide +kernel
theorem dX1_doTurn_91 : decode cX1_doTurn 91 = .ok (.iload_n 2, 1) := by decide +kernel
theorem dX1_doTurn_92 : decode cX1_doTurn 92 = .ok (.bipush 16, 2) := by decide +kernel
theorem dX1_doTurn_94 : decode cX1_doTurn 94 = .ok (.irem, 1) := by decide +kernel
theorem dX1_doTurn_95 : decode cX1_doTurn 95 = .ok (.iload_n 2, 1) := by decide +kernel
theorem dX1_doTurn_96 : decode cX1_doTurn 96 = .ok (.bipush 16, 2) := by decide +kernel
theorem dX1_doTurn_98 : decode cX1_doTurn 98 = .ok (.idiv, 1) := by decide +kernel
theorem dX1_doTurn_99 : decode cX1_doTurn 99 = .ok (.bipush 6, 2) := by decide +kernel
theorem dX1_doTurn_101 : decode cX1_doTurn 101 = .ok (.irem, 1) := by decide +kernel
theorem dX1_doTurn_102 : decode cX1_doTurn 102 = .ok (.invokestatic 76, 3) := by decide +kernel
theorem dX1_doTurn_105 : decode cX1_doTurn 105 = .ok (.pop, 1) := by decide +kernel
theorem dX1_doTurn_106 : decode cX1_doTurn 106 = .ok (.goto 54, 3) := by decide +kernel
theorem dX1_doTurn_109 : decode cX1_doTurn 109 = .ok (.aload_n 0, 1) := by decide +kernel
theorem dX1_doTurn_110 : decode cX1_doTurn 110 = .ok (.invokevirtual 54, 3) := by decide +kernel
theorem dX1_doTurn_113 : decode cX1_doTurn 113 = .ok (.goto 47, 3) := by decide +kernel
theorem dX1_doTurn_116 : decode cX1_doTurn 116 = .ok (.aload_n 0, 1) := by decide +kernel
theorem dX1_doTurn_117 : decode cX1_doTurn 117 = .ok (.iload_n 2, 1) := by decide +kernel
theorem dX1_doTurn_118 : decode cX1_doTurn 118 = .ok (.iconst 5, 1) := by decide +kernel
theorem dX1_doTurn_119 : decode cX1_doTurn 119 = .ok (.irem, 1) := by decide +kernel
theorem dX1_doTurn_120 : decode cX1_doTurn 120 = .ok (.aload_n 0, 1) := by decide +kernel
theorem dX1_doTurn_121 : decode cX1_doTurn 121 = .ok (.getfield 87, 3) := by decide +kernel
theorem dX1_doTurn_124 : decode cX1_doTurn 124 = .ok (.iload_n 2, 1) := by decide +kernel
theorem dX1_doTurn_125 : decode cX1_doTurn 125 = .ok (.iconst 5, 1) := by decide +kernel
theorem dX1_doTurn_126 : decode cX1_doTurn 126 = .ok (.idiv, 1) := by decide +kernel
theorem dX1_doTurn_127 : decode cX1_doTurn 127 = .ok (.iconst 4, 1) := by decide +kernel
theorem dX1_doTurn_128 : decode cX1_doTurn 128 = .ok (.irem, 1) := by decide +kernel
theorem dX1_doTurn_129 : decode cX1_doTurn 129 = .ok (.iadd, 1) := by decide +kernel
theorem dX1_doTurn_130 : decode cX1_doTurn 130 = .ok (.iload_n 2, 1) := by decide +kernel
theorem dX1_doTurn_131 : decode cX1_doTurn 131 = .ok (.bipush 20, 2) := by decide +kernel
theorem dX1_doTurn_133 : decode cX1_doTurn 133 = .ok (.idiv, 1) := by decide +kernel
theorem dX1_doTurn_134 : decode cX1_doTurn 134 = .ok (.bipush 16, 2) := by decide +kernel
theorem dX1_doTurn_136 : decode cX1_doTurn 136 = .ok (.irem, 1) := by decide +kernel
theorem dX1_doTurn_137 : decode cX1_doTurn 137 = .ok (.iconst 1, 1) := by decide +kernel
theorem dX1_doTurn_138 : decode cX1_doTurn 138 = .ok (.iload_n 2, 1) := by decide +kernel
theorem dX1_doTurn_139 : decode cX1_doTurn 139 = .ok (.sipush 320, 3) := by decide +kernel
theorem dX1_doTurn_142 : decode cX1_doTurn 142 = .ok (.idiv, 1) := by decide +kernel
theorem dX1_doTurn_143 : decode cX1_doTurn 143 = .ok (.iconst 5, 1) := by decide +kernel
theorem dX1_doTurn_144 : decode cX1_doTurn 144 = .ok (.irem, 1) := by decide +kernel
theorem dX1_doTurn_145 : decode cX1_doTurn 145 = .ok (.iadd, 1) := by decide +kernel
theorem dX1_doTurn_146 : decode cX1_doTurn 146 = .ok (.iconst 1, 1) := by decide +kernel
theorem dX1_doTurn_147 : decode cX1_doTurn 147 = .ok (.iload_n 2, 1) := by decide +kernel
theorem dX1_doTurn_148 : decode cX1_doTurn 148 = .ok (.sipush 1600, 3) := by decide +kernel
theorem dX1_doTurn_151 : decode cX1_doTurn 151 = .ok (.idiv, 1) := by decide +kernel
theorem dX1_doTurn_152 : decode cX1_doTurn 152 = .ok (.bipush 9, 2) := by decide +kernel
theorem dX1_doTurn_154 : decode cX1_doTurn 154 = .ok (.irem, 1) := by decide +kernel
theorem dX1_doTurn_155 : decode cX1_doTurn 155 = .ok (.iadd, 1) := by decide +kernel
theorem dX1_doTurn_156 : decode cX1_doTurn 156 = .ok (.invokestatic 72, 3) := by decide +kernel
theorem dX1_doTurn_159 : decode cX1_doTurn 159 = .ok (.pop, 1) := by decide +kernel
theorem dX1_doTurn_160 : decode cX1_doTurn 160 = .ok (.return_, 1) := by decide +kernel
theorem dX2_init_0 : decode cX2_init 0 = .ok (.aload_n 0, 1) := by decide +kernel
theorem dX2_init_1 : decode cX2_init 1 = .ok (.invokespecial 3, 3) := by decide +kernel
theorem dX2_init_4 : decode cX2_init 4 = .ok (.aload_n 0, 1) := by decide +kernel
theorem dX2_init_5 : decode cX2_init 5 = .ok (.bipush 16, 2) := by decide +kernel
theorem dX2_init_7 : decode cX2_init 7 = .ok (.newarray .int, 2) := by decide +kernel
theorem dX2_init_9 : decode cX2_init 9 = .ok (.putfield 9, 3) := by decide +kernel
theorem dX2_init_12 : decode cX2_init 12 = .ok (.aload_n 0, 1) := by decide +kernel
theorem dX2_init_13 : decode cX2_init 13 = .ok (.bipush 16, 2) := by decide +kernel
theorem dX2_init_15 : decode cX2_init 15 = .ok (.newarray .int, 2) := by decide +kernel
theorem dX2_init_17 : decode cX2_init 17 = .ok (.putfield 15, 3) := by decide +kernel
theorem dX2_init_20 : decode cX2_init 20 = .ok (.aload_n 0, 1) := by decide +kernel
theorem dX2_init_21 : decode cX2_init 21 = .ok (.bipush 16, 2) := by decide +kernel
theorem dX2_init_23 : decode cX2_init 23 = .ok (.newarray .int, 2) := by decide +kernel
theorem dX2_init_25 : decode cX2_init 25 = .ok (.putfield 18, 3) := by decide +kernel
theorem dX2_init_28 : decode cX2_init 28 = .ok (.aload_n 0, 1) := by decide +kernel
theorem dX2_init_29 : decode cX2_init 29 = .ok (.iconst 0, 1) := by decide +kernel
theorem dX2_init_30 : decode cX2_init 30 = .ok (.putfield 21, 3) := by decide +kernel
theorem dX2_init_33 : decode cX2_init 33 = .ok (.return_, 1) := by decide +kernel
theorem dX2_copyFrom_0 : decode cX2_copyFrom 0 = .ok (.aload_n 0, 1) := by decide +kernel
theorem dX2_copyFrom_1 : decode cX2_copyFrom 1 = .ok (.aload_n 1, 1) := by decide +kernel
theorem dX2_copyFrom_2 : decode cX2_copyFrom 2 = .ok (.getfield 21, 3) := by decide +kernel
theorem dX2_copyFrom_5 : decode cX2_copyFrom 5 = .ok (.invokevirtual 25, 3) := by decide +kernel
theorem dX2_copyFrom_8 : decode cX2_copyFrom 8 = .ok (.aload_n 1, 1) := by decide +kernel
theorem dX2_copyFrom_9 : decode cX2_copyFrom 9 = .ok (.getfield 9, 3) := by decide +kernel
theorem dX2_copyFrom_12 : decode cX2_copyFrom 12 = .ok (.iconst 0, 1) := by decide +kernel
theorem dX2_copyFrom_13 : decode cX2_copyFrom 13 = .ok (.aload_n 0, 1) := by decide +kernel
theorem dX2_copyFrom_14 : decode cX2_copyFrom 14 = .ok (.getfield 9, 3) := by decide +kernel
theorem dX2_copyFrom_17 : decode cX2_copyFrom 17 = .ok (.iconst 0, 1) := by decide +kernel
theorem dX2_copyFrom_18 : decode cX2_copyFrom 18 = .ok (.aload_n 1, 1) := by decide +kernel
theorem dX2_copyFrom_19 : decode cX2_copyFrom 19 = .ok (.getfield 21, 3) := by decide +kernel
theorem dX2_copyFrom_22 : decode cX2_copyFrom 22 = .ok (.invokestatic 29, 3) := by decide +kernel
theorem dX2_copyFrom_25 : decode cX2_copyFrom 25 = .ok (.aload_n 1, 1) := by decide +kernel
theorem dX2_copyFrom_26 : decode cX2_copyFrom 26 = .ok (.getfield 15, 3) := by decide +kernel
theorem dX2_copyFrom_29 : decode cX2_copyFrom 29 = .ok (.iconst 0, 1) := by decide +kernel
theorem dX2_copyFrom_30 : decode cX2_copyFrom 30 = .ok (.aload_n 0, 1) := by decide +kernel
theorem dX2_copyFrom_31 : decode cX2_copyFrom 31 = .ok (.getfield 15, 3) := by decide +kernel
theorem dX2_copyFrom_34 : decode cX2_copyFrom 34 = .ok (.iconst 0, 1) := by decide +kernel
theorem dX2_copyFrom_35 : decode cX2_copyFrom 35 = .ok (.aload_n 1, 1) := by decide +kernel
theorem dX2_copyFrom_36 : decode cX2_copyFrom 36 = .ok (.getfield 21, 3) := by decide +kernel
theorem dX2_copyFrom_39 : decode cX2_copyFrom 39 = .ok (.invokestatic 29, 3) := by decide +kernel
theorem dX2_copyFrom_42 : decode cX2_copyFrom 42 = .ok (.aload_n 1, 1) := by decide +kernel
theorem dX2_copyFrom_43 : decode cX2_copyFrom 43 = .ok (.getfield 18, 3) := by decide +kernel
theorem dX2_copyFrom_46 : decode cX2_copyFrom 46 = .ok (.iconst 0, 1) := by decide +kernel
theorem dX2_copyFrom_47 : decode cX2_copyFrom 47 = .ok (.aload_n 0, 1) := by decide +kernel
theorem dX2_copyFrom_48 : decode cX2_copyFrom 48 = .ok (.getfield 18, 3) := by decide +kernel
theorem dX2_copyFrom_51 : decode cX2_copyFrom 51 = .ok (.iconst 0, 1) := by decide +kernel
theorem dX2_copyFrom_52 : decode cX2_copyFrom 52 = .ok (.aload_n 1, 1) := by decide +kernel
theorem dX2_copyFrom_53 : decode cX2_copyFrom 53 = .ok (.getfield 21, 3) := by decide +kernel
theorem dX2_copyFrom_56 : decode cX2_copyFrom 56 = .ok (.invokestatic 29, 3) := by decide +kernel
theorem dX2_copyFrom_59 : decode cX2_copyFrom 59 = .ok (.aload_n 0, 1) := by decide +kernel
theorem dX2_copyFrom_60 : decode cX2_copyFrom 60 = .ok (.aload_n 1, 1) := by decide +kernel
theorem dX2_copyFrom_61 : decode cX2_copyFrom 61 = .ok (.getfield 21, 3) := by decide +kernel
theorem dX2_copyFrom_64 : decode cX2_copyFrom 64 = .ok (.putfield 21, 3) := by decide +kernel
theorem dX2_copyFrom_67 : decode cX2_copyFrom 67 = .ok (.return_, 1) := by decide +kernel
theorem dX2_put_0 : decode cX2_put 0 = .ok (.aload_n 0, 1) := by decide +kernel
theorem dX2_put_1 : decode cX2_put 1 = .ok (.getfield 21, 3) := by decide +kernel
theorem dX2_put_4 : decode cX2_put 4 = .ok (.aload_n 0, 1) := by decide +kernel
theorem dX2_put_5 : decode cX2_put 5 = .ok (.getfield 9, 3) := by decide +kernel
theorem dX2_put_8 : decode cX2_put 8 = .ok (.arraylength, 1) := by decide +kernel
theorem dX2_put_9 : decode cX2_put 9 = .ok (.if_icmp .lt 4, 3) := by decide +kernel
theorem dX2_put_12 : decode cX2_put 12 = .ok (.return_, 1) := by decide +kernel
theorem dX2_put_13 : decode cX2_put 13 = .ok (.aload_n 0, 1) := by decide +kernel
theorem dX2_put_14 : decode cX2_put 14 = .ok (.getfield 9, 3) := by decide +kernel
theorem dX2_put_17 : decode cX2_put 17 = .ok (.aload_n 0, 1) := by decide +kernel
theorem dX2_put_18 : decode cX2_put 18 = .ok (.getfield 21, 3) := by decide +kernel
theorem dX2_put_21 : decode cX2_put 21 = .ok (.iload_n 1, 1) := by decide +kernel
theorem dX2_put_22 : decode cX2_put 22 = .ok (.iastore, 1) := by decide +kernel
theorem dX2_put_23 : decode cX2_put 23 = .ok (.aload_n 0, 1) := by decide +kernel
theorem dX2_put_24 : decode cX2_put 24 = .ok (.getfield 15, 3) := by decide +kernel
theorem dX2_put_27 : decode cX2_put 27 = .ok (.aload_n 0, 1) := by decide +kernel
theorem dX2_put_28 : decode cX2_put 28 = .ok (.getfield 21, 3) := by decide +kernel
theorem dX2_put_31 : decode cX2_put 31 = .ok (.iload_n 2, 1) := by decide +kernel
theorem dX2_put_32 : decode cX2_put 32 = .ok (.iastore, 1) := by decide +kernel
theorem dX2_put_33 : decode cX2_put 33 = .ok (.aload_n 0, 1) := by decide +kernel
theorem dX2_put_34 : decode cX2_put 34 = .ok (.getfield 18, 3) := by decide +kernel
theorem dX2_put_37 : decode cX2_put 37 = .ok (.aload_n 0, 1) := by decide +kernel
theorem dX2_put_38 : decode cX2_put 38 = .ok (.getfield 21, 3) := by decide +kernel
theorem dX2_put_41 : decode cX2_put 41 = .ok (.iload_n 3, 1) := by decide +kernel
theorem dX2_put_42 : decode cX2_put 42 = .ok (.iastore, 1) := by decide +kernel
theorem dX2_put_43 : decode cX2_put 43 = .ok (.aload_n 0, 1) := by decide +kernel
theorem dX2_put_44 : decode cX2_put 44 = .ok (.dup, 1) := by decide +kernel
theorem dX2_put_45 : decode cX2_put 45 = .ok (.getfield 21, 3) := by decide +kernel
theorem dX2_put_48 : decode cX2_put 48 = .ok (.iconst 1, 1) := by decide +kernel
theorem dX2_put_49 : decode cX2_put 49 = .ok (.iadd, 1) := by decide +kernel
theorem dX2_put_50 : decode cX2_put 50 = .ok (.putfield 21, 3) := by decide +kernel
theorem dX2_put_53 : decode cX2_put 53 = .ok (.return_, 1) := by decide +kernel
theorem dX2_takeAway_0 : decode cX2_takeAway 0 = .ok (.iload_n 1, 1) := by decide +kernel
theorem dX2_takeAway_1 : decode cX2_takeAway 1 = .ok (.iconst 1, 1) := by decide +kernel
theorem dX2_takeAway_2 : decode cX2_takeAway 2 = .ok (.iadd, 1) := by decide +kernel
theorem dX2_takeAway_3 : decode cX2_takeAway 3 = .ok (.istore_n 2, 1) := by decide +kernel
theorem dX2_takeAway_4 : decode cX2_takeAway 4 = .ok (.iload_n 2, 1) := by decide +kernel
theorem dX2_takeAway_5 : decode cX2_takeAway 5 = .ok (.aload_n 0, 1) := by decide +kernel
theorem dX2_takeAway_6 : decode cX2_takeAway 6 = .ok (.getfield 21, 3) := by decide +kernel
theorem dX2_takeAway_9 : decode cX2_takeAway 9 = .ok (.if_icmp .ge 51, 3) := by decide +kernel
theorem dX2_takeAway_12 : decode cX2_takeAway 12 = .ok (.aload_n 0, 1) := by decide +kernel
theorem dX2_takeAway_13 : decode cX2_takeAway 13 = .ok (.getfield 9, 3) := by decide +kernel
theorem dX2_takeAway_16 : decode cX2_takeAway 16 = .ok (.iload_n 2, 1) := by decide +kernel
theorem dX2_takeAway_17 : decode cX2_takeAway 17 = .ok (.iconst 1, 1) := by decide +kernel
theorem dX2_takeAway_18 : decode cX2_takeAway 18 = .ok (.isub, 1) := by decide +kernel
theorem dX2_takeAway_19 : decode cX2_takeAway 19 = .ok (.aload_n 0, 1) := by decide +kernel
theorem dX2_takeAway_20 : decode cX2_takeAway 20 = .ok (.getfield 9, 3) := by decide +kernel
theorem dX2_takeAway_23 : decode cX2_takeAway 23 = .ok (.iload_n 2, 1) := by decide +kernel
theorem dX2_takeAway_24 : decode cX2_takeAway 24 = .ok (.iaload, 1) := by decide +kernel
theorem dX2_takeAway_25 : decode cX2_takeAway 25 = .ok (.iastore, 1) := by decide +kernel
theorem dX2_takeAway_26 : decode cX2_takeAway 26 = .ok (.aload_n 0, 1) := by decide +kernel
theorem dX2_takeAway_27 : decode cX2_takeAway 27 = .ok (.getfield 15, 3) := by decide +kernel
theorem dX2_takeAway_30 : decode cX2_takeAway 30 = .ok (.iload_n 2, 1) := by decide +kernel
theorem dX2_takeAway_31 : decode cX2_takeAway 31 = .ok (.iconst 1, 1) := by decide +kernel
theorem dX2_takeAway_32 : decode cX2_takeAway 32 = .ok (.isub, 1) := by decide +kernel
theorem dX2_takeAway_33 : decode cX2_takeAway 33 = .ok (.aload_n 0, 1) := by decide +kernel
theorem dX2_takeAway_34 : decode cX2_takeAway 34 = .ok (.getfield 15, 3) := by decide +kernel
theorem dX2_takeAway_37 : decode cX2_takeAway 37 = .ok (.iload_n 2, 1) := by decide +kernel
theorem dX2_takeAway_38 : decode cX2_takeAway 38 = .ok (.iaload, 1) := by decide +kernel
theorem dX2_takeAway_39 : decode cX2_takeAway 39 = .ok (.iastore, 1) := by decide +kernel
theorem dX2_takeAway_40 : decode cX2_takeAway 40 = .ok (.aload_n 0, 1) := by decide +kernel
theorem dX2_takeAway_41 : decode cX2_takeAway 41 = .ok (.getfield 18, 3) := by decide +kernel
theorem dX2_takeAway_44 : decode cX2_takeAway 44 = .ok (.iload_n 2, 1) := by decide +kernel
theorem dX2_takeAway_45 : decode cX2_takeAway 45 = .ok (.iconst 1, 1) := by decide +kernel
theorem dX2_takeAway_46 : decode cX2_takeAway 46 = .ok (.isub, 1) := by decide +kernel
theorem dX2_takeAway_47 : decode cX2_takeAway 47 = .ok (.aload_n 0, 1) := by decide +kernel
theorem dX2_takeAway_48 : decode cX2_takeAway 48 = .ok (.getfield 18, 3) := by decide +kernel
theorem dX2_takeAway_51 : decode cX2_takeAway 51 = .ok (.iload_n 2, 1) := by decide +kernel
theorem dX2_takeAway_52 : decode cX2_takeAway 52 = .ok (.iaload, 1) := by decide +kernel
theorem dX2_takeAway_53 : decode cX2_takeAway 53 = .ok (.iastore, 1) := by decide +kernel
theorem dX2_takeAway_54 : decode cX2_takeAway 54 = .ok (.iinc 2 1, 3) := by decide +kernel
theorem dX2_takeAway_57 : decode cX2_takeAway 57 = .ok (.goto (-53), 3) := by decide +kernel
theorem dX2_takeAway_60 : decode cX2_takeAway 60 = .ok (.aload_n 0, 1) := by decide +kernel
theorem dX2_takeAway_61 : decode cX2_takeAway 61 = .ok (.dup, 1) := by decide +kernel
theorem dX2_takeAway_62 : decode cX2_takeAway 62 = .ok (.getfield 21, 3) := by decide +kernel
theorem dX2_takeAway_65 : decode cX2_takeAway 65 = .ok (.iconst 1, 1) := by decide +kernel
theorem dX2_takeAway_66 : decode cX2_takeAway 66 = .ok (.isub, 1) := by decide +kernel
theorem dX2_takeAway_67 : decode cX2_takeAway 67 = .ok (.putfield 21, 3) := by decide +kernel
theorem dX2_takeAway_70 : decode cX2_takeAway 70 = .ok (.return_, 1) := by decide +kernel
theorem dX2_makeRoomFor_0 : decode cX2_makeRoomFor 0 = .ok (.iload_n 1, 1) := by decide +kernel
theorem dX2_makeRoomFor_1 : decode cX2_makeRoomFor 1 = .ok (.sipush 640, 3) := by decide +kernel
theorem dX2_makeRoomFor_4 : decode cX2_makeRoomFor 4 = .ok (.invokestatic 35, 3) := by decide +kernel
theorem dX2_makeRoomFor_7 : decode cX2_makeRoomFor 7 = .ok (.istore_n 2, 1) := by decide +kernel
theorem dX2_makeRoomFor_8 : decode cX2_makeRoomFor 8 = .ok (.iload_n 2, 1) := by decide +kernel
theorem dX2_makeRoomFor_9 : decode cX2_makeRoomFor 9 = .ok (.aload_n 0, 1) := by decide +kernel
theorem dX2_makeRoomFor_10 : decode cX2_makeRoomFor 10 = .ok (.getfield 9, 3) := by decide +kernel
theorem dX2_makeRoomFor_13 : decode cX2_makeRoomFor 13 = .ok (.arraylength, 1) := by decide +kernel
theorem dX2_makeRoomFor_14 : decode cX2_makeRoomFor 14 = .ok (.if_icmp .gt 4, 3) := by decide +kernel
theorem dX2_makeRoomFor_17 : decode cX2_makeRoomFor 17 = .ok (.return_, 1) := by decide +kernel
theorem dX2_makeRoomFor_18 : decode cX2_makeRoomFor 18 = .ok (.iload_n 2, 1) := by decide +kernel
theorem dX2_makeRoomFor_19 : decode cX2_makeRoomFor 19 = .ok (.iconst 2, 1) := by decide +kernel
theorem dX2_makeRoomFor_20 : decode cX2_makeRoomFor 20 = .ok (.aload_n 0, 1) := by decide +kernel
theorem dX2_makeRoomFor_21 : decode cX2_makeRoomFor 21 = .ok (.getfield 9, 3) := by decide +kernel
theorem dX2_makeRoomFor_24 : decode cX2_makeRoomFor 24 = .ok (.arraylength, 1) := by decide +kernel
theorem dX2_makeRoomFor_25 : decode cX2_makeRoomFor 25 = .ok (.imul, 1) := by decide +kernel
theorem dX2_makeRoomFor_26 : decode cX2_makeRoomFor 26 = .ok (.sipush 640, 3) := by decide +kernel
theorem dX2_makeRoomFor_29 : decode cX2_makeRoomFor 29 = .ok (.invokestatic 35, 3) := by decide +kernel
theorem dX2_makeRoomFor_32 : decode cX2_makeRoomFor 32 = .ok (.invokestatic 41, 3) := by decide +kernel
theorem dX2_makeRoomFor_35 : decode cX2_makeRoomFor 35 = .ok (.istore_n 3, 1) := by decide +kernel
theorem dX2_makeRoomFor_36 : decode cX2_makeRoomFor 36 = .ok (.aload_n 0, 1) := by decide +kernel
theorem dX2_makeRoomFor_37 : decode cX2_makeRoomFor 37 = .ok (.aload_n 0, 1) := by decide +kernel
theorem dX2_makeRoomFor_38 : decode cX2_makeRoomFor 38 = .ok (.getfield 9, 3) := by decide +kernel
theorem dX2_makeRoomFor_41 : decode cX2_makeRoomFor 41 = .ok (.iload_n 3, 1) := by decide +kernel
theorem dX2_makeRoomFor_42 : decode cX2_makeRoomFor 42 = .ok (.invokestatic 44, 3) := by decide +kernel
theorem dX2_makeRoomFor_45 : decode cX2_makeRoomFor 45 = .ok (.putfield 9, 3) := by decide +kernel
theorem dX2_makeRoomFor_48 : decode cX2_makeRoomFor 48 = .ok (.aload_n 0, 1) := by decide +kernel
theorem dX2_makeRoomFor_49 : decode cX2_makeRoomFor 49 = .ok (.aload_n 0, 1) := by decide +kernel
theorem dX2_makeRoomFor_50 : decode cX2_makeRoomFor 50 = .ok (.getfield 15, 3) := by decide +kernel
theorem dX2_makeRoomFor_53 : decode cX2_makeRoomFor 53 = .ok (.iload_n 3, 1) := by decide +kernel
theorem dX2_makeRoomFor_54 : decode cX2_makeRoomFor 54 = .ok (.invokestatic 44, 3) := by decide +kernel
theorem dX2_makeRoomFor_57 : decode cX2_makeRoomFor 57 = .ok (.putfield 15, 3) := by decide +kernel
theorem dX2_makeRoomFor_60 : decode cX2_makeRoomFor 60 = .ok (.aload_n 0, 1) := by decide +kernel
theorem dX2_makeRoomFor_61 : decode cX2_makeRoomFor 61 = .ok (.aload_n 0, 1) := by decide +kernel
theorem dX2_makeRoomFor_62 : decode cX2_makeRoomFor 62 = .ok (.getfield 18, 3) := by decide +kernel
theorem dX2_makeRoomFor_65 : decode cX2_makeRoomFor 65 = .ok (.iload_n 3, 1) := by decide +kernel
theorem dX2_makeRoomFor_66 : decode cX2_makeRoomFor 66 = .ok (.invokestatic 44, 3) := by decide +kernel
theorem dX2_makeRoomFor_69 : decode cX2_makeRoomFor 69 = .ok (.putfield 18, 3) := by decide +kernel
theorem dX2_makeRoomFor_72 : decode cX2_makeRoomFor 72 = .ok (.return_, 1) := by decide +kernel
theorem dX2_countOf_0 : decode cX2_countOf 0 = .ok (.iconst 0, 1) := by decide +kernel
theorem dX2_countOf_1 : decode cX2_countOf 1 = .ok (.istore_n 2, 1) := by decide +kernel
theorem dX2_countOf_2 : decode cX2_countOf 2 = .ok (.iconst 0, 1) := by decide +kernel
theorem dX2_countOf_3 : decode cX2_countOf 3 = .ok (.istore_n 3, 1) := by decide +kernel
theorem dX2_countOf_4 : decode cX2_countOf 4 = .ok (.iload_n 3, 1) := by decide +kernel
theorem dX2_countOf_5 : decode cX2_countOf 5 = .ok (.aload_n 0, 1) := by decide +kernel
theorem dX2_countOf_6 : decode cX2_countOf 6 = .ok (.getfield 21, 3) := by decide +kernel
theorem dX2_countOf_9 : decode cX2_countOf 9 = .ok (.if_icmp .ge 22, 3) := by decide +kernel
theorem dX2_countOf_12 : decode cX2_countOf 12 = .ok (.aload_n 0, 1) := by decide +kernel
theorem dX2_countOf_13 : decode cX2_countOf 13 = .ok (.getfield 9, 3) := by decide +kernel
theorem dX2_countOf_16 : decode cX2_countOf 16 = .ok (.iload_n 3, 1) := by decide +kernel
theorem dX2_countOf_17 : decode cX2_countOf 17 = .ok (.iaload, 1) := by decide +kernel
theorem dX2_countOf_18 : decode cX2_countOf 18 = .ok (.iload_n 1, 1) := by decide +kernel
theorem dX2_countOf_19 : decode cX2_countOf 19 = .ok (.if_icmp .ne 6, 3) := by decide +kernel
theorem dX2_countOf_22 : decode cX2_countOf 22 = .ok (.iinc 2 1, 3) := by decide +kernel
theorem dX2_countOf_25 : decode cX2_countOf 25 = .ok (.iinc 3 1, 3) := by decide +kernel
theorem dX2_countOf_28 : decode cX2_countOf 28 = .ok (.goto (-24), 3) := by decide +kernel
theorem dX2_countOf_31 : decode cX2_countOf 31 = .ok (.iload_n 2, 1) := by decide +kernel
theorem dX2_countOf_32 : decode cX2_countOf 32 = .ok (.ireturn, 1) := by decide +kernel
theorem dX2_pagesOf_0 : decode cX2_pagesOf 0 = .ok (.iconst 0, 1) := by decide +kernel
theorem dX2_pagesOf_1 : decode cX2_pagesOf 1 = .ok (.istore_n 2, 1) := by decide +kernel
theorem dX2_pagesOf_2 : decode cX2_pagesOf 2 = .ok (.iconst 0, 1) := by decide +kernel
theorem dX2_pagesOf_3 : decode cX2_pagesOf 3 = .ok (.istore_n 3, 1) := by decide +kernel
theorem dX2_pagesOf_4 : decode cX2_pagesOf 4 = .ok (.iload_n 3, 1) := by decide +kernel
theorem dX2_pagesOf_5 : decode cX2_pagesOf 5 = .ok (.aload_n 0, 1) := by decide +kernel
theorem dX2_pagesOf_6 : decode cX2_pagesOf 6 = .ok (.getfield 21, 3) := by decide +kernel
theorem dX2_pagesOf_9 : decode cX2_pagesOf 9 = .ok (.if_icmp .ge 28, 3) := by decide +kernel
theorem dX2_pagesOf_12 : decode cX2_pagesOf 12 = .ok (.aload_n 0, 1) := by decide +kernel
theorem dX2_pagesOf_13 : decode cX2_pagesOf 13 = .ok (.getfield 9, 3) := by decide +kernel
theorem dX2_pagesOf_16 : decode cX2_pagesOf 16 = .ok (.iload_n 3, 1) := by decide +kernel
theorem dX2_pagesOf_17 : decode cX2_pagesOf 17 = .ok (.iaload, 1) := by decide +kernel
theorem dX2_pagesOf_18 : decode cX2_pagesOf 18 = .ok (.iload_n 1, 1) := by decide +kernel
theorem dX2_pagesOf_19 : decode cX2_pagesOf 19 = .ok (.if_icmp .ne 12, 3) := by decide +kernel
theorem dX2_pagesOf_22 : decode cX2_pagesOf 22 = .ok (.iload_n 2, 1) := by decide +kernel
theorem dX2_pagesOf_23 : decode cX2_pagesOf 23 = .ok (.aload_n 0, 1) := by decide +kernel
theorem dX2_pagesOf_24 : decode cX2_pagesOf 24 = .ok (.getfield 15, 3) := by decide +kernel
theorem dX2_pagesOf_27 : decode cX2_pagesOf 27 = .ok (.iload_n 3, 1) := by decide +kernel
theorem dX2_pagesOf_28 : decode cX2_pagesOf 28 = .ok (.iaload, 1) := by decide +kernel
theorem dX2_pagesOf_29 : decode cX2_pagesOf 29 = .ok (.iadd, 1) := by decide +kernel
theorem dX2_pagesOf_30 : decode cX2_pagesOf 30 = .ok (.istore_n 2, 1) := by decide +kernel
theorem dX2_pagesOf_31 : decode cX2_pagesOf 31 = .ok (.iinc 3 1, 3) := by decide +kernel
theorem dX2_pagesOf_34 : decode cX2_pagesOf 34 = .ok (.goto (-30), 3) := by decide +kernel
theorem dX2_pagesOf_37 : decode cX2_pagesOf 37 = .ok (.iload_n 2, 1) := by decide +kernel
theorem dX2_pagesOf_38 : decode cX2_pagesOf 38 = .ok (.ireturn, 1) := by decide +kernel
theorem dX2_allPages_0 : decode cX2_allPages 0 = .ok (.iconst 0, 1) := by decide +kernel
theorem dX2_allPages_1 : decode cX2_allPages 1 = .ok (.istore_n 1, 1) := by decide +kernel
theorem dX2_allPages_2 : decode cX2_allPages 2 = .ok (.iconst 0, 1) := by decide +kernel
theorem dX2_allPages_3 : decode cX2_allPages 3 = .ok (.istore_n 2, 1) := by decide +kernel
theorem dX2_allPages_4 : decode cX2_allPages 4 = .ok (.iload_n 2, 1) := by decide +kernel
theorem dX2_allPages_5 : decode cX2_allPages 5 = .ok (.aload_n 0, 1) := by decide +kernel
theorem dX2_allPages_6 : decode cX2_allPages 6 = .ok (.getfield 21, 3) := by decide +kernel
theorem dX2_allPages_9 : decode cX2_allPages 9 = .ok (.if_icmp .ge 18, 3) := by decide +kernel
theorem dX2_allPages_12 : decode cX2_allPages 12 = .ok (.iload_n 1, 1) := by decide +kernel
theorem dX2_allPages_13 : decode cX2_allPages 13 = .ok (.aload_n 0, 1) := by decide +kernel
theorem dX2_allPages_14 : decode cX2_allPages 14 = .ok (.getfield 15, 3) := by decide +kernel
theorem dX2_allPages_17 : decode cX2_allPages 17 = .ok (.iload_n 2, 1) := by decide +kernel
theorem dX2_allPages_18 : decode cX2_allPages 18 = .ok (.iaload, 1) := by decide +kernel
theorem dX2_allPages_19 : decode cX2_allPages 19 = .ok (.iadd, 1) := by decide +kernel
theorem dX2_allPages_20 : decode cX2_allPages 20 = .ok (.istore_n 1, 1) := by decide +kernel
theorem dX2_allPages_21 : decode cX2_allPages 21 = .ok (.iinc 2 1, 3) := by decide +kernel
theorem dX2_allPages_24 : decode cX2_allPages 24 = .ok (.goto (-20), 3) := by decide +kernel
theorem dX2_allPages_27 : decode cX2_allPages 27 = .ok (.iload_n 1, 1) := by decide +kernel
theorem dX2_allPages_28 : decode cX2_allPages 28 = .ok (.ireturn, 1) := by decide +kernel
theorem dX2_placeOf_0 : decode cX2_placeOf 0 = .ok (.iconst 0, 1) := by decide +kernel
theorem dX2_placeOf_1 : decode cX2_placeOf 1 = .ok (.istore_n 3, 1) := by decide +kernel
theorem dX2_placeOf_2 : decode cX2_placeOf 2 = .ok (.iconst 0, 1) := by decide +kernel
theorem dX2_placeOf_3 : decode cX2_placeOf 3 = .ok (.istore 4, 2) := by decide +kernel
theorem dX2_placeOf_5 : decode cX2_placeOf 5 = .ok (.iload 4, 2) := by decide +kernel
theorem dX2_placeOf_7 : decode cX2_placeOf 7 = .ok (.aload_n 0, 1) := by decide +kernel
theorem dX2_placeOf_8 : decode cX2_placeOf 8 = .ok (.getfield 21, 3) := by decide +kernel
theorem dX2_placeOf_11 : decode cX2_placeOf 11 = .ok (.if_icmp .ge 31, 3) := by decide +kernel
theorem dX2_placeOf_14 : decode cX2_placeOf 14 = .ok (.aload_n 0, 1) := by decide +kernel
theorem dX2_placeOf_15 : decode cX2_placeOf 15 = .ok (.getfield 9, 3) := by decide +kernel
theorem dX2_placeOf_18 : decode cX2_placeOf 18 = .ok (.iload 4, 2) := by decide +kernel
theorem dX2_placeOf_20 : decode cX2_placeOf 20 = .ok (.iaload, 1) := by decide +kernel
theorem dX2_placeOf_21 : decode cX2_placeOf 21 = .ok (.iload_n 1, 1) := by decide +kernel
theorem dX2_placeOf_22 : decode cX2_placeOf 22 = .ok (.if_icmp .ne 14, 3) := by decide +kernel
theorem dX2_placeOf_25 : decode cX2_placeOf 25 = .ok (.iload_n 3, 1) := by decide +kernel
theorem dX2_placeOf_26 : decode cX2_placeOf 26 = .ok (.iload_n 2, 1) := by decide +kernel
theorem dX2_placeOf_27 : decode cX2_placeOf 27 = .ok (.if_icmp .ne 6, 3) := by decide +kernel
theorem dX2_placeOf_30 : decode cX2_placeOf 30 = .ok (.iload 4, 2) := by decide +kernel
theorem dX2_placeOf_32 : decode cX2_placeOf 32 = .ok (.ireturn, 1) := by decide +kernel
theorem dX2_placeOf_33 : decode cX2_placeOf 33 = .ok (.iinc 3 1, 3) := by decide +kernel
theorem dX2_placeOf_36 : decode cX2_placeOf 36 = .ok (.iinc 4 1, 3) := by decide +kernel
theorem dX2_placeOf_39 : decode cX2_placeOf 39 = .ok (.goto (-34), 3) := by decide +kernel
theorem dX2_placeOf_42 : decode cX2_placeOf 42 = .ok (.iconst (-1), 1) := by decide +kernel
theorem dX2_placeOf_43 : decode cX2_placeOf 43 = .ok (.ireturn, 1) := by decide +kernel
theorem dX2_nextOf_0 : decode cX2_nextOf 0 = .ok (.iconst (-1), 1) := by decide +kernel
theorem dX2_nextOf_1 : decode cX2_nextOf 1 = .ok (.istore_n 2, 1) := by decide +kernel
theorem dX2_nextOf_2 : decode cX2_nextOf 2 = .ok (.iconst 0, 1) := by decide +kernel
theorem dX2_nextOf_3 : decode cX2_nextOf 3 = .ok (.istore_n 3, 1) := by decide +kernel
theorem dX2_nextOf_4 : decode cX2_nextOf 4 = .ok (.iload_n 3, 1) := by decide +kernel
theorem dX2_nextOf_5 : decode cX2_nextOf 5 = .ok (.aload_n 0, 1) := by decide +kernel
theorem dX2_nextOf_6 : decode cX2_nextOf 6 = .ok (.getfield 21, 3) := by decide +kernel
theorem dX2_nextOf_9 : decode cX2_nextOf 9 = .ok (.if_icmp .ge 41, 3) := by decide +kernel
theorem dX2_nextOf_12 : decode cX2_nextOf 12 = .ok (.aload_n 0, 1) := by decide +kernel
theorem dX2_nextOf_13 : decode cX2_nextOf 13 = .ok (.getfield 9, 3) := by decide +kernel
theorem dX2_nextOf_16 : decode cX2_nextOf 16 = .ok (.iload_n 3, 1) := by decide +kernel
theorem dX2_nextOf_17 : decode cX2_nextOf 17 = .ok (.iaload, 1) := by decide +kernel
theorem dX2_nextOf_18 : decode cX2_nextOf 18 = .ok (.iload_n 1, 1) := by decide +kernel
theorem dX2_nextOf_19 : decode cX2_nextOf 19 = .ok (.if_icmp .ne 25, 3) := by decide +kernel
theorem dX2_nextOf_22 : decode cX2_nextOf 22 = .ok (.iload_n 2, 1) := by decide +kernel
theorem dX2_nextOf_23 : decode cX2_nextOf 23 = .ok (.iconst (-1), 1) := by decide +kernel
theorem dX2_nextOf_24 : decode cX2_nextOf 24 = .ok (.if_icmp .eq 18, 3) := by decide +kernel
theorem dX2_nextOf_27 : decode cX2_nextOf 27 = .ok (.aload_n 0, 1) := by decide +kernel
theorem dX2_nextOf_28 : decode cX2_nextOf 28 = .ok (.getfield 18, 3) := by decide +kernel
theorem dX2_nextOf_31 : decode cX2_nextOf 31 = .ok (.iload_n 3, 1) := by decide +kernel
theorem dX2_nextOf_32 : decode cX2_nextOf 32 = .ok (.iaload, 1) := by decide +kernel
theorem dX2_nextOf_33 : decode cX2_nextOf 33 = .ok (.aload_n 0, 1) := by decide +kernel
theorem dX2_nextOf_34 : decode cX2_nextOf 34 = .ok (.getfield 18, 3) := by decide +kernel
theorem dX2_nextOf_37 : decode cX2_nextOf 37 = .ok (.iload_n 2, 1) := by decide +kernel
theorem dX2_nextOf_38 : decode cX2_nextOf 38 = .ok (.iaload, 1) := by decide +kernel
theorem dX2_nextOf_39 : decode cX2_nextOf 39 = .ok (.if_icmp .ge 5, 3) := by decide +kernel
theorem dX2_nextOf_42 : decode cX2_nextOf 42 = .ok (.iload_n 3, 1) := by decide +kernel
theorem dX2_nextOf_43 : decode cX2_nextOf 43 = .ok (.istore_n 2, 1) := by decide +kernel
theorem dX2_nextOf_44 : decode cX2_nextOf 44 = .ok (.iinc 3 1, 3) := by decide +kernel
theorem dX2_nextOf_47 : decode cX2_nextOf 47 = .ok (.goto (-43), 3) := by decide +kernel
theorem dX2_nextOf_50 : decode cX2_nextOf 50 = .ok (.iload_n 2, 1) := by decide +kernel
theorem dX2_nextOf_51 : decode cX2_nextOf 51 = .ok (.ireturn, 1) := by decide +kernel
theorem dX2_dueUpTo_0 : decode cX2_dueUpTo 0 = .ok (.iconst 0, 1) := by decide +kernel
theorem dX2_dueUpTo_1 : decode cX2_dueUpTo 1 = .ok (.istore_n 2, 1) := by decide +kernel
theorem dX2_dueUpTo_2 : decode cX2_dueUpTo 2 = .ok (.iconst 0, 1) := by decide +kernel
theorem dX2_dueUpTo_3 : decode cX2_dueUpTo 3 = .ok (.istore_n 3, 1) := by decide +kernel
theorem dX2_dueUpTo_4 : decode cX2_dueUpTo 4 = .ok (.iload_n 3, 1) := by decide +kernel
theorem dX2_dueUpTo_5 : decode cX2_dueUpTo 5 = .ok (.aload_n 0, 1) := by decide +kernel
theorem dX2_dueUpTo_6 : decode cX2_dueUpTo 6 = .ok (.getfield 21, 3) := by decide +kernel
theorem dX2_dueUpTo_9 : decode cX2_dueUpTo 9 = .ok (.if_icmp .ge 22, 3) := by decide +kernel
theorem dX2_dueUpTo_12 : decode cX2_dueUpTo 12 = .ok (.aload_n 0, 1) := by decide +kernel
theorem dX2_dueUpTo_13 : decode cX2_dueUpTo 13 = .ok (.getfield 18, 3) := by decide +kernel
theorem dX2_dueUpTo_16 : decode cX2_dueUpTo 16 = .ok (.iload_n 3, 1) := by decide +kernel
theorem dX2_dueUpTo_17 : decode cX2_dueUpTo 17 = .ok (.iaload, 1) := by decide +kernel
theorem dX2_dueUpTo_18 : decode cX2_dueUpTo 18 = .ok (.iload_n 1, 1) := by decide +kernel
theorem dX2_dueUpTo_19 : decode cX2_dueUpTo 19 = .ok (.if_icmp .gt 6, 3) := by decide +kernel
theorem dX2_dueUpTo_22 : decode cX2_dueUpTo 22 = .ok (.iinc 2 1, 3) := by decide +kernel
theorem dX2_dueUpTo_25 : decode cX2_dueUpTo 25 = .ok (.iinc 3 1, 3) := by decide +kernel
theorem dX2_dueUpTo_28 : decode cX2_dueUpTo 28 = .ok (.goto (-24), 3) := by decide +kernel
theorem dX2_dueUpTo_31 : decode cX2_dueUpTo 31 = .ok (.iload_n 2, 1) := by decide +kernel
theorem dX2_dueUpTo_32 : decode cX2_dueUpTo 32 = .ok (.ireturn, 1) := by decide +kernel
theorem dX3_init_0 : decode cX3_init 0 = .ok (.aload_n 0, 1) := by decide +kernel
theorem dX3_init_1 : decode cX3_init 1 = .ok (.invokespecial 1, 3) := by decide +kernel
theorem dX3_init_4 : decode cX3_init 4 = .ok (.return_, 1) := by decide +kernel
theorem dX3_copyFrom_0 : decode cX3_copyFrom 0 = .ok (.aload_n 0, 1) := by decide +kernel
theorem dX3_copyFrom_1 : decode cX3_copyFrom 1 = .ok (.aload_n 1, 1) := by decide +kernel
theorem dX3_copyFrom_2 : decode cX3_copyFrom 2 = .ok (.getfield 7, 3) := by decide +kernel
theorem dX3_copyFrom_5 : decode cX3_copyFrom 5 = .ok (.putfield 7, 3) := by decide +kernel
theorem dX3_copyFrom_8 : decode cX3_copyFrom 8 = .ok (.aload_n 0, 1) := by decide +kernel
theorem dX3_copyFrom_9 : decode cX3_copyFrom 9 = .ok (.aload_n 1, 1) := by decide +kernel
theorem dX3_copyFrom_10 : decode cX3_copyFrom 10 = .ok (.getfield 13, 3) := by decide +kernel
theorem dX3_copyFrom_13 : decode cX3_copyFrom 13 = .ok (.putfield 13, 3) := by decide +kernel
theorem dX3_copyFrom_16 : decode cX3_copyFrom 16 = .ok (.aload_n 0, 1) := by decide +kernel
theorem dX3_copyFrom_17 : decode cX3_copyFrom 17 = .ok (.aload_n 1, 1) := by decide +kernel
theorem dX3_copyFrom_18 : decode cX3_copyFrom 18 = .ok (.getfield 16, 3) := by decide +kernel
theorem dX3_copyFrom_21 : decode cX3_copyFrom 21 = .ok (.putfield 16, 3) := by decide +kernel
theorem dX3_copyFrom_24 : decode cX3_copyFrom 24 = .ok (.aload_n 0, 1) := by decide +kernel
theorem dX3_copyFrom_25 : decode cX3_copyFrom 25 = .ok (.aload_n 1, 1) := by decide +kernel
theorem dX3_copyFrom_26 : decode cX3_copyFrom 26 = .ok (.getfield 19, 3) := by decide +kernel
theorem dX3_copyFrom_29 : decode cX3_copyFrom 29 = .ok (.putfield 19, 3) := by decide +kernel
theorem dX3_copyFrom_32 : decode cX3_copyFrom 32 = .ok (.aload_n 0, 1) := by decide +kernel
theorem dX3_copyFrom_33 : decode cX3_copyFrom 33 = .ok (.aload_n 1, 1) := by decide +kernel
theorem dX3_copyFrom_34 : decode cX3_copyFrom 34 = .ok (.getfield 22, 3) := by decide +kernel
theorem dX3_copyFrom_37 : decode cX3_copyFrom 37 = .ok (.putfield 22, 3) := by decide +kernel
theorem dX3_copyFrom_40 : decode cX3_copyFrom 40 = .ok (.aload_n 0, 1) := by decide +kernel
theorem dX3_copyFrom_41 : decode cX3_copyFrom 41 = .ok (.aload_n 1, 1) := by decide +kernel
theorem dX3_copyFrom_42 : decode cX3_copyFrom 42 = .ok (.getfield 25, 3) := by decide +kernel
theorem dX3_copyFrom_45 : decode cX3_copyFrom 45 = .ok (.putfield 25, 3) := by decide +kernel
theorem dX3_copyFrom_48 : decode cX3_copyFrom 48 = .ok (.return_, 1) := by decide +kernel
theorem dX3_bits_0 : decode cX3_bits 0 = .ok (.iconst 1, 1) := by decide +kernel
theorem dX3_bits_1 : decode cX3_bits 1 = .ok (.aload_n 0, 1) := by decide +kernel
theorem dX3_bits_2 : decode cX3_bits 2 = .ok (.getfield 19, 3) := by decide +kernel
theorem dX3_bits_5 : decode cX3_bits 5 = .ok (.ishl, 1) := by decide +kernel
theorem dX3_bits_6 : decode cX3_bits 6 = .ok (.iconst 1, 1) := by decide +kernel
theorem dX3_bits_7 : decode cX3_bits 7 = .ok (.isub, 1) := by decide +kernel
theorem dX3_bits_8 : decode cX3_bits 8 = .ok (.aload_n 0, 1) := by decide +kernel
theorem dX3_bits_9 : decode cX3_bits 9 = .ok (.getfield 16, 3) := by decide +kernel
theorem dX3_bits_12 : decode cX3_bits 12 = .ok (.ishl, 1) := by decide +kernel
theorem dX3_bits_13 : decode cX3_bits 13 = .ok (.ireturn, 1) := by decide +kernel
theorem dX3_order_0 : decode cX3_order 0 = .ok (.aload_n 0, 1) := by decide +kernel
theorem dX3_order_1 : decode cX3_order 1 = .ok (.getfield 13, 3) := by decide +kernel
theorem dX3_order_4 : decode cX3_order 4 = .ok (.bipush 17, 2) := by decide +kernel
theorem dX3_order_6 : decode cX3_order 6 = .ok (.imul, 1) := by decide +kernel
theorem dX3_order_7 : decode cX3_order 7 = .ok (.aload_n 0, 1) := by decide +kernel
theorem dX3_order_8 : decode cX3_order 8 = .ok (.getfield 16, 3) := by decide +kernel
theorem dX3_order_11 : decode cX3_order 11 = .ok (.iadd, 1) := by decide +kernel
theorem dX3_order_12 : decode cX3_order 12 = .ok (.iconst 5, 1) := by decide +kernel
theorem dX3_order_13 : decode cX3_order 13 = .ok (.imul, 1) := by decide +kernel
theorem dX3_order_14 : decode cX3_order 14 = .ok (.aload_n 0, 1) := by decide +kernel
theorem dX3_order_15 : decode cX3_order 15 = .ok (.getfield 7, 3) := by decide +kernel
theorem dX3_order_18 : decode cX3_order 18 = .ok (.iadd, 1) := by decide +kernel
theorem dX3_order_19 : decode cX3_order 19 = .ok (.ireturn, 1) := by decide +kernel
theorem dX4_init_0 : decode cX4_init 0 = .ok (.aload_n 0, 1) := by decide +kernel
theorem dX4_init_1 : decode cX4_init 1 = .ok (.invokespecial 3, 3) := by decide +kernel
theorem dX4_init_4 : decode cX4_init 4 = .ok (.aload_n 0, 1) := by decide +kernel
theorem dX4_init_5 : decode cX4_init 5 = .ok (.bipush 120, 2) := by decide +kernel
theorem dX4_init_7 : decode cX4_init 7 = .ok (.newarray .int, 2) := by decide +kernel
theorem dX4_init_9 : decode cX4_init 9 = .ok (.putfield 11, 3) := by decide +kernel
theorem dX4_init_12 : decode cX4_init 12 = .ok (.aload_n 0, 1) := by decide +kernel
theorem dX4_init_13 : decode cX4_init 13 = .ok (.iconst 0, 1) := by decide +kernel
theorem dX4_init_14 : decode cX4_init 14 = .ok (.putfield 15, 3) := by decide +kernel
theorem dX4_init_17 : decode cX4_init 17 = .ok (.aload_n 0, 1) := by decide +kernel
theorem dX4_init_18 : decode cX4_init 18 = .ok (.iconst 0, 1) := by decide +kernel
theorem dX4_init_19 : decode cX4_init 19 = .ok (.putfield 19, 3) := by decide +kernel
theorem dX4_init_22 : decode cX4_init 22 = .ok (.aload_n 0, 1) := by decide +kernel
theorem dX4_init_23 : decode cX4_init 23 = .ok (.iconst (-1), 1) := by decide +kernel
theorem dX4_init_24 : decode cX4_init 24 = .ok (.putfield 22, 3) := by decide +kernel
theorem dX4_init_27 : decode cX4_init 27 = .ok (.aload_n 0, 1) := by decide +kernel
theorem dX4_init_28 : decode cX4_init 28 = .ok (.iconst 0, 1) := by decide +kernel
theorem dX4_init_29 : decode cX4_init 29 = .ok (.putfield 25, 3) := by decide +kernel
theorem dX4_init_32 : decode cX4_init 32 = .ok (.aload_n 0, 1) := by decide +kernel
theorem dX4_init_33 : decode cX4_init 33 = .ok (.iconst 5, 1) := by decide +kernel
theorem dX4_init_34 : decode cX4_init 34 = .ok (.newarray .int, 2) := by decide +kernel
theorem dX4_init_36 : decode cX4_init 36 = .ok (.putfield 28, 3) := by decide +kernel
theorem dX4_init_39 : decode cX4_init 39 = .ok (.return_, 1) := by decide +kernel
theorem dX4_addSign_0 : decode cX4_addSign 0 = .ok (.aload_n 0, 1) := by decide +kernel
theorem dX4_addSign_1 : decode cX4_addSign 1 = .ok (.getfield 11, 3) := by decide +kernel
theorem dX4_addSign_4 : decode cX4_addSign 4 = .ok (.aload_n 0, 1) := by decide +kernel
theorem dX4_addSign_5 : decode cX4_addSign 5 = .ok (.getfield 15, 3) := by decide +kernel
theorem dX4_addSign_8 : decode cX4_addSign 8 = .ok (.iload_n 1, 1) := by decide +kernel
theorem dX4_addSign_9 : decode cX4_addSign 9 = .ok (.iastore, 1) := by decide +kernel
theorem dX4_addSign_10 : decode cX4_addSign 10 = .ok (.aload_n 0, 1) := by decide +kernel
theorem dX4_addSign_11 : decode cX4_addSign 11 = .ok (.dup, 1) := by decide +kernel
theorem dX4_addSign_12 : decode cX4_addSign 12 = .ok (.getfield 15, 3) := by decide +kernel
theorem dX4_addSign_15 : decode cX4_addSign 15 = .ok (.iconst 1, 1) := by decide +kernel
theorem dX4_addSign_16 : decode cX4_addSign 16 = .ok (.iadd, 1) := by decide +kernel
theorem dX4_addSign_17 : decode cX4_addSign 17 = .ok (.putfield 15, 3) := by decide +kernel
theorem dX4_addSign_20 : decode cX4_addSign 20 = .ok (.aload_n 0, 1) := by decide +kernel
theorem dX4_addSign_21 : decode cX4_addSign 21 = .ok (.getfield 15, 3) := by decide +kernel
theorem dX4_addSign_24 : decode cX4_addSign 24 = .ok (.ireturn, 1) := by decide +kernel
theorem dX4_findError_0 : decode cX4_findError 0 = .ok (.aload_n 0, 1) := by decide +kernel
theorem dX4_findError_1 : decode cX4_findError 1 = .ok (.invokevirtual 31, 3) := by decide +kernel
theorem dX4_findError_4 : decode cX4_findError 4 = .ok (.iconst 0, 1) := by decide +kernel
theorem dX4_findError_5 : decode cX4_findError 5 = .ok (.istore_n 1, 1) := by decide +kernel
theorem dX4_findError_6 : decode cX4_findError 6 = .ok (.iload_n 1, 1) := by decide +kernel
theorem dX4_findError_7 : decode cX4_findError 7 = .ok (.bipush 120, 2) := by decide +kernel
theorem dX4_findError_9 : decode cX4_findError 9 = .ok (.if_icmp .ge 16, 3) := by decide +kernel
theorem dX4_findError_12 : decode cX4_findError 12 = .ok (.aload_n 0, 1) := by decide +kernel
theorem dX4_findError_13 : decode cX4_findError 13 = .ok (.invokevirtual 34, 3) := by decide +kernel
theorem dX4_findError_16 : decode cX4_findError 16 = .ok (.ifCond .eq 9, 3) := by decide +kernel
theorem dX4_findError_19 : decode cX4_findError 19 = .ok (.iinc 1 1, 3) := by decide +kernel
theorem dX4_findError_22 : decode cX4_findError 22 = .ok (.goto (-16), 3) := by decide +kernel
theorem dX4_findError_25 : decode cX4_findError 25 = .ok (.aload_n 0, 1) := by decide +kernel
theorem dX4_findError_26 : decode cX4_findError 26 = .ok (.getfield 22, 3) := by decide +kernel
theorem dX4_findError_29 : decode cX4_findError 29 = .ok (.ireturn, 1) := by decide +kernel
theorem dX4_begin_0 : decode cX4_begin 0 = .ok (.aload_n 0, 1) := by decide +kernel
theorem dX4_begin_1 : decode cX4_begin 1 = .ok (.iconst 1, 1) := by decide +kernel
theorem dX4_begin_2 : decode cX4_begin 2 = .ok (.putfield 19, 3) := by decide +kernel
theorem dX4_begin_5 : decode cX4_begin 5 = .ok (.aload_n 0, 1) := by decide +kernel
theorem dX4_begin_6 : decode cX4_begin 6 = .ok (.aload_n 0, 1) := by decide +kernel
theorem dX4_begin_7 : decode cX4_begin 7 = .ok (.getfield 15, 3) := by decide +kernel
theorem dX4_begin_10 : decode cX4_begin 10 = .ok (.ifCond .le 18, 3) := by decide +kernel
theorem dX4_begin_13 : decode cX4_begin 13 = .ok (.aload_n 0, 1) := by decide +kernel
theorem dX4_begin_14 : decode cX4_begin 14 = .ok (.getfield 11, 3) := by decide +kernel
theorem dX4_begin_17 : decode cX4_begin 17 = .ok (.iconst 0, 1) := by decide +kernel
theorem dX4_begin_18 : decode cX4_begin 18 = .ok (.iaload, 1) := by decide +kernel
theorem dX4_begin_19 : decode cX4_begin 19 = .ok (.bipush 74, 2) := by decide +kernel
theorem dX4_begin_21 : decode cX4_begin 21 = .ok (.if_icmp .ne 7, 3) := by decide +kernel
theorem dX4_begin_24 : decode cX4_begin 24 = .ok (.iconst (-1), 1) := by decide +kernel
theorem dX4_begin_25 : decode cX4_begin 25 = .ok (.goto 4, 3) := by decide +kernel
theorem dX4_begin_28 : decode cX4_begin 28 = .ok (.iconst 0, 1) := by decide +kernel
theorem dX4_begin_29 : decode cX4_begin 29 = .ok (.putfield 22, 3) := by decide +kernel
theorem dX4_begin_32 : decode cX4_begin 32 = .ok (.return_, 1) := by decide +kernel
theorem dX4_readCommand_0 : decode cX4_readCommand 0 = .ok (.aload_n 0, 1) := by decide +kernel
theorem dX4_readCommand_1 : decode cX4_readCommand 1 = .ok (.getfield 22, 3) := by decide +kernel
theorem dX4_readCommand_4 : decode cX4_readCommand 4 = .ok (.iconst (-1), 1) := by decide +kernel
theorem dX4_readCommand_5 : decode cX4_readCommand 5 = .ok (.if_icmp .ne 14, 3) := by decide +kernel
theorem dX4_readCommand_8 : decode cX4_readCommand 8 = .ok (.aload_n 0, 1) := by decide +kernel
theorem dX4_readCommand_9 : decode cX4_readCommand 9 = .ok (.getfield 19, 3) := by decide +kernel
theorem dX4_readCommand_12 : decode cX4_readCommand 12 = .ok (.aload_n 0, 1) := by decide +kernel
theorem dX4_readCommand_13 : decode cX4_readCommand 13 = .ok (.getfield 15, 3) := by decide +kernel
theorem dX4_readCommand_16 : decode cX4_readCommand 16 = .ok (.if_icmp .lt 5, 3) := by decide +kernel
theorem dX4_readCommand_19 : decode cX4_readCommand 19 = .ok (.iconst 0, 1) := by decide +kernel
theorem dX4_readCommand_20 : decode cX4_readCommand 20 = .ok (.ireturn, 1) := by decide +kernel
theorem dX4_readCommand_21 : decode cX4_readCommand 21 = .ok (.aload_n 0, 1) := by decide +kernel
theorem dX4_readCommand_22 : decode cX4_readCommand 22 = .ok (.aload_n 0, 1) := by decide +kernel
theorem dX4_readCommand_23 : decode cX4_readCommand 23 = .ok (.getfield 11, 3) := by decide +kernel
theorem dX4_readCommand_26 : decode cX4_readCommand 26 = .ok (.aload_n 0, 1) := by decide +kernel
theorem dX4_readCommand_27 : decode cX4_readCommand 27 = .ok (.getfield 19, 3) := by decide +kernel
theorem dX4_readCommand_30 : decode cX4_readCommand 30 = .ok (.iaload, 1) := by decide +kernel
theorem dX4_readCommand_31 : decode cX4_readCommand 31 = .ok (.putfield 25, 3) := by decide +kernel
theorem dX4_readCommand_34 : decode cX4_readCommand 34 = .ok (.aload_n 0, 1) := by decide +kernel
theorem dX4_readCommand_35 : decode cX4_readCommand 35 = .ok (.dup, 1) := by decide +kernel
theorem dX4_readCommand_36 : decode cX4_readCommand 36 = .ok (.getfield 19, 3) := by decide +kernel
theorem dX4_readCommand_39 : decode cX4_readCommand 39 = .ok (.iconst 1, 1) := by decide +kernel
theorem dX4_readCommand_40 : decode cX4_readCommand 40 = .ok (.iadd, 1) := by decide +kernel
theorem dX4_readCommand_41 : decode cX4_readCommand 41 = .ok (.putfield 19, 3) := by decide +kernel
theorem dX4_readCommand_44 : decode cX4_readCommand 44 = .ok (.aload_n 0, 1) := by decide +kernel
theorem dX4_readCommand_45 : decode cX4_readCommand 45 = .ok (.getfield 25, 3) := by decide +kernel
theorem dX4_readCommand_48 : decode cX4_readCommand 48 = .ok (.lookupswitch 168 #[(97, 156), (100, 158), (103, 127), (110, 52), (115, 62)], 52) := by decide +kernel
theorem dX4_readCommand_100 : decode cX4_readCommand 100 = .ok (.aload_n 0, 1) := by decide +kernel
theorem dX4_readCommand_101 : decode cX4_readCommand 101 = .ok (.iconst 0, 1) := by decide +kernel
theorem dX4_readCommand_102 : decode cX4_readCommand 102 = .ok (.iconst 2, 1) := by decide +kernel
theorem dX4_readCommand_103 : decode cX4_readCommand 103 = .ok (.iconst 1, 1) := by decide +kernel
theorem dX4_readCommand_104 : decode cX4_readCommand 104 = .ok (.bipush 20, 2) := by decide +kernel
theorem dX4_readCommand_106 : decode cX4_readCommand 106 = .ok (.invokevirtual 38, 3) := by decide +kernel
theorem dX4_readCommand_109 : decode cX4_readCommand 109 = .ok (.ireturn, 1) := by decide +kernel
theorem dX4_readCommand_110 : decode cX4_readCommand 110 = .ok (.aload_n 0, 1) := by decide +kernel
theorem dX4_readCommand_111 : decode cX4_readCommand 111 = .ok (.iconst 0, 1) := by decide +kernel
theorem dX4_readCommand_112 : decode cX4_readCommand 112 = .ok (.iconst 1, 1) := by decide +kernel
theorem dX4_readCommand_113 : decode cX4_readCommand 113 = .ok (.iconst 0, 1) := by decide +kernel
theorem dX4_readCommand_114 : decode cX4_readCommand 114 = .ok (.iconst 4, 1) := by decide +kernel
theorem dX4_readCommand_115 : decode cX4_readCommand 115 = .ok (.invokevirtual 38, 3) := by decide +kernel
theorem dX4_readCommand_118 : decode cX4_readCommand 118 = .ok (.ifCond .eq 55, 3) := by decide +kernel
theorem dX4_readCommand_121 : decode cX4_readCommand 121 = .ok (.aload_n 0, 1) := by decide +kernel
theorem dX4_readCommand_122 : decode cX4_readCommand 122 = .ok (.iconst 1, 1) := by decide +kernel
theorem dX4_readCommand_123 : decode cX4_readCommand 123 = .ok (.iconst 1, 1) := by decide +kernel
theorem dX4_readCommand_124 : decode cX4_readCommand 124 = .ok (.iconst 0, 1) := by decide +kernel
theorem dX4_readCommand_125 : decode cX4_readCommand 125 = .ok (.bipush 9, 2) := by decide +kernel
theorem dX4_readCommand_127 : decode cX4_readCommand 127 = .ok (.invokevirtual 38, 3) := by decide +kernel
theorem dX4_readCommand_130 : decode cX4_readCommand 130 = .ok (.ifCond .eq 43, 3) := by decide +kernel
theorem dX4_readCommand_133 : decode cX4_readCommand 133 = .ok (.aload_n 0, 1) := by decide +kernel
theorem dX4_readCommand_134 : decode cX4_readCommand 134 = .ok (.iconst 2, 1) := by decide +kernel
theorem dX4_readCommand_135 : decode cX4_readCommand 135 = .ok (.iconst 2, 1) := by decide +kernel
theorem dX4_readCommand_136 : decode cX4_readCommand 136 = .ok (.iconst 0, 1) := by decide +kernel
theorem dX4_readCommand_137 : decode cX4_readCommand 137 = .ok (.bipush 15, 2) := by decide +kernel
theorem dX4_readCommand_139 : decode cX4_readCommand 139 = .ok (.invokevirtual 38, 3) := by decide +kernel
theorem dX4_readCommand_142 : decode cX4_readCommand 142 = .ok (.ifCond .eq 31, 3) := by decide +kernel
theorem dX4_readCommand_145 : decode cX4_readCommand 145 = .ok (.aload_n 0, 1) := by decide +kernel
theorem dX4_readCommand_146 : decode cX4_readCommand 146 = .ok (.iconst 3, 1) := by decide +kernel
theorem dX4_readCommand_147 : decode cX4_readCommand 147 = .ok (.iconst 2, 1) := by decide +kernel
theorem dX4_readCommand_148 : decode cX4_readCommand 148 = .ok (.iconst 1, 1) := by decide +kernel
theorem dX4_readCommand_149 : decode cX4_readCommand 149 = .ok (.bipush 16, 2) := by decide +kernel
theorem dX4_readCommand_151 : decode cX4_readCommand 151 = .ok (.invokevirtual 38, 3) := by decide +kernel
theorem dX4_readCommand_154 : decode cX4_readCommand 154 = .ok (.ifCond .eq 19, 3) := by decide +kernel
theorem dX4_readCommand_157 : decode cX4_readCommand 157 = .ok (.aload_n 0, 1) := by decide +kernel
theorem dX4_readCommand_158 : decode cX4_readCommand 158 = .ok (.iconst 4, 1) := by decide +kernel
theorem dX4_readCommand_159 : decode cX4_readCommand 159 = .ok (.iconst 1, 1) := by decide +kernel
theorem dX4_readCommand_160 : decode cX4_readCommand 160 = .ok (.iconst 1, 1) := by decide +kernel
theorem dX4_readCommand_161 : decode cX4_readCommand 161 = .ok (.bipush 9, 2) := by decide +kernel
theorem dX4_readCommand_163 : decode cX4_readCommand 163 = .ok (.invokevirtual 38, 3) := by decide +kernel
theorem dX4_readCommand_166 : decode cX4_readCommand 166 = .ok (.ifCond .eq 7, 3) := by decide +kernel
theorem dX4_readCommand_169 : decode cX4_readCommand 169 = .ok (.iconst 1, 1) := by decide +kernel
theorem dX4_readCommand_170 : decode cX4_readCommand 170 = .ok (.goto 4, 3) := by decide +kernel
theorem dX4_readCommand_173 : decode cX4_readCommand 173 = .ok (.iconst 0, 1) := by decide +kernel
theorem dX4_readCommand_174 : decode cX4_readCommand 174 = .ok (.ireturn, 1) := by decide +kernel
theorem dX4_readCommand_175 : decode cX4_readCommand 175 = .ok (.aload_n 0, 1) := by decide +kernel
theorem dX4_readCommand_176 : decode cX4_readCommand 176 = .ok (.iconst 0, 1) := by decide +kernel
theorem dX4_readCommand_177 : decode cX4_readCommand 177 = .ok (.iconst 2, 1) := by decide +kernel
theorem dX4_readCommand_178 : decode cX4_readCommand 178 = .ok (.iconst 0, 1) := by decide +kernel
theorem dX4_readCommand_179 : decode cX4_readCommand 179 = .ok (.bipush 15, 2) := by decide +kernel
theorem dX4_readCommand_181 : decode cX4_readCommand 181 = .ok (.invokevirtual 38, 3) := by decide +kernel
theorem dX4_readCommand_184 : decode cX4_readCommand 184 = .ok (.ifCond .eq 18, 3) := by decide +kernel
theorem dX4_readCommand_187 : decode cX4_readCommand 187 = .ok (.aload_n 0, 1) := by decide +kernel
theorem dX4_readCommand_188 : decode cX4_readCommand 188 = .ok (.iconst 1, 1) := by decide +kernel
theorem dX4_readCommand_189 : decode cX4_readCommand 189 = .ok (.iconst 1, 1) := by decide +kernel
theorem dX4_readCommand_190 : decode cX4_readCommand 190 = .ok (.iconst 0, 1) := by decide +kernel
theorem dX4_readCommand_191 : decode cX4_readCommand 191 = .ok (.iconst 5, 1) := by decide +kernel
theorem dX4_readCommand_192 : decode cX4_readCommand 192 = .ok (.invokevirtual 38, 3) := by decide +kernel
theorem dX4_readCommand_195 : decode cX4_readCommand 195 = .ok (.ifCond .eq 7, 3) := by decide +kernel
theorem dX4_readCommand_198 : decode cX4_readCommand 198 = .ok (.iconst 1, 1) := by decide +kernel
theorem dX4_readCommand_199 : decode cX4_readCommand 199 = .ok (.goto 4, 3) := by decide +kernel
theorem dX4_readCommand_202 : decode cX4_readCommand 202 = .ok (.iconst 0, 1) := by decide +kernel
theorem dX4_readCommand_203 : decode cX4_readCommand 203 = .ok (.ireturn, 1) := by decide +kernel
theorem dX4_readCommand_204 : decode cX4_readCommand 204 = .ok (.iconst 1, 1) := by decide +kernel
theorem dX4_readCommand_205 : decode cX4_readCommand 205 = .ok (.ireturn, 1) := by decide +kernel
theorem dX4_readCommand_206 : decode cX4_readCommand 206 = .ok (.aload_n 0, 1) := by decide +kernel
theorem dX4_readCommand_207 : decode cX4_readCommand 207 = .ok (.iconst 0, 1) := by decide +kernel
theorem dX4_readCommand_208 : decode cX4_readCommand 208 = .ok (.iconst 1, 1) := by decide +kernel
theorem dX4_readCommand_209 : decode cX4_readCommand 209 = .ok (.iconst 1, 1) := by decide +kernel
theorem dX4_readCommand_210 : decode cX4_readCommand 210 = .ok (.bipush 9, 2) := by decide +kernel
theorem dX4_readCommand_212 : decode cX4_readCommand 212 = .ok (.invokevirtual 38, 3) := by decide +kernel
theorem dX4_readCommand_215 : decode cX4_readCommand 215 = .ok (.ireturn, 1) := by decide +kernel
theorem dX4_readCommand_216 : decode cX4_readCommand 216 = .ok (.aload_n 0, 1) := by decide +kernel
theorem dX4_readCommand_217 : decode cX4_readCommand 217 = .ok (.aload_n 0, 1) := by decide +kernel
theorem dX4_readCommand_218 : decode cX4_readCommand 218 = .ok (.getfield 19, 3) := by decide +kernel
theorem dX4_readCommand_221 : decode cX4_readCommand 221 = .ok (.iconst 1, 1) := by decide +kernel
theorem dX4_readCommand_222 : decode cX4_readCommand 222 = .ok (.isub, 1) := by decide +kernel
theorem dX4_readCommand_223 : decode cX4_readCommand 223 = .ok (.putfield 22, 3) := by decide +kernel
theorem dX4_readCommand_226 : decode cX4_readCommand 226 = .ok (.iconst 0, 1) := by decide +kernel
theorem dX4_readCommand_227 : decode cX4_readCommand 227 = .ok (.ireturn, 1) := by decide +kernel
theorem dX4_readNumber_0 : decode cX4_readNumber 0 = .ok (.iconst 0, 1) := by decide +kernel
theorem dX4_readNumber_1 : decode cX4_readNumber 1 = .ok (.istore 5, 2) := by decide +kernel
theorem dX4_readNumber_3 : decode cX4_readNumber 3 = .ok (.iconst 1, 1) := by decide +kernel
theorem dX4_readNumber_4 : decode cX4_readNumber 4 = .ok (.istore 6, 2) := by decide +kernel
theorem dX4_readNumber_6 : decode cX4_readNumber 6 = .ok (.iload 6, 2) := by decide +kernel
theorem dX4_readNumber_8 : decode cX4_readNumber 8 = .ok (.iload_n 2, 1) := by decide +kernel
theorem dX4_readNumber_9 : decode cX4_readNumber 9 = .ok (.if_icmp .gt 119, 3) := by decide +kernel
theorem dX4_readNumber_12 : decode cX4_readNumber 12 = .ok (.aload_n 0, 1) := by decide +kernel
theorem dX4_readNumber_13 : decode cX4_readNumber 13 = .ok (.getfield 19, 3) := by decide +kernel
theorem dX4_readNumber_16 : decode cX4_readNumber 16 = .ok (.aload_n 0, 1) := by decide +kernel
theorem dX4_readNumber_17 : decode cX4_readNumber 17 = .ok (.getfield 15, 3) := by decide +kernel
theorem dX4_readNumber_20 : decode cX4_readNumber 20 = .ok (.if_icmp .ge 18, 3) := by decide +kernel
theorem dX4_readNumber_23 : decode cX4_readNumber 23 = .ok (.aload_n 0, 1) := by decide +kernel
theorem dX4_readNumber_24 : decode cX4_readNumber 24 = .ok (.getfield 11, 3) := by decide +kernel
theorem dX4_readNumber_27 : decode cX4_readNumber 27 = .ok (.aload_n 0, 1) := by decide +kernel
theorem dX4_readNumber_28 : decode cX4_readNumber 28 = .ok (.getfield 19, 3) := by decide +kernel
theorem dX4_readNumber_31 : decode cX4_readNumber 31 = .ok (.iaload, 1) := by decide +kernel
theorem dX4_readNumber_32 : decode cX4_readNumber 32 = .ok (.bipush 48, 2) := by decide +kernel
theorem dX4_readNumber_34 : decode cX4_readNumber 34 = .ok (.isub, 1) := by decide +kernel
theorem dX4_readNumber_35 : decode cX4_readNumber 35 = .ok (.goto 4, 3) := by decide +kernel
theorem dX4_readNumber_38 : decode cX4_readNumber 38 = .ok (.iconst (-1), 1) := by decide +kernel
theorem dX4_readNumber_39 : decode cX4_readNumber 39 = .ok (.istore 7, 2) := by decide +kernel
theorem dX4_readNumber_41 : decode cX4_readNumber 41 = .ok (.bipush 10, 2) := by decide +kernel
theorem dX4_readNumber_43 : decode cX4_readNumber 43 = .ok (.iload 5, 2) := by decide +kernel
theorem dX4_readNumber_45 : decode cX4_readNumber 45 = .ok (.imul, 1) := by decide +kernel
theorem dX4_readNumber_46 : decode cX4_readNumber 46 = .ok (.iload 7, 2) := by decide +kernel
theorem dX4_readNumber_48 : decode cX4_readNumber 48 = .ok (.iadd, 1) := by decide +kernel
theorem dX4_readNumber_49 : decode cX4_readNumber 49 = .ok (.istore 5, 2) := by decide +kernel
theorem dX4_readNumber_51 : decode cX4_readNumber 51 = .ok (.iload 6, 2) := by decide +kernel
theorem dX4_readNumber_53 : decode cX4_readNumber 53 = .ok (.iload_n 2, 1) := by decide +kernel
theorem dX4_readNumber_54 : decode cX4_readNumber 54 = .ok (.if_icmp .ge 8, 3) := by decide +kernel
theorem dX4_readNumber_57 : decode cX4_readNumber 57 = .ok (.bipush 10, 2) := by decide +kernel
theorem dX4_readNumber_59 : decode cX4_readNumber 59 = .ok (.goto 4, 3) := by decide +kernel
theorem dX4_readNumber_62 : decode cX4_readNumber 62 = .ok (.iconst 1, 1) := by decide +kernel
theorem dX4_readNumber_63 : decode cX4_readNumber 63 = .ok (.istore 8, 2) := by decide +kernel
theorem dX4_readNumber_65 : decode cX4_readNumber 65 = .ok (.iload 5, 2) := by decide +kernel
theorem dX4_readNumber_67 : decode cX4_readNumber 67 = .ok (.iload 8, 2) := by decide +kernel
theorem dX4_readNumber_69 : decode cX4_readNumber 69 = .ok (.imul, 1) := by decide +kernel
theorem dX4_readNumber_70 : decode cX4_readNumber 70 = .ok (.istore 9, 2) := by decide +kernel
theorem dX4_readNumber_72 : decode cX4_readNumber 72 = .ok (.iload 7, 2) := by decide +kernel
theorem dX4_readNumber_74 : decode cX4_readNumber 74 = .ok (.ifCond .lt 28, 3) := by decide +kernel
theorem dX4_readNumber_77 : decode cX4_readNumber 77 = .ok (.iload 7, 2) := by decide +kernel
theorem dX4_readNumber_79 : decode cX4_readNumber 79 = .ok (.bipush 9, 2) := by decide +kernel
theorem dX4_readNumber_81 : decode cX4_readNumber 81 = .ok (.if_icmp .gt 21, 3) := by decide +kernel
theorem dX4_readNumber_84 : decode cX4_readNumber 84 = .ok (.iload 9, 2) := by decide +kernel
theorem dX4_readNumber_86 : decode cX4_readNumber 86 = .ok (.iload 4, 2) := by decide +kernel
theorem dX4_readNumber_88 : decode cX4_readNumber 88 = .ok (.if_icmp .gt 14, 3) := by decide +kernel
theorem dX4_readNumber_91 : decode cX4_readNumber 91 = .ok (.iload 9, 2) := by decide +kernel
theorem dX4_readNumber_93 : decode cX4_readNumber 93 = .ok (.iload 8, 2) := by decide +kernel
theorem dX4_readNumber_95 : decode cX4_readNumber 95 = .ok (.iadd, 1) := by decide +kernel
theorem dX4_readNumber_96 : decode cX4_readNumber 96 = .ok (.iconst 1, 1) := by decide +kernel
theorem dX4_readNumber_97 : decode cX4_readNumber 97 = .ok (.isub, 1) := by decide +kernel
theorem dX4_readNumber_98 : decode cX4_readNumber 98 = .ok (.iload_n 3, 1) := by decide +kernel
theorem dX4_readNumber_99 : decode cX4_readNumber 99 = .ok (.if_icmp .ge 13, 3) := by decide +kernel
theorem dX4_readNumber_102 : decode cX4_readNumber 102 = .ok (.aload_n 0, 1) := by decide +kernel
theorem dX4_readNumber_103 : decode cX4_readNumber 103 = .ok (.aload_n 0, 1) := by decide +kernel
theorem dX4_readNumber_104 : decode cX4_readNumber 104 = .ok (.getfield 19, 3) := by decide +kernel
theorem dX4_readNumber_107 : decode cX4_readNumber 107 = .ok (.putfield 22, 3) := by decide +kernel
theorem dX4_readNumber_110 : decode cX4_readNumber 110 = .ok (.iconst 0, 1) := by decide +kernel
theorem dX4_readNumber_111 : decode cX4_readNumber 111 = .ok (.ireturn, 1) := by decide +kernel
theorem dX4_readNumber_112 : decode cX4_readNumber 112 = .ok (.aload_n 0, 1) := by decide +kernel
theorem dX4_readNumber_113 : decode cX4_readNumber 113 = .ok (.dup, 1) := by decide +kernel
theorem dX4_readNumber_114 : decode cX4_readNumber 114 = .ok (.getfield 19, 3) := by decide +kernel
theorem dX4_readNumber_117 : decode cX4_readNumber 117 = .ok (.iconst 1, 1) := by decide +kernel
theorem dX4_readNumber_118 : decode cX4_readNumber 118 = .ok (.iadd, 1) := by decide +kernel
theorem dX4_readNumber_119 : decode cX4_readNumber 119 = .ok (.putfield 19, 3) := by decide +kernel
theorem dX4_readNumber_122 : decode cX4_readNumber 122 = .ok (.iinc 6 1, 3) := by decide +kernel
theorem dX4_readNumber_125 : decode cX4_readNumber 125 = .ok (.goto (-119), 3) := by decide +kernel
theorem dX4_readNumber_128 : decode cX4_readNumber 128 = .ok (.aload_n 0, 1) := by decide +kernel
theorem dX4_readNumber_129 : decode cX4_readNumber 129 = .ok (.getfield 28, 3) := by decide +kernel
theorem dX4_readNumber_132 : decode cX4_readNumber 132 = .ok (.iload_n 1, 1) := by decide +kernel
theorem dX4_readNumber_133 : decode cX4_readNumber 133 = .ok (.iload 5, 2) := by decide +kernel
theorem dX4_readNumber_135 : decode cX4_readNumber 135 = .ok (.iastore, 1) := by decide +kernel
theorem dX4_readNumber_136 : decode cX4_readNumber 136 = .ok (.iconst 1, 1) := by decide +kernel
theorem dX4_readNumber_137 : decode cX4_readNumber 137 = .ok (.ireturn, 1) := by decide +kernel
theorem dX5_init_0 : decode cX5_init 0 = .ok (.aload_n 0, 1) := by decide +kernel
theorem dX5_init_1 : decode cX5_init 1 = .ok (.invokespecial 1, 3) := by decide +kernel
theorem dX5_init_4 : decode cX5_init 4 = .ok (.aload_n 0, 1) := by decide +kernel
theorem dX5_init_5 : decode cX5_init 5 = .ok (.new 7, 3) := by decide +kernel
theorem dX5_init_8 : decode cX5_init 8 = .ok (.dup, 1) := by decide +kernel
theorem dX5_init_9 : decode cX5_init 9 = .ok (.invokespecial 9, 3) := by decide +kernel
theorem dX5_init_12 : decode cX5_init 12 = .ok (.putfield 10, 3) := by decide +kernel
theorem dX5_init_15 : decode cX5_init 15 = .ok (.aload_n 0, 1) := by decide +kernel
theorem dX5_init_16 : decode cX5_init 16 = .ok (.new 16, 3) := by decide +kernel
theorem dX5_init_19 : decode cX5_init 19 = .ok (.dup, 1) := by decide +kernel
theorem dX5_init_20 : decode cX5_init 20 = .ok (.invokespecial 18, 3) := by decide +kernel
theorem dX5_init_23 : decode cX5_init 23 = .ok (.putfield 19, 3) := by decide +kernel
theorem dX5_init_26 : decode cX5_init 26 = .ok (.aload_n 0, 1) := by decide +kernel
theorem dX5_init_27 : decode cX5_init 27 = .ok (.new 16, 3) := by decide +kernel
theorem dX5_init_30 : decode cX5_init 30 = .ok (.dup, 1) := by decide +kernel
theorem dX5_init_31 : decode cX5_init 31 = .ok (.invokespecial 18, 3) := by decide +kernel
theorem dX5_init_34 : decode cX5_init 34 = .ok (.putfield 23, 3) := by decide +kernel
theorem dX5_init_37 : decode cX5_init 37 = .ok (.aload_n 0, 1) := by decide +kernel
theorem dX5_init_38 : decode cX5_init 38 = .ok (.iconst 2, 1) := by decide +kernel
theorem dX5_init_39 : decode cX5_init 39 = .ok (.newarray .boolean, 2) := by decide +kernel
theorem dX5_init_41 : decode cX5_init 41 = .ok (.putfield 26, 3) := by decide +kernel
theorem dX5_init_44 : decode cX5_init 44 = .ok (.aload_n 0, 1) := by decide +kernel
theorem dX5_init_45 : decode cX5_init 45 = .ok (.iconst 2, 1) := by decide +kernel
theorem dX5_init_46 : decode cX5_init 46 = .ok (.anewarray 16, 3) := by decide +kernel
theorem dX5_init_49 : decode cX5_init 49 = .ok (.putfield 30, 3) := by decide +kernel
theorem dX5_init_52 : decode cX5_init 52 = .ok (.iconst 0, 1) := by decide +kernel
theorem dX5_init_53 : decode cX5_init 53 = .ok (.istore_n 1, 1) := by decide +kernel
theorem dX5_init_54 : decode cX5_init 54 = .ok (.iload_n 1, 1) := by decide +kernel
theorem dX5_init_55 : decode cX5_init 55 = .ok (.iconst 2, 1) := by decide +kernel
theorem dX5_init_56 : decode cX5_init 56 = .ok (.if_icmp .ge 22, 3) := by decide +kernel
theorem dX5_init_59 : decode cX5_init 59 = .ok (.aload_n 0, 1) := by decide +kernel
theorem dX5_init_60 : decode cX5_init 60 = .ok (.getfield 30, 3) := by decide +kernel
theorem dX5_init_63 : decode cX5_init 63 = .ok (.iload_n 1, 1) := by decide +kernel
theorem dX5_init_64 : decode cX5_init 64 = .ok (.new 16, 3) := by decide +kernel
theorem dX5_init_67 : decode cX5_init 67 = .ok (.dup, 1) := by decide +kernel
theorem dX5_init_68 : decode cX5_init 68 = .ok (.invokespecial 18, 3) := by decide +kernel
theorem dX5_init_71 : decode cX5_init 71 = .ok (.aastore, 1) := by decide +kernel
theorem dX5_init_72 : decode cX5_init 72 = .ok (.iinc 1 1, 3) := by decide +kernel
theorem dX5_init_75 : decode cX5_init 75 = .ok (.goto (-21), 3) := by decide +kernel
theorem dX5_init_78 : decode cX5_init 78 = .ok (.aload_n 0, 1) := by decide +kernel
theorem dX5_init_79 : decode cX5_init 79 = .ok (.bipush 14, 2) := by decide +kernel
theorem dX5_init_81 : decode cX5_init 81 = .ok (.anewarray 16, 3) := by decide +kernel
theorem dX5_init_84 : decode cX5_init 84 = .ok (.putfield 34, 3) := by decide +kernel
theorem dX5_init_87 : decode cX5_init 87 = .ok (.iconst 0, 1) := by decide +kernel
theorem dX5_init_88 : decode cX5_init 88 = .ok (.istore_n 1, 1) := by decide +kernel
theorem dX5_init_89 : decode cX5_init 89 = .ok (.iload_n 1, 1) := by decide +kernel
theorem dX5_init_90 : decode cX5_init 90 = .ok (.bipush 14, 2) := by decide +kernel
theorem dX5_init_92 : decode cX5_init 92 = .ok (.if_icmp .ge 22, 3) := by decide +kernel
theorem dX5_init_95 : decode cX5_init 95 = .ok (.aload_n 0, 1) := by decide +kernel
theorem dX5_init_96 : decode cX5_init 96 = .ok (.getfield 34, 3) := by decide +kernel
theorem dX5_init_99 : decode cX5_init 99 = .ok (.iload_n 1, 1) := by decide +kernel
theorem dX5_init_100 : decode cX5_init 100 = .ok (.new 16, 3) := by decide +kernel
theorem dX5_init_103 : decode cX5_init 103 = .ok (.dup, 1) := by decide +kernel
theorem dX5_init_104 : decode cX5_init 104 = .ok (.invokespecial 18, 3) := by decide +kernel
theorem dX5_init_107 : decode cX5_init 107 = .ok (.aastore, 1) := by decide +kernel
theorem dX5_init_108 : decode cX5_init 108 = .ok (.iinc 1 1, 3) := by decide +kernel
theorem dX5_init_111 : decode cX5_init 111 = .ok (.goto (-22), 3) := by decide +kernel
theorem dX5_init_114 : decode cX5_init 114 = .ok (.aload_n 0, 1) := by decide +kernel
theorem dX5_init_115 : decode cX5_init 115 = .ok (.iconst 0, 1) := by decide +kernel
theorem dX5_init_116 : decode cX5_init 116 = .ok (.putfield 37, 3) := by decide +kernel
theorem dX5_init_119 : decode cX5_init 119 = .ok (.return_, 1) := by decide +kernel
theorem dX5_append_0 : decode cX5_append 0 = .ok (.iload_n 1, 1) := by decide +kernel
theorem dX5_append_1 : decode cX5_append 1 = .ok (.ifCond .lt 10, 3) := by decide +kernel
theorem dX5_append_4 : decode cX5_append 4 = .ok (.iload_n 1, 1) := by decide +kernel
theorem dX5_append_5 : decode cX5_append 5 = .ok (.sipush 255, 3) := by decide +kernel
theorem dX5_append_8 : decode cX5_append 8 = .ok (.if_icmp .le 13, 3) := by decide +kernel
theorem dX5_append_11 : decode cX5_append 11 = .ok (.new 41, 3) := by decide +kernel
theorem dX5_append_14 : decode cX5_append 14 = .ok (.dup, 1) := by decide +kernel
theorem dX5_append_15 : decode cX5_append 15 = .ok (.ldc 43, 2) := by decide +kernel
theorem dX5_append_17 : decode cX5_append 17 = .ok (.invokespecial 45, 3) := by decide +kernel
theorem dX5_append_20 : decode cX5_append 20 = .ok (.athrow, 1) := by decide +kernel
theorem dX5_append_21 : decode cX5_append 21 = .ok (.aload_n 0, 1) := by decide +kernel
theorem dX5_append_22 : decode cX5_append 22 = .ok (.getfield 10, 3) := by decide +kernel
theorem dX5_append_25 : decode cX5_append 25 = .ok (.getfield 48, 3) := by decide +kernel
theorem dX5_append_28 : decode cX5_append 28 = .ok (.bipush 120, 2) := by decide +kernel
theorem dX5_append_30 : decode cX5_append 30 = .ok (.if_icmp .lt 13, 3) := by decide +kernel
theorem dX5_append_33 : decode cX5_append 33 = .ok (.new 51, 3) := by decide +kernel
theorem dX5_append_36 : decode cX5_append 36 = .ok (.dup, 1) := by decide +kernel
theorem dX5_append_37 : decode cX5_append 37 = .ok (.ldc 53, 2) := by decide +kernel
theorem dX5_append_39 : decode cX5_append 39 = .ok (.invokespecial 55, 3) := by decide +kernel
theorem dX5_append_42 : decode cX5_append 42 = .ok (.athrow, 1) := by decide +kernel
theorem dX5_append_43 : decode cX5_append 43 = .ok (.aload_n 0, 1) := by decide +kernel
theorem dX5_append_44 : decode cX5_append 44 = .ok (.getfield 10, 3) := by decide +kernel
theorem dX5_append_47 : decode cX5_append 47 = .ok (.iload_n 1, 1) := by decide +kernel
theorem dX5_append_48 : decode cX5_append 48 = .ok (.invokevirtual 56, 3) := by decide +kernel
theorem dX5_append_51 : decode cX5_append 51 = .ok (.ireturn, 1) := by decide +kernel
theorem dX5_clearText_0 : decode cX5_clearText 0 = .ok (.aload_n 0, 1) := by decide +kernel
theorem dX5_clearText_1 : decode cX5_clearText 1 = .ok (.getfield 10, 3) := by decide +kernel
theorem dX5_clearText_4 : decode cX5_clearText 4 = .ok (.getfield 48, 3) := by decide +kernel
theorem dX5_clearText_7 : decode cX5_clearText 7 = .ok (.istore_n 1, 1) := by decide +kernel
theorem dX5_clearText_8 : decode cX5_clearText 8 = .ok (.aload_n 0, 1) := by decide +kernel
theorem dX5_clearText_9 : decode cX5_clearText 9 = .ok (.getfield 10, 3) := by decide +kernel
theorem dX5_clearText_12 : decode cX5_clearText 12 = .ok (.iconst 0, 1) := by decide +kernel
theorem dX5_clearText_13 : decode cX5_clearText 13 = .ok (.putfield 48, 3) := by decide +kernel
theorem dX5_clearText_16 : decode cX5_clearText 16 = .ok (.iload_n 1, 1) := by decide +kernel
theorem dX5_clearText_17 : decode cX5_clearText 17 = .ok (.ireturn, 1) := by decide +kernel
theorem dX5_errorPosition_0 : decode cX5_errorPosition 0 = .ok (.aload_n 0, 1) := by decide +kernel
theorem dX5_errorPosition_1 : decode cX5_errorPosition 1 = .ok (.getfield 10, 3) := by decide +kernel
theorem dX5_errorPosition_4 : decode cX5_errorPosition 4 = .ok (.invokevirtual 60, 3) := by decide +kernel
theorem dX5_errorPosition_7 : decode cX5_errorPosition 7 = .ok (.ireturn, 1) := by decide +kernel
theorem dX5_load_0 : decode cX5_load 0 = .ok (.aload_n 0, 1) := by decide +kernel
theorem dX5_load_1 : decode cX5_load 1 = .ok (.getfield 10, 3) := by decide +kernel
theorem dX5_load_4 : decode cX5_load 4 = .ok (.invokevirtual 60, 3) := by decide +kernel
theorem dX5_load_7 : decode cX5_load 7 = .ok (.iconst (-1), 1) := by decide +kernel
theorem dX5_load_8 : decode cX5_load 8 = .ok (.if_icmp .eq 13, 3) := by decide +kernel
theorem dX5_load_11 : decode cX5_load 11 = .ok (.new 51, 3) := by decide +kernel
theorem dX5_load_14 : decode cX5_load 14 = .ok (.dup, 1) := by decide +kernel
theorem dX5_load_15 : decode cX5_load 15 = .ok (.ldc 64, 2) := by decide +kernel
theorem dX5_load_17 : decode cX5_load 17 = .ok (.invokespecial 55, 3) := by decide +kernel
theorem dX5_load_20 : decode cX5_load 20 = .ok (.athrow, 1) := by decide +kernel
theorem dX5_load_21 : decode cX5_load 21 = .ok (.aload_n 0, 1) := by decide +kernel
theorem dX5_load_22 : decode cX5_load 22 = .ok (.getfield 19, 3) := by decide +kernel
theorem dX5_load_25 : decode cX5_load 25 = .ok (.invokevirtual 66, 3) := by decide +kernel
theorem dX5_load_28 : decode cX5_load 28 = .ok (.aload_n 0, 1) := by decide +kernel
theorem dX5_load_29 : decode cX5_load 29 = .ok (.iconst 0, 1) := by decide +kernel
theorem dX5_load_30 : decode cX5_load 30 = .ok (.putfield 37, 3) := by decide +kernel
theorem dX5_load_33 : decode cX5_load 33 = .ok (.iconst 0, 1) := by decide +kernel
theorem dX5_load_34 : decode cX5_load 34 = .ok (.istore_n 1, 1) := by decide +kernel
theorem dX5_load_35 : decode cX5_load 35 = .ok (.iload_n 1, 1) := by decide +kernel
theorem dX5_load_36 : decode cX5_load 36 = .ok (.iconst 2, 1) := by decide +kernel
theorem dX5_load_37 : decode cX5_load 37 = .ok (.if_icmp .ge 16, 3) := by decide +kernel
theorem dX5_load_40 : decode cX5_load 40 = .ok (.aload_n 0, 1) := by decide +kernel
theorem dX5_load_41 : decode cX5_load 41 = .ok (.getfield 26, 3) := by decide +kernel
theorem dX5_load_44 : decode cX5_load 44 = .ok (.iload_n 1, 1) := by decide +kernel
theorem dX5_load_45 : decode cX5_load 45 = .ok (.iconst 0, 1) := by decide +kernel
theorem dX5_load_46 : decode cX5_load 46 = .ok (.bastore, 1) := by decide +kernel
theorem dX5_load_47 : decode cX5_load 47 = .ok (.iinc 1 1, 3) := by decide +kernel
theorem dX5_load_50 : decode cX5_load 50 = .ok (.goto (-15), 3) := by decide +kernel
theorem dX5_load_53 : decode cX5_load 53 = .ok (.iconst 0, 1) := by decide +kernel
theorem dX5_load_54 : decode cX5_load 54 = .ok (.istore_n 1, 1) := by decide +kernel
theorem dX5_load_55 : decode cX5_load 55 = .ok (.aload_n 0, 1) := by decide +kernel
theorem dX5_load_56 : decode cX5_load 56 = .ok (.getfield 10, 3) := by decide +kernel
theorem dX5_load_59 : decode cX5_load 59 = .ok (.invokevirtual 69, 3) := by decide +kernel
theorem dX5_load_62 : decode cX5_load 62 = .ok (.iconst 0, 1) := by decide +kernel
theorem dX5_load_63 : decode cX5_load 63 = .ok (.istore_n 2, 1) := by decide +kernel
theorem dX5_load_64 : decode cX5_load 64 = .ok (.iload_n 2, 1) := by decide +kernel
theorem dX5_load_65 : decode cX5_load 65 = .ok (.bipush 120, 2) := by decide +kernel
theorem dX5_load_67 : decode cX5_load 67 = .ok (.if_icmp .ge 36, 3) := by decide +kernel
theorem dX5_load_70 : decode cX5_load 70 = .ok (.aload_n 0, 1) := by decide +kernel
theorem dX5_load_71 : decode cX5_load 71 = .ok (.getfield 10, 3) := by decide +kernel
theorem dX5_load_74 : decode cX5_load 74 = .ok (.invokevirtual 72, 3) := by decide +kernel
theorem dX5_load_77 : decode cX5_load 77 = .ok (.ifCond .eq 26, 3) := by decide +kernel
theorem dX5_load_80 : decode cX5_load 80 = .ok (.aload_n 0, 1) := by decide +kernel
theorem dX5_load_81 : decode cX5_load 81 = .ok (.getfield 19, 3) := by decide +kernel
theorem dX5_load_84 : decode cX5_load 84 = .ok (.aload_n 0, 1) := by decide +kernel
theorem dX5_load_85 : decode cX5_load 85 = .ok (.getfield 10, 3) := by decide +kernel
theorem dX5_load_88 : decode cX5_load 88 = .ok (.invokestatic 76, 3) := by decide +kernel
theorem dX5_load_91 : decode cX5_load 91 = .ok (.ifCond .ne 6, 3) := by decide +kernel
theorem dX5_load_94 : decode cX5_load 94 = .ok (.iinc 1 1, 3) := by decide +kernel
theorem dX5_load_97 : decode cX5_load 97 = .ok (.iinc 2 1, 3) := by decide +kernel
theorem dX5_load_100 : decode cX5_load 100 = .ok (.goto (-36), 3) := by decide +kernel
theorem dX5_load_103 : decode cX5_load 103 = .ok (.iload_n 1, 1) := by decide +kernel
theorem dX5_load_104 : decode cX5_load 104 = .ok (.ireturn, 1) := by decide +kernel
theorem dX5_about_0 : decode cX5_about 0 = .ok (.iload_n 1, 1) := by decide +kernel
theorem dX5_about_1 : decode cX5_about 1 = .ok (.tableswitch 154 0 10 #[59, 67, 75, 83, 92, 103, 114, 122, 130, 138, 146], 59) := by decide +kernel
theorem dX5_about_60 : decode cX5_about 60 = .ok (.aload_n 0, 1) := by decide +kernel
theorem dX5_about_61 : decode cX5_about 61 = .ok (.getfield 19, 3) := by decide +kernel
theorem dX5_about_64 : decode cX5_about 64 = .ok (.getfield 82, 3) := by decide +kernel
theorem dX5_about_67 : decode cX5_about 67 = .ok (.ireturn, 1) := by decide +kernel
theorem dX5_about_68 : decode cX5_about 68 = .ok (.aload_n 0, 1) := by decide +kernel
theorem dX5_about_69 : decode cX5_about 69 = .ok (.getfield 19, 3) := by decide +kernel
theorem dX5_about_72 : decode cX5_about 72 = .ok (.getfield 85, 3) := by decide +kernel
theorem dX5_about_75 : decode cX5_about 75 = .ok (.ireturn, 1) := by decide +kernel
theorem dX5_about_76 : decode cX5_about 76 = .ok (.aload_n 0, 1) := by decide +kernel
theorem dX5_about_77 : decode cX5_about 77 = .ok (.getfield 19, 3) := by decide +kernel
theorem dX5_about_80 : decode cX5_about 80 = .ok (.getfield 88, 3) := by decide +kernel
theorem dX5_about_83 : decode cX5_about 83 = .ok (.ireturn, 1) := by decide +kernel
theorem dX5_about_84 : decode cX5_about 84 = .ok (.aload_n 0, 1) := by decide +kernel
theorem dX5_about_85 : decode cX5_about 85 = .ok (.getfield 19, 3) := by decide +kernel
theorem dX5_about_88 : decode cX5_about 88 = .ok (.iconst (-1), 1) := by decide +kernel
theorem dX5_about_89 : decode cX5_about 89 = .ok (.invokevirtual 91, 3) := by decide +kernel
theorem dX5_about_92 : decode cX5_about 92 = .ok (.ireturn, 1) := by decide +kernel
theorem dX5_about_93 : decode cX5_about 93 = .ok (.aload_n 0, 1) := by decide +kernel
theorem dX5_about_94 : decode cX5_about 94 = .ok (.getfield 19, 3) := by decide +kernel
theorem dX5_about_97 : decode cX5_about 97 = .ok (.getfield 94, 3) := by decide +kernel
theorem dX5_about_100 : decode cX5_about 100 = .ok (.getfield 98, 3) := by decide +kernel
theorem dX5_about_103 : decode cX5_about 103 = .ok (.ireturn, 1) := by decide +kernel
theorem dX5_about_104 : decode cX5_about 104 = .ok (.aload_n 0, 1) := by decide +kernel
theorem dX5_about_105 : decode cX5_about 105 = .ok (.getfield 19, 3) := by decide +kernel
theorem dX5_about_108 : decode cX5_about 108 = .ok (.getfield 94, 3) := by decide +kernel
theorem dX5_about_111 : decode cX5_about 111 = .ok (.invokevirtual 103, 3) := by decide +kernel
theorem dX5_about_114 : decode cX5_about 114 = .ok (.ireturn, 1) := by decide +kernel
theorem dX5_about_115 : decode cX5_about 115 = .ok (.aload_n 0, 1) := by decide +kernel
theorem dX5_about_116 : decode cX5_about 116 = .ok (.getfield 19, 3) := by decide +kernel
theorem dX5_about_119 : decode cX5_about 119 = .ok (.getfield 106, 3) := by decide +kernel
theorem dX5_about_122 : decode cX5_about 122 = .ok (.ireturn, 1) := by decide +kernel
theorem dX5_about_123 : decode cX5_about 123 = .ok (.aload_n 0, 1) := by decide +kernel
theorem dX5_about_124 : decode cX5_about 124 = .ok (.getfield 19, 3) := by decide +kernel
theorem dX5_about_127 : decode cX5_about 127 = .ok (.invokevirtual 109, 3) := by decide +kernel
theorem dX5_about_130 : decode cX5_about 130 = .ok (.ireturn, 1) := by decide +kernel
theorem dX5_about_131 : decode cX5_about 131 = .ok (.aload_n 0, 1) := by decide +kernel
theorem dX5_about_132 : decode cX5_about 132 = .ok (.getfield 19, 3) := by decide +kernel
theorem dX5_about_135 : decode cX5_about 135 = .ok (.getfield 112, 3) := by decide +kernel
theorem dX5_about_138 : decode cX5_about 138 = .ok (.ireturn, 1) := by decide +kernel
theorem dX5_about_139 : decode cX5_about 139 = .ok (.aload_n 0, 1) := by decide +kernel
theorem dX5_about_140 : decode cX5_about 140 = .ok (.getfield 19, 3) := by decide +kernel
theorem dX5_about_143 : decode cX5_about 143 = .ok (.getfield 115, 3) := by decide +kernel
theorem dX5_about_146 : decode cX5_about 146 = .ok (.ireturn, 1) := by decide +kernel
theorem dX5_about_147 : decode cX5_about 147 = .ok (.aload_n 0, 1) := by decide +kernel
theorem dX5_about_148 : decode cX5_about 148 = .ok (.getfield 19, 3) := by decide +kernel
theorem dX5_about_151 : decode cX5_about 151 = .ok (.getfield 118, 3) := by decide +kernel
theorem dX5_about_154 : decode cX5_about 154 = .ok (.ireturn, 1) := by decide +kernel
theorem dX5_about_155 : decode cX5_about 155 = .ok (.new 41, 3) := by decide +kernel
theorem dX5_about_158 : decode cX5_about 158 = .ok (.dup, 1) := by decide +kernel
theorem dX5_about_159 : decode cX5_about 159 = .ok (.ldc 121, 2) := by decide +kernel
theorem dX5_about_161 : decode cX5_about 161 = .ok (.invokespecial 45, 3) := by decide +kernel
theorem dX5_about_164 : decode cX5_about 164 = .ok (.athrow, 1) := by decide +kernel
theorem dX5_stenographer_0 : decode cX5_stenographer 0 = .ok (.aload_n 0, 1) := by decide +kernel
theorem dX5_stenographer_1 : decode cX5_stenographer 1 = .ok (.getfield 19, 3) := by decide +kernel
theorem dX5_stenographer_4 : decode cX5_stenographer 4 = .ok (.iload_n 1, 1) := by decide +kernel
theorem dX5_stenographer_5 : decode cX5_stenographer 5 = .ok (.invokevirtual 123, 3) := by decide +kernel
theorem dX5_stenographer_8 : decode cX5_stenographer 8 = .ok (.invokestatic 126, 3) := by decide +kernel
theorem dX5_stenographer_11 : decode cX5_stenographer 11 = .ok (.iload_n 2, 1) := by decide +kernel
theorem dX5_stenographer_12 : decode cX5_stenographer 12 = .ok (.tableswitch 123 0 6 #[44, 54, 64, 73, 85, 97, 113], 44) := by decide +kernel
theorem dX5_stenographer_56 : decode cX5_stenographer 56 = .ok (.aload_n 0, 1) := by decide +kernel
theorem dX5_stenographer_57 : decode cX5_stenographer 57 = .ok (.getfield 19, 3) := by decide +kernel
theorem dX5_stenographer_60 : decode cX5_stenographer 60 = .ok (.getfield 130, 3) := by decide +kernel
theorem dX5_stenographer_63 : decode cX5_stenographer 63 = .ok (.iload_n 1, 1) := by decide +kernel
theorem dX5_stenographer_64 : decode cX5_stenographer 64 = .ok (.iaload, 1) := by decide +kernel
theorem dX5_stenographer_65 : decode cX5_stenographer 65 = .ok (.ireturn, 1) := by decide +kernel
theorem dX5_stenographer_66 : decode cX5_stenographer 66 = .ok (.aload_n 0, 1) := by decide +kernel
theorem dX5_stenographer_67 : decode cX5_stenographer 67 = .ok (.getfield 19, 3) := by decide +kernel
theorem dX5_stenographer_70 : decode cX5_stenographer 70 = .ok (.getfield 134, 3) := by decide +kernel
theorem dX5_stenographer_73 : decode cX5_stenographer 73 = .ok (.iload_n 1, 1) := by decide +kernel
theorem dX5_stenographer_74 : decode cX5_stenographer 74 = .ok (.iaload, 1) := by decide +kernel
theorem dX5_stenographer_75 : decode cX5_stenographer 75 = .ok (.ireturn, 1) := by decide +kernel
theorem dX5_stenographer_76 : decode cX5_stenographer 76 = .ok (.aload_n 0, 1) := by decide +kernel
theorem dX5_stenographer_77 : decode cX5_stenographer 77 = .ok (.getfield 19, 3) := by decide +kernel
theorem dX5_stenographer_80 : decode cX5_stenographer 80 = .ok (.iload_n 1, 1) := by decide +kernel
theorem dX5_stenographer_81 : decode cX5_stenographer 81 = .ok (.invokevirtual 91, 3) := by decide +kernel
theorem dX5_stenographer_84 : decode cX5_stenographer 84 = .ok (.ireturn, 1) := by decide +kernel
theorem dX5_stenographer_85 : decode cX5_stenographer 85 = .ok (.aload_n 0, 1) := by decide +kernel
theorem dX5_stenographer_86 : decode cX5_stenographer 86 = .ok (.getfield 19, 3) := by decide +kernel
theorem dX5_stenographer_89 : decode cX5_stenographer 89 = .ok (.getfield 94, 3) := by decide +kernel
theorem dX5_stenographer_92 : decode cX5_stenographer 92 = .ok (.iload_n 1, 1) := by decide +kernel
theorem dX5_stenographer_93 : decode cX5_stenographer 93 = .ok (.invokevirtual 137, 3) := by decide +kernel
theorem dX5_stenographer_96 : decode cX5_stenographer 96 = .ok (.ireturn, 1) := by decide +kernel
theorem dX5_stenographer_97 : decode cX5_stenographer 97 = .ok (.aload_n 0, 1) := by decide +kernel
theorem dX5_stenographer_98 : decode cX5_stenographer 98 = .ok (.getfield 19, 3) := by decide +kernel
theorem dX5_stenographer_101 : decode cX5_stenographer 101 = .ok (.getfield 94, 3) := by decide +kernel
theorem dX5_stenographer_104 : decode cX5_stenographer 104 = .ok (.iload_n 1, 1) := by decide +kernel
theorem dX5_stenographer_105 : decode cX5_stenographer 105 = .ok (.invokevirtual 140, 3) := by decide +kernel
theorem dX5_stenographer_108 : decode cX5_stenographer 108 = .ok (.ireturn, 1) := by decide +kernel
theorem dX5_stenographer_109 : decode cX5_stenographer 109 = .ok (.aload_n 0, 1) := by decide +kernel
theorem dX5_stenographer_110 : decode cX5_stenographer 110 = .ok (.getfield 19, 3) := by decide +kernel
theorem dX5_stenographer_113 : decode cX5_stenographer 113 = .ok (.iload_n 1, 1) := by decide +kernel
theorem dX5_stenographer_114 : decode cX5_stenographer 114 = .ok (.aload_n 0, 1) := by decide +kernel
theorem dX5_stenographer_115 : decode cX5_stenographer 115 = .ok (.getfield 19, 3) := by decide +kernel
theorem dX5_stenographer_118 : decode cX5_stenographer 118 = .ok (.getfield 88, 3) := by decide +kernel
theorem dX5_stenographer_121 : decode cX5_stenographer 121 = .ok (.invokevirtual 143, 3) := by decide +kernel
theorem dX5_stenographer_124 : decode cX5_stenographer 124 = .ok (.ireturn, 1) := by decide +kernel
theorem dX5_stenographer_125 : decode cX5_stenographer 125 = .ok (.aload_n 0, 1) := by decide +kernel
theorem dX5_stenographer_126 : decode cX5_stenographer 126 = .ok (.getfield 19, 3) := by decide +kernel
theorem dX5_stenographer_129 : decode cX5_stenographer 129 = .ok (.getfield 147, 3) := by decide +kernel
theorem dX5_stenographer_132 : decode cX5_stenographer 132 = .ok (.iload_n 1, 1) := by decide +kernel
theorem dX5_stenographer_133 : decode cX5_stenographer 133 = .ok (.iaload, 1) := by decide +kernel
theorem dX5_stenographer_134 : decode cX5_stenographer 134 = .ok (.ireturn, 1) := by decide +kernel
theorem dX5_stenographer_135 : decode cX5_stenographer 135 = .ok (.new 41, 3) := by decide +kernel
theorem dX5_stenographer_138 : decode cX5_stenographer 138 = .ok (.dup, 1) := by decide +kernel
theorem dX5_stenographer_139 : decode cX5_stenographer 139 = .ok (.ldc 150, 2) := by decide +kernel
theorem dX5_stenographer_141 : decode cX5_stenographer 141 = .ok (.invokespecial 45, 3) := by decide +kernel
theorem dX5_stenographer_144 : decode cX5_stenographer 144 = .ok (.athrow, 1) := by decide +kernel
theorem dX5_sessionOf_0 : decode cX5_sessionOf 0 = .ok (.aload_n 0, 1) := by decide +kernel
theorem dX5_sessionOf_1 : decode cX5_sessionOf 1 = .ok (.getfield 19, 3) := by decide +kernel
theorem dX5_sessionOf_4 : decode cX5_sessionOf 4 = .ok (.iload_n 1, 1) := by decide +kernel
theorem dX5_sessionOf_5 : decode cX5_sessionOf 5 = .ok (.invokevirtual 152, 3) := by decide +kernel
theorem dX5_sessionOf_8 : decode cX5_sessionOf 8 = .ok (.invokestatic 126, 3) := by decide +kernel
theorem dX5_sessionOf_11 : decode cX5_sessionOf 11 = .ok (.aload_n 0, 1) := by decide +kernel
theorem dX5_sessionOf_12 : decode cX5_sessionOf 12 = .ok (.getfield 19, 3) := by decide +kernel
theorem dX5_sessionOf_15 : decode cX5_sessionOf 15 = .ok (.getfield 155, 3) := by decide +kernel
theorem dX5_sessionOf_18 : decode cX5_sessionOf 18 = .ok (.iload_n 1, 1) := by decide +kernel
theorem dX5_sessionOf_19 : decode cX5_sessionOf 19 = .ok (.aaload, 1) := by decide +kernel
theorem dX5_sessionOf_20 : decode cX5_sessionOf 20 = .ok (.astore_n 3, 1) := by decide +kernel
theorem dX5_sessionOf_21 : decode cX5_sessionOf 21 = .ok (.iload_n 2, 1) := by decide +kernel
theorem dX5_sessionOf_22 : decode cX5_sessionOf 22 = .ok (.tableswitch 68 0 5 #[38, 43, 48, 53, 58, 63], 38) := by decide +kernel
theorem dX5_sessionOf_60 : decode cX5_sessionOf 60 = .ok (.aload_n 3, 1) := by decide +kernel
theorem dX5_sessionOf_61 : decode cX5_sessionOf 61 = .ok (.getfield 159, 3) := by decide +kernel
theorem dX5_sessionOf_64 : decode cX5_sessionOf 64 = .ok (.ireturn, 1) := by decide +kernel
theorem dX5_sessionOf_65 : decode cX5_sessionOf 65 = .ok (.aload_n 3, 1) := by decide +kernel
theorem dX5_sessionOf_66 : decode cX5_sessionOf 66 = .ok (.getfield 164, 3) := by decide +kernel
theorem dX5_sessionOf_69 : decode cX5_sessionOf 69 = .ok (.ireturn, 1) := by decide +kernel
theorem dX5_sessionOf_70 : decode cX5_sessionOf 70 = .ok (.aload_n 3, 1) := by decide +kernel
theorem dX5_sessionOf_71 : decode cX5_sessionOf 71 = .ok (.getfield 167, 3) := by decide +kernel
theorem dX5_sessionOf_74 : decode cX5_sessionOf 74 = .ok (.ireturn, 1) := by decide +kernel
theorem dX5_sessionOf_75 : decode cX5_sessionOf 75 = .ok (.aload_n 3, 1) := by decide +kernel
theorem dX5_sessionOf_76 : decode cX5_sessionOf 76 = .ok (.getfield 170, 3) := by decide +kernel
theorem dX5_sessionOf_79 : decode cX5_sessionOf 79 = .ok (.ireturn, 1) := by decide +kernel
theorem dX5_sessionOf_80 : decode cX5_sessionOf 80 = .ok (.aload_n 3, 1) := by decide +kernel
theorem dX5_sessionOf_81 : decode cX5_sessionOf 81 = .ok (.getfield 173, 3) := by decide +kernel
theorem dX5_sessionOf_84 : decode cX5_sessionOf 84 = .ok (.ireturn, 1) := by decide +kernel
theorem dX5_sessionOf_85 : decode cX5_sessionOf 85 = .ok (.aload_n 3, 1) := by decide +kernel
theorem dX5_sessionOf_86 : decode cX5_sessionOf 86 = .ok (.getfield 176, 3) := by decide +kernel
theorem dX5_sessionOf_89 : decode cX5_sessionOf 89 = .ok (.ireturn, 1) := by decide +kernel
theorem dX5_sessionOf_90 : decode cX5_sessionOf 90 = .ok (.new 41, 3) := by decide +kernel
theorem dX5_sessionOf_93 : decode cX5_sessionOf 93 = .ok (.dup, 1) := by decide +kernel
theorem dX5_sessionOf_94 : decode cX5_sessionOf 94 = .ok (.ldc 179, 2) := by decide +kernel
theorem dX5_sessionOf_96 : decode cX5_sessionOf 96 = .ok (.invokespecial 45, 3) := by decide +kernel
theorem dX5_sessionOf_99 : decode cX5_sessionOf 99 = .ok (.athrow, 1) := by decide +kernel
theorem dX5_transcript_0 : decode cX5_transcript 0 = .ok (.aload_n 0, 1) := by decide +kernel
theorem dX5_transcript_1 : decode cX5_transcript 1 = .ok (.getfield 19, 3) := by decide +kernel
theorem dX5_transcript_4 : decode cX5_transcript 4 = .ok (.iload_n 1, 1) := by decide +kernel
theorem dX5_transcript_5 : decode cX5_transcript 5 = .ok (.invokevirtual 123, 3) := by decide +kernel
theorem dX5_transcript_8 : decode cX5_transcript 8 = .ok (.invokestatic 126, 3) := by decide +kernel
theorem dX5_transcript_11 : decode cX5_transcript 11 = .ok (.aload_n 0, 1) := by decide +kernel
theorem dX5_transcript_12 : decode cX5_transcript 12 = .ok (.getfield 19, 3) := by decide +kernel
theorem dX5_transcript_15 : decode cX5_transcript 15 = .ok (.getfield 94, 3) := by decide +kernel
theorem dX5_transcript_18 : decode cX5_transcript 18 = .ok (.iload_n 1, 1) := by decide +kernel
theorem dX5_transcript_19 : decode cX5_transcript 19 = .ok (.iload_n 2, 1) := by decide +kernel
theorem dX5_transcript_20 : decode cX5_transcript 20 = .ok (.invokevirtual 181, 3) := by decide +kernel
theorem dX5_transcript_23 : decode cX5_transcript 23 = .ok (.istore 4, 2) := by decide +kernel
theorem dX5_transcript_25 : decode cX5_transcript 25 = .ok (.iload 4, 2) := by decide +kernel
theorem dX5_transcript_27 : decode cX5_transcript 27 = .ok (.iconst (-1), 1) := by decide +kernel
theorem dX5_transcript_28 : decode cX5_transcript 28 = .ok (.if_icmp .ne 13, 3) := by decide +kernel
theorem dX5_transcript_31 : decode cX5_transcript 31 = .ok (.new 184, 3) := by decide +kernel
theorem dX5_transcript_34 : decode cX5_transcript 34 = .ok (.dup, 1) := by decide +kernel
theorem dX5_transcript_35 : decode cX5_transcript 35 = .ok (.ldc 186, 2) := by decide +kernel
theorem dX5_transcript_37 : decode cX5_transcript 37 = .ok (.invokespecial 188, 3) := by decide +kernel
theorem dX5_transcript_40 : decode cX5_transcript 40 = .ok (.athrow, 1) := by decide +kernel
theorem dX5_transcript_41 : decode cX5_transcript 41 = .ok (.iload_n 3, 1) := by decide +kernel
theorem dX5_transcript_42 : decode cX5_transcript 42 = .ok (.lookupswitch 54 #[(0, 26), (1, 40)], 26) := by decide +kernel
theorem dX5_transcript_68 : decode cX5_transcript 68 = .ok (.aload_n 0, 1) := by decide +kernel
theorem dX5_transcript_69 : decode cX5_transcript 69 = .ok (.getfield 19, 3) := by decide +kernel
theorem dX5_transcript_72 : decode cX5_transcript 72 = .ok (.getfield 94, 3) := by decide +kernel
theorem dX5_transcript_75 : decode cX5_transcript 75 = .ok (.getfield 189, 3) := by decide +kernel
theorem dX5_transcript_78 : decode cX5_transcript 78 = .ok (.iload 4, 2) := by decide +kernel
theorem dX5_transcript_80 : decode cX5_transcript 80 = .ok (.iaload, 1) := by decide +kernel
theorem dX5_transcript_81 : decode cX5_transcript 81 = .ok (.ireturn, 1) := by decide +kernel
theorem dX5_transcript_82 : decode cX5_transcript 82 = .ok (.aload_n 0, 1) := by decide +kernel
theorem dX5_transcript_83 : decode cX5_transcript 83 = .ok (.getfield 19, 3) := by decide +kernel
theorem dX5_transcript_86 : decode cX5_transcript 86 = .ok (.getfield 94, 3) := by decide +kernel
theorem dX5_transcript_89 : decode cX5_transcript 89 = .ok (.getfield 192, 3) := by decide +kernel
theorem dX5_transcript_92 : decode cX5_transcript 92 = .ok (.iload 4, 2) := by decide +kernel
theorem dX5_transcript_94 : decode cX5_transcript 94 = .ok (.iaload, 1) := by decide +kernel
theorem dX5_transcript_95 : decode cX5_transcript 95 = .ok (.ireturn, 1) := by decide +kernel
theorem dX5_transcript_96 : decode cX5_transcript 96 = .ok (.new 41, 3) := by decide +kernel
theorem dX5_transcript_99 : decode cX5_transcript 99 = .ok (.dup, 1) := by decide +kernel
theorem dX5_transcript_100 : decode cX5_transcript 100 = .ok (.ldc 195, 2) := by decide +kernel
theorem dX5_transcript_102 : decode cX5_transcript 102 = .ok (.invokespecial 45, 3) := by decide +kernel
theorem dX5_transcript_105 : decode cX5_transcript 105 = .ok (.athrow, 1) := by decide +kernel
theorem dX5_setting_0 : decode cX5_setting 0 = .ok (.iload_n 1, 1) := by decide +kernel
theorem dX5_setting_1 : decode cX5_setting 1 = .ok (.ifCond .lt 8, 3) := by decide +kernel
theorem dX5_setting_4 : decode cX5_setting 4 = .ok (.iload_n 1, 1) := by decide +kernel
theorem dX5_setting_5 : decode cX5_setting 5 = .ok (.iconst 4, 1) := by decide +kernel
theorem dX5_setting_6 : decode cX5_setting 6 = .ok (.if_icmp .lt 13, 3) := by decide +kernel
theorem dX5_setting_9 : decode cX5_setting 9 = .ok (.new 41, 3) := by decide +kernel
theorem dX5_setting_12 : decode cX5_setting 12 = .ok (.dup, 1) := by decide +kernel
theorem dX5_setting_13 : decode cX5_setting 13 = .ok (.ldc 197, 2) := by decide +kernel
theorem dX5_setting_15 : decode cX5_setting 15 = .ok (.invokespecial 45, 3) := by decide +kernel
theorem dX5_setting_18 : decode cX5_setting 18 = .ok (.athrow, 1) := by decide +kernel
theorem dX5_setting_19 : decode cX5_setting 19 = .ok (.aload_n 0, 1) := by decide +kernel
theorem dX5_setting_20 : decode cX5_setting 20 = .ok (.getfield 19, 3) := by decide +kernel
theorem dX5_setting_23 : decode cX5_setting 23 = .ok (.getfield 199, 3) := by decide +kernel
theorem dX5_setting_26 : decode cX5_setting 26 = .ok (.iload_n 1, 1) := by decide +kernel
theorem dX5_setting_27 : decode cX5_setting 27 = .ok (.iaload, 1) := by decide +kernel
theorem dX5_setting_28 : decode cX5_setting 28 = .ok (.ireturn, 1) := by decide +kernel
theorem dX5_hire_0 : decode cX5_hire 0 = .ok (.aload_n 0, 1) := by decide +kernel
theorem dX5_hire_1 : decode cX5_hire 1 = .ok (.getfield 19, 3) := by decide +kernel
theorem dX5_hire_4 : decode cX5_hire 4 = .ok (.iload_n 1, 1) := by decide +kernel
theorem dX5_hire_5 : decode cX5_hire 5 = .ok (.invokevirtual 202, 3) := by decide +kernel
theorem dX5_hire_8 : decode cX5_hire 8 = .ok (.invokestatic 126, 3) := by decide +kernel
theorem dX5_hire_11 : decode cX5_hire 11 = .ok (.aload_n 0, 1) := by decide +kernel
theorem dX5_hire_12 : decode cX5_hire 12 = .ok (.invokevirtual 205, 3) := by decide +kernel
theorem dX5_hire_15 : decode cX5_hire 15 = .ok (.aload_n 0, 1) := by decide +kernel
theorem dX5_hire_16 : decode cX5_hire 16 = .ok (.getfield 19, 3) := by decide +kernel
theorem dX5_hire_19 : decode cX5_hire 19 = .ok (.iload_n 1, 1) := by decide +kernel
theorem dX5_hire_20 : decode cX5_hire 20 = .ok (.invokevirtual 208, 3) := by decide +kernel
theorem dX5_hire_23 : decode cX5_hire 23 = .ok (.ireturn, 1) := by decide +kernel
theorem dX5_session_0 : decode cX5_session 0 = .ok (.aload_n 0, 1) := by decide +kernel
theorem dX5_session_1 : decode cX5_session 1 = .ok (.getfield 19, 3) := by decide +kernel
theorem dX5_session_4 : decode cX5_session 4 = .ok (.iload_n 1, 1) := by decide +kernel
theorem dX5_session_5 : decode cX5_session 5 = .ok (.iload_n 2, 1) := by decide +kernel
theorem dX5_session_6 : decode cX5_session 6 = .ok (.iload_n 3, 1) := by decide +kernel
theorem dX5_session_7 : decode cX5_session 7 = .ok (.iload 4, 2) := by decide +kernel
theorem dX5_session_9 : decode cX5_session 9 = .ok (.iload 5, 2) := by decide +kernel
theorem dX5_session_11 : decode cX5_session 11 = .ok (.invokevirtual 211, 3) := by decide +kernel
theorem dX5_session_14 : decode cX5_session 14 = .ok (.invokestatic 126, 3) := by decide +kernel
theorem dX5_session_17 : decode cX5_session 17 = .ok (.aload_n 0, 1) := by decide +kernel
theorem dX5_session_18 : decode cX5_session 18 = .ok (.invokevirtual 205, 3) := by decide +kernel
theorem dX5_session_21 : decode cX5_session 21 = .ok (.aload_n 0, 1) := by decide +kernel
theorem dX5_session_22 : decode cX5_session 22 = .ok (.getfield 19, 3) := by decide +kernel
theorem dX5_session_25 : decode cX5_session 25 = .ok (.iload_n 1, 1) := by decide +kernel
theorem dX5_session_26 : decode cX5_session 26 = .ok (.iload_n 2, 1) := by decide +kernel
theorem dX5_session_27 : decode cX5_session 27 = .ok (.iload_n 3, 1) := by decide +kernel
theorem dX5_session_28 : decode cX5_session 28 = .ok (.iload 4, 2) := by decide +kernel
theorem dX5_session_30 : decode cX5_session 30 = .ok (.iload 5, 2) := by decide +kernel
theorem dX5_session_32 : decode cX5_session 32 = .ok (.invokevirtual 215, 3) := by decide +kernel
theorem dX5_session_35 : decode cX5_session 35 = .ok (.ireturn, 1) := by decide +kernel
theorem dX5_cancel_0 : decode cX5_cancel 0 = .ok (.aload_n 0, 1) := by decide +kernel
theorem dX5_cancel_1 : decode cX5_cancel 1 = .ok (.getfield 19, 3) := by decide +kernel
theorem dX5_cancel_4 : decode cX5_cancel 4 = .ok (.iload_n 1, 1) := by decide +kernel
theorem dX5_cancel_5 : decode cX5_cancel 5 = .ok (.invokevirtual 152, 3) := by decide +kernel
theorem dX5_cancel_8 : decode cX5_cancel 8 = .ok (.invokestatic 126, 3) := by decide +kernel
theorem dX5_cancel_11 : decode cX5_cancel 11 = .ok (.aload_n 0, 1) := by decide +kernel
theorem dX5_cancel_12 : decode cX5_cancel 12 = .ok (.invokevirtual 205, 3) := by decide +kernel
theorem dX5_cancel_15 : decode cX5_cancel 15 = .ok (.aload_n 0, 1) := by decide +kernel
theorem dX5_cancel_16 : decode cX5_cancel 16 = .ok (.getfield 19, 3) := by decide +kernel
theorem dX5_cancel_19 : decode cX5_cancel 19 = .ok (.iload_n 1, 1) := by decide +kernel
theorem dX5_cancel_20 : decode cX5_cancel 20 = .ok (.invokevirtual 218, 3) := by decide +kernel
theorem dX5_cancel_23 : decode cX5_cancel 23 = .ok (.aload_n 0, 1) := by decide +kernel
theorem dX5_cancel_24 : decode cX5_cancel 24 = .ok (.getfield 19, 3) := by decide +kernel
theorem dX5_cancel_27 : decode cX5_cancel 27 = .ok (.getfield 85, 3) := by decide +kernel
theorem dX5_cancel_30 : decode cX5_cancel 30 = .ok (.ireturn, 1) := by decide +kernel
theorem dX5_give_0 : decode cX5_give 0 = .ok (.aload_n 0, 1) := by decide +kernel
theorem dX5_give_1 : decode cX5_give 1 = .ok (.getfield 19, 3) := by decide +kernel
theorem dX5_give_4 : decode cX5_give 4 = .ok (.iload_n 1, 1) := by decide +kernel
theorem dX5_give_5 : decode cX5_give 5 = .ok (.iload_n 2, 1) := by decide +kernel
theorem dX5_give_6 : decode cX5_give 6 = .ok (.invokevirtual 221, 3) := by decide +kernel
theorem dX5_give_9 : decode cX5_give 9 = .ok (.invokestatic 126, 3) := by decide +kernel
theorem dX5_give_12 : decode cX5_give 12 = .ok (.aload_n 0, 1) := by decide +kernel
theorem dX5_give_13 : decode cX5_give 13 = .ok (.invokevirtual 205, 3) := by decide +kernel
theorem dX5_give_16 : decode cX5_give 16 = .ok (.aload_n 0, 1) := by decide +kernel
theorem dX5_give_17 : decode cX5_give 17 = .ok (.getfield 19, 3) := by decide +kernel
theorem dX5_give_20 : decode cX5_give 20 = .ok (.getfield 155, 3) := by decide +kernel
theorem dX5_give_23 : decode cX5_give 23 = .ok (.iload_n 1, 1) := by decide +kernel
theorem dX5_give_24 : decode cX5_give 24 = .ok (.aaload, 1) := by decide +kernel
theorem dX5_give_25 : decode cX5_give 25 = .ok (.getfield 176, 3) := by decide +kernel
theorem dX5_give_28 : decode cX5_give 28 = .ok (.istore_n 3, 1) := by decide +kernel
theorem dX5_give_29 : decode cX5_give 29 = .ok (.aload_n 0, 1) := by decide +kernel
theorem dX5_give_30 : decode cX5_give 30 = .ok (.getfield 19, 3) := by decide +kernel
theorem dX5_give_33 : decode cX5_give 33 = .ok (.getfield 155, 3) := by decide +kernel
theorem dX5_give_36 : decode cX5_give 36 = .ok (.iload_n 1, 1) := by decide +kernel
theorem dX5_give_37 : decode cX5_give 37 = .ok (.aaload, 1) := by decide +kernel
theorem dX5_give_38 : decode cX5_give 38 = .ok (.iload_n 2, 1) := by decide +kernel
theorem dX5_give_39 : decode cX5_give 39 = .ok (.putfield 176, 3) := by decide +kernel
theorem dX5_give_42 : decode cX5_give 42 = .ok (.iload_n 3, 1) := by decide +kernel
theorem dX5_give_43 : decode cX5_give 43 = .ok (.ireturn, 1) := by decide +kernel
theorem dX5_giveAll_0 : decode cX5_giveAll 0 = .ok (.aload_n 0, 1) := by decide +kernel
theorem dX5_giveAll_1 : decode cX5_giveAll 1 = .ok (.invokevirtual 205, 3) := by decide +kernel
theorem dX5_giveAll_4 : decode cX5_giveAll 4 = .ok (.aload_n 0, 1) := by decide +kernel
theorem dX5_giveAll_5 : decode cX5_giveAll 5 = .ok (.getfield 19, 3) := by decide +kernel
theorem dX5_giveAll_8 : decode cX5_giveAll 8 = .ok (.invokevirtual 224, 3) := by decide +kernel
theorem dX5_giveAll_11 : decode cX5_giveAll 11 = .ok (.ireturn, 1) := by decide +kernel
theorem dX5_extend_0 : decode cX5_extend 0 = .ok (.aload_n 0, 1) := by decide +kernel
theorem dX5_extend_1 : decode cX5_extend 1 = .ok (.getfield 19, 3) := by decide +kernel
theorem dX5_extend_4 : decode cX5_extend 4 = .ok (.iload_n 1, 1) := by decide +kernel
theorem dX5_extend_5 : decode cX5_extend 5 = .ok (.iload_n 2, 1) := by decide +kernel
theorem dX5_extend_6 : decode cX5_extend 6 = .ok (.invokevirtual 227, 3) := by decide +kernel
theorem dX5_extend_9 : decode cX5_extend 9 = .ok (.invokestatic 126, 3) := by decide +kernel
theorem dX5_extend_12 : decode cX5_extend 12 = .ok (.aload_n 0, 1) := by decide +kernel
theorem dX5_extend_13 : decode cX5_extend 13 = .ok (.invokevirtual 205, 3) := by decide +kernel
theorem dX5_extend_16 : decode cX5_extend 16 = .ok (.aload_n 0, 1) := by decide +kernel
theorem dX5_extend_17 : decode cX5_extend 17 = .ok (.getfield 19, 3) := by decide +kernel
theorem dX5_extend_20 : decode cX5_extend 20 = .ok (.iload_n 1, 1) := by decide +kernel
theorem dX5_extend_21 : decode cX5_extend 21 = .ok (.iload_n 2, 1) := by decide +kernel
theorem dX5_extend_22 : decode cX5_extend 22 = .ok (.invokevirtual 230, 3) := by decide +kernel
theorem dX5_extend_25 : decode cX5_extend 25 = .ok (.ireturn, 1) := by decide +kernel
theorem dX5_leave_0 : decode cX5_leave 0 = .ok (.aload_n 0, 1) := by decide +kernel
theorem dX5_leave_1 : decode cX5_leave 1 = .ok (.getfield 19, 3) := by decide +kernel
theorem dX5_leave_4 : decode cX5_leave 4 = .ok (.iload_n 1, 1) := by decide +kernel
theorem dX5_leave_5 : decode cX5_leave 5 = .ok (.iload_n 2, 1) := by decide +kernel
theorem dX5_leave_6 : decode cX5_leave 6 = .ok (.invokevirtual 233, 3) := by decide +kernel
theorem dX5_leave_9 : decode cX5_leave 9 = .ok (.invokestatic 126, 3) := by decide +kernel
theorem dX5_leave_12 : decode cX5_leave 12 = .ok (.aload_n 0, 1) := by decide +kernel
theorem dX5_leave_13 : decode cX5_leave 13 = .ok (.invokevirtual 205, 3) := by decide +kernel
theorem dX5_leave_16 : decode cX5_leave 16 = .ok (.aload_n 0, 1) := by decide +kernel
theorem dX5_leave_17 : decode cX5_leave 17 = .ok (.getfield 19, 3) := by decide +kernel
theorem dX5_leave_20 : decode cX5_leave 20 = .ok (.iload_n 1, 1) := by decide +kernel
theorem dX5_leave_21 : decode cX5_leave 21 = .ok (.iload_n 2, 1) := by decide +kernel
theorem dX5_leave_22 : decode cX5_leave 22 = .ok (.invokevirtual 236, 3) := by decide +kernel
theorem dX5_leave_25 : decode cX5_leave 25 = .ok (.ireturn, 1) := by decide +kernel
theorem dX5_run_0 : decode cX5_run 0 = .ok (.aload_n 0, 1) := by decide +kernel
theorem dX5_run_1 : decode cX5_run 1 = .ok (.getfield 19, 3) := by decide +kernel
theorem dX5_run_4 : decode cX5_run 4 = .ok (.iload_n 1, 1) := by decide +kernel
theorem dX5_run_5 : decode cX5_run 5 = .ok (.invokevirtual 239, 3) := by decide +kernel
theorem dX5_run_8 : decode cX5_run 8 = .ok (.invokestatic 126, 3) := by decide +kernel
theorem dX5_run_11 : decode cX5_run 11 = .ok (.aload_n 0, 1) := by decide +kernel
theorem dX5_run_12 : decode cX5_run 12 = .ok (.invokevirtual 205, 3) := by decide +kernel
theorem dX5_run_15 : decode cX5_run 15 = .ok (.aload_n 0, 1) := by decide +kernel
theorem dX5_run_16 : decode cX5_run 16 = .ok (.getfield 19, 3) := by decide +kernel
theorem dX5_run_19 : decode cX5_run 19 = .ok (.iload_n 1, 1) := by decide +kernel
theorem dX5_run_20 : decode cX5_run 20 = .ok (.invokevirtual 242, 3) := by decide +kernel
theorem dX5_run_23 : decode cX5_run 23 = .ok (.ireturn, 1) := by decide +kernel
theorem dX5_set_0 : decode cX5_set 0 = .ok (.aload_n 0, 1) := by decide +kernel
theorem dX5_set_1 : decode cX5_set 1 = .ok (.getfield 19, 3) := by decide +kernel
theorem dX5_set_4 : decode cX5_set 4 = .ok (.iload_n 1, 1) := by decide +kernel
theorem dX5_set_5 : decode cX5_set 5 = .ok (.iload_n 2, 1) := by decide +kernel
theorem dX5_set_6 : decode cX5_set 6 = .ok (.invokevirtual 245, 3) := by decide +kernel
theorem dX5_set_9 : decode cX5_set 9 = .ok (.invokestatic 126, 3) := by decide +kernel
theorem dX5_set_12 : decode cX5_set 12 = .ok (.aload_n 0, 1) := by decide +kernel
theorem dX5_set_13 : decode cX5_set 13 = .ok (.invokevirtual 205, 3) := by decide +kernel
theorem dX5_set_16 : decode cX5_set 16 = .ok (.aload_n 0, 1) := by decide +kernel
theorem dX5_set_17 : decode cX5_set 17 = .ok (.getfield 19, 3) := by decide +kernel
theorem dX5_set_20 : decode cX5_set 20 = .ok (.getfield 199, 3) := by decide +kernel
theorem dX5_set_23 : decode cX5_set 23 = .ok (.iload_n 1, 1) := by decide +kernel
theorem dX5_set_24 : decode cX5_set 24 = .ok (.iaload, 1) := by decide +kernel
theorem dX5_set_25 : decode cX5_set 25 = .ok (.istore_n 3, 1) := by decide +kernel
theorem dX5_set_26 : decode cX5_set 26 = .ok (.aload_n 0, 1) := by decide +kernel
theorem dX5_set_27 : decode cX5_set 27 = .ok (.getfield 19, 3) := by decide +kernel
theorem dX5_set_30 : decode cX5_set 30 = .ok (.getfield 199, 3) := by decide +kernel
theorem dX5_set_33 : decode cX5_set 33 = .ok (.iload_n 1, 1) := by decide +kernel
theorem dX5_set_34 : decode cX5_set 34 = .ok (.iload_n 2, 1) := by decide +kernel
theorem dX5_set_35 : decode cX5_set 35 = .ok (.iastore, 1) := by decide +kernel
theorem dX5_set_36 : decode cX5_set 36 = .ok (.iload_n 3, 1) := by decide +kernel
theorem dX5_set_37 : decode cX5_set 37 = .ok (.ireturn, 1) := by decide +kernel
theorem dX5_undo_0 : decode cX5_undo 0 = .ok (.aload_n 0, 1) := by decide +kernel
theorem dX5_undo_1 : decode cX5_undo 1 = .ok (.getfield 37, 3) := by decide +kernel
theorem dX5_undo_4 : decode cX5_undo 4 = .ok (.ifCond .gt 13, 3) := by decide +kernel
theorem dX5_undo_7 : decode cX5_undo 7 = .ok (.new 51, 3) := by decide +kernel
theorem dX5_undo_10 : decode cX5_undo 10 = .ok (.dup, 1) := by decide +kernel
theorem dX5_undo_11 : decode cX5_undo 11 = .ok (.ldc 248, 2) := by decide +kernel
theorem dX5_undo_13 : decode cX5_undo 13 = .ok (.invokespecial 55, 3) := by decide +kernel
theorem dX5_undo_16 : decode cX5_undo 16 = .ok (.athrow, 1) := by decide +kernel
theorem dX5_undo_17 : decode cX5_undo 17 = .ok (.aload_n 0, 1) := by decide +kernel
theorem dX5_undo_18 : decode cX5_undo 18 = .ok (.dup, 1) := by decide +kernel
theorem dX5_undo_19 : decode cX5_undo 19 = .ok (.getfield 37, 3) := by decide +kernel
theorem dX5_undo_22 : decode cX5_undo 22 = .ok (.iconst 1, 1) := by decide +kernel
theorem dX5_undo_23 : decode cX5_undo 23 = .ok (.isub, 1) := by decide +kernel
theorem dX5_undo_24 : decode cX5_undo 24 = .ok (.putfield 37, 3) := by decide +kernel
theorem dX5_undo_27 : decode cX5_undo 27 = .ok (.aload_n 0, 1) := by decide +kernel
theorem dX5_undo_28 : decode cX5_undo 28 = .ok (.getfield 19, 3) := by decide +kernel
theorem dX5_undo_31 : decode cX5_undo 31 = .ok (.aload_n 0, 1) := by decide +kernel
theorem dX5_undo_32 : decode cX5_undo 32 = .ok (.getfield 34, 3) := by decide +kernel
theorem dX5_undo_35 : decode cX5_undo 35 = .ok (.aload_n 0, 1) := by decide +kernel
theorem dX5_undo_36 : decode cX5_undo 36 = .ok (.getfield 37, 3) := by decide +kernel
theorem dX5_undo_39 : decode cX5_undo 39 = .ok (.aaload, 1) := by decide +kernel
theorem dX5_undo_40 : decode cX5_undo 40 = .ok (.invokevirtual 250, 3) := by decide +kernel
theorem dX5_undo_43 : decode cX5_undo 43 = .ok (.aload_n 0, 1) := by decide +kernel
theorem dX5_undo_44 : decode cX5_undo 44 = .ok (.getfield 37, 3) := by decide +kernel
theorem dX5_undo_47 : decode cX5_undo 47 = .ok (.ireturn, 1) := by decide +kernel
theorem dX5_whyNot_0 : decode cX5_whyNot 0 = .ok (.aload_n 0, 1) := by decide +kernel
theorem dX5_whyNot_1 : decode cX5_whyNot 1 = .ok (.getfield 19, 3) := by decide +kernel
theorem dX5_whyNot_4 : decode cX5_whyNot 4 = .ok (.iload_n 1, 1) := by decide +kernel
theorem dX5_whyNot_5 : decode cX5_whyNot 5 = .ok (.invokevirtual 152, 3) := by decide +kernel
theorem dX5_whyNot_8 : decode cX5_whyNot 8 = .ok (.invokestatic 126, 3) := by decide +kernel
theorem dX5_whyNot_11 : decode cX5_whyNot 11 = .ok (.aload_n 0, 1) := by decide +kernel
theorem dX5_whyNot_12 : decode cX5_whyNot 12 = .ok (.getfield 19, 3) := by decide +kernel
theorem dX5_whyNot_15 : decode cX5_whyNot 15 = .ok (.iload_n 2, 1) := by decide +kernel
theorem dX5_whyNot_16 : decode cX5_whyNot 16 = .ok (.invokevirtual 123, 3) := by decide +kernel
theorem dX5_whyNot_19 : decode cX5_whyNot 19 = .ok (.invokestatic 126, 3) := by decide +kernel
theorem dX5_whyNot_22 : decode cX5_whyNot 22 = .ok (.aload_n 0, 1) := by decide +kernel
theorem dX5_whyNot_23 : decode cX5_whyNot 23 = .ok (.getfield 19, 3) := by decide +kernel
theorem dX5_whyNot_26 : decode cX5_whyNot 26 = .ok (.getfield 155, 3) := by decide +kernel
theorem dX5_whyNot_29 : decode cX5_whyNot 29 = .ok (.iload_n 1, 1) := by decide +kernel
theorem dX5_whyNot_30 : decode cX5_whyNot 30 = .ok (.aaload, 1) := by decide +kernel
theorem dX5_whyNot_31 : decode cX5_whyNot 31 = .ok (.getfield 176, 3) := by decide +kernel
theorem dX5_whyNot_34 : decode cX5_whyNot 34 = .ok (.iload_n 2, 1) := by decide +kernel
theorem dX5_whyNot_35 : decode cX5_whyNot 35 = .ok (.if_icmp .ne 7, 3) := by decide +kernel
theorem dX5_whyNot_38 : decode cX5_whyNot 38 = .ok (.iconst 0, 1) := by decide +kernel
theorem dX5_whyNot_39 : decode cX5_whyNot 39 = .ok (.goto 12, 3) := by decide +kernel
theorem dX5_whyNot_42 : decode cX5_whyNot 42 = .ok (.aload_n 0, 1) := by decide +kernel
theorem dX5_whyNot_43 : decode cX5_whyNot 43 = .ok (.getfield 19, 3) := by decide +kernel
theorem dX5_whyNot_46 : decode cX5_whyNot 46 = .ok (.iload_n 1, 1) := by decide +kernel
theorem dX5_whyNot_47 : decode cX5_whyNot 47 = .ok (.iload_n 2, 1) := by decide +kernel
theorem dX5_whyNot_48 : decode cX5_whyNot 48 = .ok (.invokevirtual 254, 3) := by decide +kernel
theorem dX5_whyNot_51 : decode cX5_whyNot 51 = .ok (.ireturn, 1) := by decide +kernel
theorem dX5_whom_0 : decode cX5_whom 0 = .ok (.aload_n 0, 1) := by decide +kernel
theorem dX5_whom_1 : decode cX5_whom 1 = .ok (.getfield 19, 3) := by decide +kernel
theorem dX5_whom_4 : decode cX5_whom 4 = .ok (.iload_n 1, 1) := by decide +kernel
theorem dX5_whom_5 : decode cX5_whom 5 = .ok (.invokevirtual 152, 3) := by decide +kernel
theorem dX5_whom_8 : decode cX5_whom 8 = .ok (.invokestatic 126, 3) := by decide +kernel
theorem dX5_whom_11 : decode cX5_whom 11 = .ok (.aload_n 0, 1) := by decide +kernel
theorem dX5_whom_12 : decode cX5_whom 12 = .ok (.getfield 19, 3) := by decide +kernel
theorem dX5_whom_15 : decode cX5_whom 15 = .ok (.iload_n 1, 1) := by decide +kernel
theorem dX5_whom_16 : decode cX5_whom 16 = .ok (.invokevirtual 257, 3) := by decide +kernel
theorem dX5_whom_19 : decode cX5_whom 19 = .ok (.ireturn, 1) := by decide +kernel
theorem dX5_coming_0 : decode cX5_coming 0 = .ok (.iload_n 1, 1) := by decide +kernel
theorem dX5_coming_1 : decode cX5_coming 1 = .ok (.iconst 1, 1) := by decide +kernel
theorem dX5_coming_2 : decode cX5_coming 2 = .ok (.if_icmp .lt 18, 3) := by decide +kernel
theorem dX5_coming_5 : decode cX5_coming 5 = .ok (.iload_n 1, 1) := by decide +kernel
theorem dX5_coming_6 : decode cX5_coming 6 = .ok (.bipush 60, 2) := by decide +kernel
theorem dX5_coming_8 : decode cX5_coming 8 = .ok (.if_icmp .gt 12, 3) := by decide +kernel
theorem dX5_coming_11 : decode cX5_coming 11 = .ok (.iload_n 2, 1) := by decide +kernel
theorem dX5_coming_12 : decode cX5_coming 12 = .ok (.ifCond .lt 8, 3) := by decide +kernel
theorem dX5_coming_15 : decode cX5_coming 15 = .ok (.iload_n 2, 1) := by decide +kernel
theorem dX5_coming_16 : decode cX5_coming 16 = .ok (.iconst 3, 1) := by decide +kernel
theorem dX5_coming_17 : decode cX5_coming 17 = .ok (.if_icmp .le 14, 3) := by decide +kernel
theorem dX5_coming_20 : decode cX5_coming 20 = .ok (.new 41, 3) := by decide +kernel
theorem dX5_coming_23 : decode cX5_coming 23 = .ok (.dup, 1) := by decide +kernel
theorem dX5_coming_24 : decode cX5_coming 24 = .ok (.ldc_w 260, 3) := by decide +kernel
theorem dX5_coming_27 : decode cX5_coming 27 = .ok (.invokespecial 45, 3) := by decide +kernel
theorem dX5_coming_30 : decode cX5_coming 30 = .ok (.athrow, 1) := by decide +kernel
theorem dX5_coming_31 : decode cX5_coming 31 = .ok (.aload_n 0, 1) := by decide +kernel
theorem dX5_coming_32 : decode cX5_coming 32 = .ok (.getfield 23, 3) := by decide +kernel
theorem dX5_coming_35 : decode cX5_coming 35 = .ok (.aload_n 0, 1) := by decide +kernel
theorem dX5_coming_36 : decode cX5_coming 36 = .ok (.getfield 19, 3) := by decide +kernel
theorem dX5_coming_39 : decode cX5_coming 39 = .ok (.invokevirtual 250, 3) := by decide +kernel
theorem dX5_coming_42 : decode cX5_coming 42 = .ok (.aload_n 0, 1) := by decide +kernel
theorem dX5_coming_43 : decode cX5_coming 43 = .ok (.getfield 23, 3) := by decide +kernel
theorem dX5_coming_46 : decode cX5_coming 46 = .ok (.iload_n 1, 1) := by decide +kernel
theorem dX5_coming_47 : decode cX5_coming 47 = .ok (.invokevirtual 242, 3) := by decide +kernel
theorem dX5_coming_50 : decode cX5_coming 50 = .ok (.istore_n 3, 1) := by decide +kernel
theorem dX5_coming_51 : decode cX5_coming 51 = .ok (.iload_n 2, 1) := by decide +kernel
theorem dX5_coming_52 : decode cX5_coming 52 = .ok (.tableswitch 62 0 2 #[28, 44, 60], 28) := by decide +kernel
theorem dX5_coming_80 : decode cX5_coming 80 = .ok (.aload_n 0, 1) := by decide +kernel
theorem dX5_coming_81 : decode cX5_coming 81 = .ok (.getfield 23, 3) := by decide +kernel
theorem dX5_coming_84 : decode cX5_coming 84 = .ok (.getfield 106, 3) := by decide +kernel
theorem dX5_coming_87 : decode cX5_coming 87 = .ok (.aload_n 0, 1) := by decide +kernel
theorem dX5_coming_88 : decode cX5_coming 88 = .ok (.getfield 19, 3) := by decide +kernel
theorem dX5_coming_91 : decode cX5_coming 91 = .ok (.getfield 106, 3) := by decide +kernel
theorem dX5_coming_94 : decode cX5_coming 94 = .ok (.isub, 1) := by decide +kernel
theorem dX5_coming_95 : decode cX5_coming 95 = .ok (.ireturn, 1) := by decide +kernel
theorem dX5_coming_96 : decode cX5_coming 96 = .ok (.aload_n 0, 1) := by decide +kernel
theorem dX5_coming_97 : decode cX5_coming 97 = .ok (.getfield 23, 3) := by decide +kernel
theorem dX5_coming_100 : decode cX5_coming 100 = .ok (.invokevirtual 109, 3) := by decide +kernel
theorem dX5_coming_103 : decode cX5_coming 103 = .ok (.aload_n 0, 1) := by decide +kernel
theorem dX5_coming_104 : decode cX5_coming 104 = .ok (.getfield 19, 3) := by decide +kernel
theorem dX5_coming_107 : decode cX5_coming 107 = .ok (.invokevirtual 109, 3) := by decide +kernel
theorem dX5_coming_110 : decode cX5_coming 110 = .ok (.isub, 1) := by decide +kernel
theorem dX5_coming_111 : decode cX5_coming 111 = .ok (.ireturn, 1) := by decide +kernel
theorem dX5_coming_112 : decode cX5_coming 112 = .ok (.iload_n 3, 1) := by decide +kernel
theorem dX5_coming_113 : decode cX5_coming 113 = .ok (.ireturn, 1) := by decide +kernel
theorem dX5_coming_114 : decode cX5_coming 114 = .ok (.aload_n 0, 1) := by decide +kernel
theorem dX5_coming_115 : decode cX5_coming 115 = .ok (.getfield 23, 3) := by decide +kernel
theorem dX5_coming_118 : decode cX5_coming 118 = .ok (.getfield 94, 3) := by decide +kernel
theorem dX5_coming_121 : decode cX5_coming 121 = .ok (.getfield 98, 3) := by decide +kernel
theorem dX5_coming_124 : decode cX5_coming 124 = .ok (.ireturn, 1) := by decide +kernel
theorem dX5_emptyIn_0 : decode cX5_emptyIn 0 = .ok (.aload_n 0, 1) := by decide +kernel
theorem dX5_emptyIn_1 : decode cX5_emptyIn 1 = .ok (.getfield 19, 3) := by decide +kernel
theorem dX5_emptyIn_4 : decode cX5_emptyIn 4 = .ok (.iload_n 1, 1) := by decide +kernel
theorem dX5_emptyIn_5 : decode cX5_emptyIn 5 = .ok (.invokevirtual 123, 3) := by decide +kernel
theorem dX5_emptyIn_8 : decode cX5_emptyIn 8 = .ok (.invokestatic 126, 3) := by decide +kernel
theorem dX5_emptyIn_11 : decode cX5_emptyIn 11 = .ok (.aload_n 0, 1) := by decide +kernel
theorem dX5_emptyIn_12 : decode cX5_emptyIn 12 = .ok (.getfield 23, 3) := by decide +kernel
theorem dX5_emptyIn_15 : decode cX5_emptyIn 15 = .ok (.aload_n 0, 1) := by decide +kernel
theorem dX5_emptyIn_16 : decode cX5_emptyIn 16 = .ok (.getfield 19, 3) := by decide +kernel
theorem dX5_emptyIn_19 : decode cX5_emptyIn 19 = .ok (.invokevirtual 250, 3) := by decide +kernel
theorem dX5_emptyIn_22 : decode cX5_emptyIn 22 = .ok (.iconst 0, 1) := by decide +kernel
theorem dX5_emptyIn_23 : decode cX5_emptyIn 23 = .ok (.istore_n 2, 1) := by decide +kernel
theorem dX5_emptyIn_24 : decode cX5_emptyIn 24 = .ok (.iload_n 2, 1) := by decide +kernel
theorem dX5_emptyIn_25 : decode cX5_emptyIn 25 = .ok (.bipush 60, 2) := by decide +kernel
theorem dX5_emptyIn_27 : decode cX5_emptyIn 27 = .ok (.if_icmp .gt 32, 3) := by decide +kernel
theorem dX5_emptyIn_30 : decode cX5_emptyIn 30 = .ok (.aload_n 0, 1) := by decide +kernel
theorem dX5_emptyIn_31 : decode cX5_emptyIn 31 = .ok (.getfield 23, 3) := by decide +kernel
theorem dX5_emptyIn_34 : decode cX5_emptyIn 34 = .ok (.getfield 94, 3) := by decide +kernel
theorem dX5_emptyIn_37 : decode cX5_emptyIn 37 = .ok (.iload_n 1, 1) := by decide +kernel
theorem dX5_emptyIn_38 : decode cX5_emptyIn 38 = .ok (.invokevirtual 137, 3) := by decide +kernel
theorem dX5_emptyIn_41 : decode cX5_emptyIn 41 = .ok (.ifCond .ne 5, 3) := by decide +kernel
theorem dX5_emptyIn_44 : decode cX5_emptyIn 44 = .ok (.iload_n 2, 1) := by decide +kernel
theorem dX5_emptyIn_45 : decode cX5_emptyIn 45 = .ok (.ireturn, 1) := by decide +kernel
theorem dX5_emptyIn_46 : decode cX5_emptyIn 46 = .ok (.aload_n 0, 1) := by decide +kernel
theorem dX5_emptyIn_47 : decode cX5_emptyIn 47 = .ok (.getfield 23, 3) := by decide +kernel
theorem dX5_emptyIn_50 : decode cX5_emptyIn 50 = .ok (.invokevirtual 262, 3) := by decide +kernel
theorem dX5_emptyIn_53 : decode cX5_emptyIn 53 = .ok (.iinc 2 1, 3) := by decide +kernel
theorem dX5_emptyIn_56 : decode cX5_emptyIn 56 = .ok (.goto (-32), 3) := by decide +kernel
theorem dX5_emptyIn_59 : decode cX5_emptyIn 59 = .ok (.iconst (-1), 1) := by decide +kernel
theorem dX5_emptyIn_60 : decode cX5_emptyIn 60 = .ok (.ireturn, 1) := by decide +kernel
theorem dX5_ifHired_0 : decode cX5_ifHired 0 = .ok (.iload_n 2, 1) := by decide +kernel
theorem dX5_ifHired_1 : decode cX5_ifHired 1 = .ok (.iconst 1, 1) := by decide +kernel
theorem dX5_ifHired_2 : decode cX5_ifHired 2 = .ok (.if_icmp .lt 9, 3) := by decide +kernel
theorem dX5_ifHired_5 : decode cX5_ifHired 5 = .ok (.iload_n 2, 1) := by decide +kernel
theorem dX5_ifHired_6 : decode cX5_ifHired 6 = .ok (.bipush 30, 2) := by decide +kernel
theorem dX5_ifHired_8 : decode cX5_ifHired 8 = .ok (.if_icmp .le 14, 3) := by decide +kernel
theorem dX5_ifHired_11 : decode cX5_ifHired 11 = .ok (.new 41, 3) := by decide +kernel
theorem dX5_ifHired_14 : decode cX5_ifHired 14 = .ok (.dup, 1) := by decide +kernel
theorem dX5_ifHired_15 : decode cX5_ifHired 15 = .ok (.ldc_w 265, 3) := by decide +kernel
theorem dX5_ifHired_18 : decode cX5_ifHired 18 = .ok (.invokespecial 45, 3) := by decide +kernel
theorem dX5_ifHired_21 : decode cX5_ifHired 21 = .ok (.athrow, 1) := by decide +kernel
theorem dX5_ifHired_22 : decode cX5_ifHired 22 = .ok (.aload_n 0, 1) := by decide +kernel
theorem dX5_ifHired_23 : decode cX5_ifHired 23 = .ok (.getfield 19, 3) := by decide +kernel
theorem dX5_ifHired_26 : decode cX5_ifHired 26 = .ok (.iload_n 1, 1) := by decide +kernel
theorem dX5_ifHired_27 : decode cX5_ifHired 27 = .ok (.invokevirtual 202, 3) := by decide +kernel
theorem dX5_ifHired_30 : decode cX5_ifHired 30 = .ok (.invokestatic 126, 3) := by decide +kernel
theorem dX5_ifHired_33 : decode cX5_ifHired 33 = .ok (.aload_n 0, 1) := by decide +kernel
theorem dX5_ifHired_34 : decode cX5_ifHired 34 = .ok (.getfield 23, 3) := by decide +kernel
theorem dX5_ifHired_37 : decode cX5_ifHired 37 = .ok (.aload_n 0, 1) := by decide +kernel
theorem dX5_ifHired_38 : decode cX5_ifHired 38 = .ok (.getfield 19, 3) := by decide +kernel
theorem dX5_ifHired_41 : decode cX5_ifHired 41 = .ok (.invokevirtual 250, 3) := by decide +kernel
theorem dX5_ifHired_44 : decode cX5_ifHired 44 = .ok (.aload_n 0, 1) := by decide +kernel
theorem dX5_ifHired_45 : decode cX5_ifHired 45 = .ok (.getfield 23, 3) := by decide +kernel
theorem dX5_ifHired_48 : decode cX5_ifHired 48 = .ok (.invokevirtual 224, 3) := by decide +kernel
theorem dX5_ifHired_51 : decode cX5_ifHired 51 = .ok (.pop, 1) := by decide +kernel
theorem dX5_ifHired_52 : decode cX5_ifHired 52 = .ok (.aload_n 0, 1) := by decide +kernel
theorem dX5_ifHired_53 : decode cX5_ifHired 53 = .ok (.getfield 23, 3) := by decide +kernel
theorem dX5_ifHired_56 : decode cX5_ifHired 56 = .ok (.iload_n 2, 1) := by decide +kernel
theorem dX5_ifHired_57 : decode cX5_ifHired 57 = .ok (.invokevirtual 242, 3) := by decide +kernel
theorem dX5_ifHired_60 : decode cX5_ifHired 60 = .ok (.istore_n 3, 1) := by decide +kernel
theorem dX5_ifHired_61 : decode cX5_ifHired 61 = .ok (.aload_n 0, 1) := by decide +kernel
theorem dX5_ifHired_62 : decode cX5_ifHired 62 = .ok (.getfield 23, 3) := by decide +kernel
theorem dX5_ifHired_65 : decode cX5_ifHired 65 = .ok (.aload_n 0, 1) := by decide +kernel
theorem dX5_ifHired_66 : decode cX5_ifHired 66 = .ok (.getfield 19, 3) := by decide +kernel
theorem dX5_ifHired_69 : decode cX5_ifHired 69 = .ok (.invokevirtual 250, 3) := by decide +kernel
theorem dX5_ifHired_72 : decode cX5_ifHired 72 = .ok (.aload_n 0, 1) := by decide +kernel
theorem dX5_ifHired_73 : decode cX5_ifHired 73 = .ok (.getfield 23, 3) := by decide +kernel
theorem dX5_ifHired_76 : decode cX5_ifHired 76 = .ok (.iload_n 1, 1) := by decide +kernel
theorem dX5_ifHired_77 : decode cX5_ifHired 77 = .ok (.invokevirtual 208, 3) := by decide +kernel
theorem dX5_ifHired_80 : decode cX5_ifHired 80 = .ok (.pop, 1) := by decide +kernel
theorem dX5_ifHired_81 : decode cX5_ifHired 81 = .ok (.aload_n 0, 1) := by decide +kernel
theorem dX5_ifHired_82 : decode cX5_ifHired 82 = .ok (.getfield 23, 3) := by decide +kernel
theorem dX5_ifHired_85 : decode cX5_ifHired 85 = .ok (.invokevirtual 224, 3) := by decide +kernel
theorem dX5_ifHired_88 : decode cX5_ifHired 88 = .ok (.pop, 1) := by decide +kernel
theorem dX5_ifHired_89 : decode cX5_ifHired 89 = .ok (.iload_n 3, 1) := by decide +kernel
theorem dX5_ifHired_90 : decode cX5_ifHired 90 = .ok (.aload_n 0, 1) := by decide +kernel
theorem dX5_ifHired_91 : decode cX5_ifHired 91 = .ok (.getfield 23, 3) := by decide +kernel
theorem dX5_ifHired_94 : decode cX5_ifHired 94 = .ok (.iload_n 2, 1) := by decide +kernel
theorem dX5_ifHired_95 : decode cX5_ifHired 95 = .ok (.invokevirtual 242, 3) := by decide +kernel
theorem dX5_ifHired_98 : decode cX5_ifHired 98 = .ok (.isub, 1) := by decide +kernel
theorem dX5_ifHired_99 : decode cX5_ifHired 99 = .ok (.ireturn, 1) := by decide +kernel
theorem dX5_freeRoom_0 : decode cX5_freeRoom 0 = .ok (.aload_n 0, 1) := by decide +kernel
theorem dX5_freeRoom_1 : decode cX5_freeRoom 1 = .ok (.getfield 19, 3) := by decide +kernel
theorem dX5_freeRoom_4 : decode cX5_freeRoom 4 = .ok (.iload_n 1, 1) := by decide +kernel
theorem dX5_freeRoom_5 : decode cX5_freeRoom 5 = .ok (.iload_n 2, 1) := by decide +kernel
theorem dX5_freeRoom_6 : decode cX5_freeRoom 6 = .ok (.iload_n 3, 1) := by decide +kernel
theorem dX5_freeRoom_7 : decode cX5_freeRoom 7 = .ok (.invokevirtual 267, 3) := by decide +kernel
theorem dX5_freeRoom_10 : decode cX5_freeRoom 10 = .ok (.ifCond .ne 14, 3) := by decide +kernel
theorem dX5_freeRoom_13 : decode cX5_freeRoom 13 = .ok (.new 41, 3) := by decide +kernel
theorem dX5_freeRoom_16 : decode cX5_freeRoom 16 = .ok (.dup, 1) := by decide +kernel
theorem dX5_freeRoom_17 : decode cX5_freeRoom 17 = .ok (.ldc_w 271, 3) := by decide +kernel
theorem dX5_freeRoom_20 : decode cX5_freeRoom 20 = .ok (.invokespecial 45, 3) := by decide +kernel
theorem dX5_freeRoom_23 : decode cX5_freeRoom 23 = .ok (.athrow, 1) := by decide +kernel
theorem dX5_freeRoom_24 : decode cX5_freeRoom 24 = .ok (.iconst 0, 1) := by decide +kernel
theorem dX5_freeRoom_25 : decode cX5_freeRoom 25 = .ok (.istore 4, 2) := by decide +kernel
theorem dX5_freeRoom_27 : decode cX5_freeRoom 27 = .ok (.iload 4, 2) := by decide +kernel
theorem dX5_freeRoom_29 : decode cX5_freeRoom 29 = .ok (.iconst 5, 1) := by decide +kernel
theorem dX5_freeRoom_30 : decode cX5_freeRoom 30 = .ok (.if_icmp .ge 27, 3) := by decide +kernel
theorem dX5_freeRoom_33 : decode cX5_freeRoom 33 = .ok (.aload_n 0, 1) := by decide +kernel
theorem dX5_freeRoom_34 : decode cX5_freeRoom 34 = .ok (.getfield 19, 3) := by decide +kernel
theorem dX5_freeRoom_37 : decode cX5_freeRoom 37 = .ok (.iload 4, 2) := by decide +kernel
theorem dX5_freeRoom_39 : decode cX5_freeRoom 39 = .ok (.iload_n 1, 1) := by decide +kernel
theorem dX5_freeRoom_40 : decode cX5_freeRoom 40 = .ok (.iload_n 2, 1) := by decide +kernel
theorem dX5_freeRoom_41 : decode cX5_freeRoom 41 = .ok (.iload_n 3, 1) := by decide +kernel
theorem dX5_freeRoom_42 : decode cX5_freeRoom 42 = .ok (.invokevirtual 273, 3) := by decide +kernel
theorem dX5_freeRoom_45 : decode cX5_freeRoom 45 = .ok (.ifCond .ne 6, 3) := by decide +kernel
theorem dX5_freeRoom_48 : decode cX5_freeRoom 48 = .ok (.iload 4, 2) := by decide +kernel
theorem dX5_freeRoom_50 : decode cX5_freeRoom 50 = .ok (.ireturn, 1) := by decide +kernel
theorem dX5_freeRoom_51 : decode cX5_freeRoom 51 = .ok (.iinc 4 1, 3) := by decide +kernel
theorem dX5_freeRoom_54 : decode cX5_freeRoom 54 = .ok (.goto (-27), 3) := by decide +kernel
theorem dX5_freeRoom_57 : decode cX5_freeRoom 57 = .ok (.iconst (-1), 1) := by decide +kernel
theorem dX5_freeRoom_58 : decode cX5_freeRoom 58 = .ok (.ireturn, 1) := by decide +kernel
theorem dX5_runScript_0 : decode cX5_runScript 0 = .ok (.iload_n 1, 1) := by decide +kernel
theorem dX5_runScript_1 : decode cX5_runScript 1 = .ok (.iconst 1, 1) := by decide +kernel
theorem dX5_runScript_2 : decode cX5_runScript 2 = .ok (.if_icmp .lt 8, 3) := by decide +kernel
theorem dX5_runScript_5 : decode cX5_runScript 5 = .ok (.iload_n 1, 1) := by decide +kernel
theorem dX5_runScript_6 : decode cX5_runScript 6 = .ok (.iconst 3, 1) := by decide +kernel
theorem dX5_runScript_7 : decode cX5_runScript 7 = .ok (.if_icmp .le 14, 3) := by decide +kernel
theorem dX5_runScript_10 : decode cX5_runScript 10 = .ok (.new 41, 3) := by decide +kernel
theorem dX5_runScript_13 : decode cX5_runScript 13 = .ok (.dup, 1) := by decide +kernel
theorem dX5_runScript_14 : decode cX5_runScript 14 = .ok (.ldc_w 277, 3) := by decide +kernel
theorem dX5_runScript_17 : decode cX5_runScript 17 = .ok (.invokespecial 45, 3) := by decide +kernel
theorem dX5_runScript_20 : decode cX5_runScript 20 = .ok (.athrow, 1) := by decide +kernel
theorem dX5_runScript_21 : decode cX5_runScript 21 = .ok (.lconst 1, 1) := by decide +kernel
theorem dX5_runScript_22 : decode cX5_runScript 22 = .ok (.lstore 4, 2) := by decide +kernel
theorem dX5_runScript_24 : decode cX5_runScript 24 = .ok (.iconst 0, 1) := by decide +kernel
theorem dX5_runScript_25 : decode cX5_runScript 25 = .ok (.istore 6, 2) := by decide +kernel
theorem dX5_runScript_27 : decode cX5_runScript 27 = .ok (.iload 6, 2) := by decide +kernel
theorem dX5_runScript_29 : decode cX5_runScript 29 = .ok (.iload_n 1, 1) := by decide +kernel
theorem dX5_runScript_30 : decode cX5_runScript 30 = .ok (.if_icmp .ge 17, 3) := by decide +kernel
theorem dX5_runScript_33 : decode cX5_runScript 33 = .ok (.lload 4, 2) := by decide +kernel
theorem dX5_runScript_35 : decode cX5_runScript 35 = .ok (.ldc2_w 279, 3) := by decide +kernel
theorem dX5_runScript_38 : decode cX5_runScript 38 = .ok (.lmul, 1) := by decide +kernel
theorem dX5_runScript_39 : decode cX5_runScript 39 = .ok (.lstore 4, 2) := by decide +kernel
theorem dX5_runScript_41 : decode cX5_runScript 41 = .ok (.iinc 6 1, 3) := by decide +kernel
theorem dX5_runScript_44 : decode cX5_runScript 44 = .ok (.goto (-17), 3) := by decide +kernel
theorem dX5_runScript_47 : decode cX5_runScript 47 = .ok (.lload_n 2, 1) := by decide +kernel
theorem dX5_runScript_48 : decode cX5_runScript 48 = .ok (.lconst 0, 1) := by decide +kernel
theorem dX5_runScript_49 : decode cX5_runScript 49 = .ok (.lcmp, 1) := by decide +kernel
theorem dX5_runScript_50 : decode cX5_runScript 50 = .ok (.ifCond .lt 10, 3) := by decide +kernel
theorem dX5_runScript_53 : decode cX5_runScript 53 = .ok (.lload_n 2, 1) := by decide +kernel
theorem dX5_runScript_54 : decode cX5_runScript 54 = .ok (.lload 4, 2) := by decide +kernel
theorem dX5_runScript_56 : decode cX5_runScript 56 = .ok (.lcmp, 1) := by decide +kernel
theorem dX5_runScript_57 : decode cX5_runScript 57 = .ok (.ifCond .lt 14, 3) := by decide +kernel
theorem dX5_runScript_60 : decode cX5_runScript 60 = .ok (.new 41, 3) := by decide +kernel
theorem dX5_runScript_63 : decode cX5_runScript 63 = .ok (.dup, 1) := by decide +kernel
theorem dX5_runScript_64 : decode cX5_runScript 64 = .ok (.ldc_w 281, 3) := by decide +kernel
theorem dX5_runScript_67 : decode cX5_runScript 67 = .ok (.invokespecial 45, 3) := by decide +kernel
theorem dX5_runScript_70 : decode cX5_runScript 70 = .ok (.athrow, 1) := by decide +kernel
theorem dX5_runScript_71 : decode cX5_runScript 71 = .ok (.aload_n 0, 1) := by decide +kernel
theorem dX5_runScript_72 : decode cX5_runScript 72 = .ok (.getfield 23, 3) := by decide +kernel
theorem dX5_runScript_75 : decode cX5_runScript 75 = .ok (.aload_n 0, 1) := by decide +kernel
theorem dX5_runScript_76 : decode cX5_runScript 76 = .ok (.getfield 19, 3) := by decide +kernel
theorem dX5_runScript_79 : decode cX5_runScript 79 = .ok (.invokevirtual 250, 3) := by decide +kernel
theorem dX5_runScript_82 : decode cX5_runScript 82 = .ok (.lload_n 2, 1) := by decide +kernel
theorem dX5_runScript_83 : decode cX5_runScript 83 = .ok (.lstore 6, 2) := by decide +kernel
theorem dX5_runScript_85 : decode cX5_runScript 85 = .ok (.iconst 0, 1) := by decide +kernel
theorem dX5_runScript_86 : decode cX5_runScript 86 = .ok (.istore 8, 2) := by decide +kernel
theorem dX5_runScript_88 : decode cX5_runScript 88 = .ok (.iload 8, 2) := by decide +kernel
theorem dX5_runScript_90 : decode cX5_runScript 90 = .ok (.iload_n 1, 1) := by decide +kernel
theorem dX5_runScript_91 : decode cX5_runScript 91 = .ok (.if_icmp .ge 55, 3) := by decide +kernel
theorem dX5_runScript_94 : decode cX5_runScript 94 = .ok (.lload 4, 2) := by decide +kernel
theorem dX5_runScript_96 : decode cX5_runScript 96 = .ok (.ldc2_w 279, 3) := by decide +kernel
theorem dX5_runScript_99 : decode cX5_runScript 99 = .ok (.ldiv, 1) := by decide +kernel
theorem dX5_runScript_100 : decode cX5_runScript 100 = .ok (.lstore 4, 2) := by decide +kernel
theorem dX5_runScript_102 : decode cX5_runScript 102 = .ok (.lload 4, 2) := by decide +kernel
theorem dX5_runScript_104 : decode cX5_runScript 104 = .ok (.lconst 0, 1) := by decide +kernel
theorem dX5_runScript_105 : decode cX5_runScript 105 = .ok (.lcmp, 1) := by decide +kernel
theorem dX5_runScript_106 : decode cX5_runScript 106 = .ok (.ifCond .ne 7, 3) := by decide +kernel
theorem dX5_runScript_109 : decode cX5_runScript 109 = .ok (.iconst 0, 1) := by decide +kernel
theorem dX5_runScript_110 : decode cX5_runScript 110 = .ok (.goto 13, 3) := by decide +kernel
theorem dX5_runScript_113 : decode cX5_runScript 113 = .ok (.lload 6, 2) := by decide +kernel
theorem dX5_runScript_115 : decode cX5_runScript 115 = .ok (.lload 4, 2) := by decide +kernel
theorem dX5_runScript_117 : decode cX5_runScript 117 = .ok (.ldiv, 1) := by decide +kernel
theorem dX5_runScript_118 : decode cX5_runScript 118 = .ok (.ldc2_w 279, 3) := by decide +kernel
theorem dX5_runScript_121 : decode cX5_runScript 121 = .ok (.lrem, 1) := by decide +kernel
theorem dX5_runScript_122 : decode cX5_runScript 122 = .ok (.l2i, 1) := by decide +kernel
theorem dX5_runScript_123 : decode cX5_runScript 123 = .ok (.istore 9, 2) := by decide +kernel
theorem dX5_runScript_125 : decode cX5_runScript 125 = .ok (.aload_n 0, 1) := by decide +kernel
theorem dX5_runScript_126 : decode cX5_runScript 126 = .ok (.getfield 23, 3) := by decide +kernel
theorem dX5_runScript_129 : decode cX5_runScript 129 = .ok (.iload 9, 2) := by decide +kernel
theorem dX5_runScript_131 : decode cX5_runScript 131 = .ok (.invokestatic 283, 3) := by decide +kernel
theorem dX5_runScript_134 : decode cX5_runScript 134 = .ok (.ifCond .ne 6, 3) := by decide +kernel
theorem dX5_runScript_137 : decode cX5_runScript 137 = .ok (.iload 8, 2) := by decide +kernel
theorem dX5_runScript_139 : decode cX5_runScript 139 = .ok (.ireturn, 1) := by decide +kernel
theorem dX5_runScript_140 : decode cX5_runScript 140 = .ok (.iinc 8 1, 3) := by decide +kernel
theorem dX5_runScript_143 : decode cX5_runScript 143 = .ok (.goto (-55), 3) := by decide +kernel
theorem dX5_runScript_146 : decode cX5_runScript 146 = .ok (.iconst (-1), 1) := by decide +kernel
theorem dX5_runScript_147 : decode cX5_runScript 147 = .ok (.ireturn, 1) := by decide +kernel
theorem dX5_simulate_0 : decode cX5_simulate 0 = .ok (.iload_n 3, 1) := by decide +kernel
theorem dX5_simulate_1 : decode cX5_simulate 1 = .ok (.iconst 1, 1) := by decide +kernel
theorem dX5_simulate_2 : decode cX5_simulate 2 = .ok (.if_icmp .lt 9, 3) := by decide +kernel
theorem dX5_simulate_5 : decode cX5_simulate 5 = .ok (.iload_n 3, 1) := by decide +kernel
theorem dX5_simulate_6 : decode cX5_simulate 6 = .ok (.bipush 60, 2) := by decide +kernel
theorem dX5_simulate_8 : decode cX5_simulate 8 = .ok (.if_icmp .le 14, 3) := by decide +kernel
theorem dX5_simulate_11 : decode cX5_simulate 11 = .ok (.new 41, 3) := by decide +kernel
theorem dX5_simulate_14 : decode cX5_simulate 14 = .ok (.dup, 1) := by decide +kernel
theorem dX5_simulate_15 : decode cX5_simulate 15 = .ok (.ldc_w 287, 3) := by decide +kernel
theorem dX5_simulate_18 : decode cX5_simulate 18 = .ok (.invokespecial 45, 3) := by decide +kernel
theorem dX5_simulate_21 : decode cX5_simulate 21 = .ok (.athrow, 1) := by decide +kernel
theorem dX5_simulate_22 : decode cX5_simulate 22 = .ok (.aload_n 0, 1) := by decide +kernel
theorem dX5_simulate_23 : decode cX5_simulate 23 = .ok (.getfield 23, 3) := by decide +kernel
theorem dX5_simulate_26 : decode cX5_simulate 26 = .ok (.aload_n 0, 1) := by decide +kernel
theorem dX5_simulate_27 : decode cX5_simulate 27 = .ok (.getfield 19, 3) := by decide +kernel
theorem dX5_simulate_30 : decode cX5_simulate 30 = .ok (.invokevirtual 250, 3) := by decide +kernel
theorem dX5_simulate_33 : decode cX5_simulate 33 = .ok (.lload_n 1, 1) := by decide +kernel
theorem dX5_simulate_34 : decode cX5_simulate 34 = .ok (.lstore 4, 2) := by decide +kernel
theorem dX5_simulate_36 : decode cX5_simulate 36 = .ok (.iconst 0, 1) := by decide +kernel
theorem dX5_simulate_37 : decode cX5_simulate 37 = .ok (.istore 6, 2) := by decide +kernel
theorem dX5_simulate_39 : decode cX5_simulate 39 = .ok (.iload 6, 2) := by decide +kernel
theorem dX5_simulate_41 : decode cX5_simulate 41 = .ok (.iload_n 3, 1) := by decide +kernel
theorem dX5_simulate_42 : decode cX5_simulate 42 = .ok (.if_icmp .ge 34, 3) := by decide +kernel
theorem dX5_simulate_45 : decode cX5_simulate 45 = .ok (.lload 4, 2) := by decide +kernel
theorem dX5_simulate_47 : decode cX5_simulate 47 = .ok (.ldc2_w 289, 3) := by decide +kernel
theorem dX5_simulate_50 : decode cX5_simulate 50 = .ok (.lmul, 1) := by decide +kernel
theorem dX5_simulate_51 : decode cX5_simulate 51 = .ok (.ldc2_w 291, 3) := by decide +kernel
theorem dX5_simulate_54 : decode cX5_simulate 54 = .ok (.ladd, 1) := by decide +kernel
theorem dX5_simulate_55 : decode cX5_simulate 55 = .ok (.lstore 4, 2) := by decide +kernel
theorem dX5_simulate_57 : decode cX5_simulate 57 = .ok (.aload_n 0, 1) := by decide +kernel
theorem dX5_simulate_58 : decode cX5_simulate 58 = .ok (.getfield 23, 3) := by decide +kernel
theorem dX5_simulate_61 : decode cX5_simulate 61 = .ok (.lload 4, 2) := by decide +kernel
theorem dX5_simulate_63 : decode cX5_simulate 63 = .ok (.bipush 33, 2) := by decide +kernel
theorem dX5_simulate_65 : decode cX5_simulate 65 = .ok (.lushr, 1) := by decide +kernel
theorem dX5_simulate_66 : decode cX5_simulate 66 = .ok (.l2i, 1) := by decide +kernel
theorem dX5_simulate_67 : decode cX5_simulate 67 = .ok (.invokestatic 293, 3) := by decide +kernel
theorem dX5_simulate_70 : decode cX5_simulate 70 = .ok (.iinc 6 1, 3) := by decide +kernel
theorem dX5_simulate_73 : decode cX5_simulate 73 = .ok (.goto (-34), 3) := by decide +kernel
theorem dX5_simulate_76 : decode cX5_simulate 76 = .ok (.sipush 1000, 3) := by decide +kernel
theorem dX5_simulate_79 : decode cX5_simulate 79 = .ok (.aload_n 0, 1) := by decide +kernel
theorem dX5_simulate_80 : decode cX5_simulate 80 = .ok (.getfield 23, 3) := by decide +kernel
theorem dX5_simulate_83 : decode cX5_simulate 83 = .ok (.getfield 106, 3) := by decide +kernel
theorem dX5_simulate_86 : decode cX5_simulate 86 = .ok (.aload_n 0, 1) := by decide +kernel
theorem dX5_simulate_87 : decode cX5_simulate 87 = .ok (.getfield 19, 3) := by decide +kernel
theorem dX5_simulate_90 : decode cX5_simulate 90 = .ok (.getfield 106, 3) := by decide +kernel
theorem dX5_simulate_93 : decode cX5_simulate 93 = .ok (.isub, 1) := by decide +kernel
theorem dX5_simulate_94 : decode cX5_simulate 94 = .ok (.imul, 1) := by decide +kernel
theorem dX5_simulate_95 : decode cX5_simulate 95 = .ok (.aload_n 0, 1) := by decide +kernel
theorem dX5_simulate_96 : decode cX5_simulate 96 = .ok (.getfield 23, 3) := by decide +kernel
theorem dX5_simulate_99 : decode cX5_simulate 99 = .ok (.getfield 94, 3) := by decide +kernel
theorem dX5_simulate_102 : decode cX5_simulate 102 = .ok (.getfield 98, 3) := by decide +kernel
theorem dX5_simulate_105 : decode cX5_simulate 105 = .ok (.iadd, 1) := by decide +kernel
theorem dX5_simulate_106 : decode cX5_simulate 106 = .ok (.ireturn, 1) := by decide +kernel
theorem dX5_save_0 : decode cX5_save 0 = .ok (.iload_n 1, 1) := by decide +kernel
theorem dX5_save_1 : decode cX5_save 1 = .ok (.ifCond .lt 8, 3) := by decide +kernel
theorem dX5_save_4 : decode cX5_save 4 = .ok (.iload_n 1, 1) := by decide +kernel
theorem dX5_save_5 : decode cX5_save 5 = .ok (.iconst 2, 1) := by decide +kernel
theorem dX5_save_6 : decode cX5_save 6 = .ok (.if_icmp .lt 14, 3) := by decide +kernel
theorem dX5_save_9 : decode cX5_save 9 = .ok (.new 184, 3) := by decide +kernel
theorem dX5_save_12 : decode cX5_save 12 = .ok (.dup, 1) := by decide +kernel
theorem dX5_save_13 : decode cX5_save 13 = .ok (.ldc_w 297, 3) := by decide +kernel
theorem dX5_save_16 : decode cX5_save 16 = .ok (.invokespecial 188, 3) := by decide +kernel
theorem dX5_save_19 : decode cX5_save 19 = .ok (.athrow, 1) := by decide +kernel
theorem dX5_save_20 : decode cX5_save 20 = .ok (.aload_n 0, 1) := by decide +kernel
theorem dX5_save_21 : decode cX5_save 21 = .ok (.getfield 30, 3) := by decide +kernel
theorem dX5_save_24 : decode cX5_save 24 = .ok (.iload_n 1, 1) := by decide +kernel
theorem dX5_save_25 : decode cX5_save 25 = .ok (.aaload, 1) := by decide +kernel
theorem dX5_save_26 : decode cX5_save 26 = .ok (.aload_n 0, 1) := by decide +kernel
theorem dX5_save_27 : decode cX5_save 27 = .ok (.getfield 19, 3) := by decide +kernel
theorem dX5_save_30 : decode cX5_save 30 = .ok (.invokevirtual 250, 3) := by decide +kernel
theorem dX5_save_33 : decode cX5_save 33 = .ok (.aload_n 0, 1) := by decide +kernel
theorem dX5_save_34 : decode cX5_save 34 = .ok (.getfield 26, 3) := by decide +kernel
theorem dX5_save_37 : decode cX5_save 37 = .ok (.iload_n 1, 1) := by decide +kernel
theorem dX5_save_38 : decode cX5_save 38 = .ok (.iconst 1, 1) := by decide +kernel
theorem dX5_save_39 : decode cX5_save 39 = .ok (.bastore, 1) := by decide +kernel
theorem dX5_save_40 : decode cX5_save 40 = .ok (.aload_n 0, 1) := by decide +kernel
theorem dX5_save_41 : decode cX5_save 41 = .ok (.getfield 19, 3) := by decide +kernel
theorem dX5_save_44 : decode cX5_save 44 = .ok (.getfield 88, 3) := by decide +kernel
theorem dX5_save_47 : decode cX5_save 47 = .ok (.ireturn, 1) := by decide +kernel
theorem dX5_restore_0 : decode cX5_restore 0 = .ok (.iload_n 1, 1) := by decide +kernel
theorem dX5_restore_1 : decode cX5_restore 1 = .ok (.ifCond .lt 8, 3) := by decide +kernel
theorem dX5_restore_4 : decode cX5_restore 4 = .ok (.iload_n 1, 1) := by decide +kernel
theorem dX5_restore_5 : decode cX5_restore 5 = .ok (.iconst 2, 1) := by decide +kernel
theorem dX5_restore_6 : decode cX5_restore 6 = .ok (.if_icmp .lt 14, 3) := by decide +kernel
theorem dX5_restore_9 : decode cX5_restore 9 = .ok (.new 184, 3) := by decide +kernel
theorem dX5_restore_12 : decode cX5_restore 12 = .ok (.dup, 1) := by decide +kernel
theorem dX5_restore_13 : decode cX5_restore 13 = .ok (.ldc_w 297, 3) := by decide +kernel
theorem dX5_restore_16 : decode cX5_restore 16 = .ok (.invokespecial 188, 3) := by decide +kernel
theorem dX5_restore_19 : decode cX5_restore 19 = .ok (.athrow, 1) := by decide +kernel
theorem dX5_restore_20 : decode cX5_restore 20 = .ok (.aload_n 0, 1) := by decide +kernel
theorem dX5_restore_21 : decode cX5_restore 21 = .ok (.getfield 26, 3) := by decide +kernel
theorem dX5_restore_24 : decode cX5_restore 24 = .ok (.iload_n 1, 1) := by decide +kernel
theorem dX5_restore_25 : decode cX5_restore 25 = .ok (.baload, 1) := by decide +kernel
theorem dX5_restore_26 : decode cX5_restore 26 = .ok (.ifCond .ne 14, 3) := by decide +kernel
theorem dX5_restore_29 : decode cX5_restore 29 = .ok (.new 51, 3) := by decide +kernel
theorem dX5_restore_32 : decode cX5_restore 32 = .ok (.dup, 1) := by decide +kernel
theorem dX5_restore_33 : decode cX5_restore 33 = .ok (.ldc_w 299, 3) := by decide +kernel
theorem dX5_restore_36 : decode cX5_restore 36 = .ok (.invokespecial 55, 3) := by decide +kernel
theorem dX5_restore_39 : decode cX5_restore 39 = .ok (.athrow, 1) := by decide +kernel
theorem dX5_restore_40 : decode cX5_restore 40 = .ok (.aload_n 0, 1) := by decide +kernel
theorem dX5_restore_41 : decode cX5_restore 41 = .ok (.getfield 19, 3) := by decide +kernel
theorem dX5_restore_44 : decode cX5_restore 44 = .ok (.aload_n 0, 1) := by decide +kernel
theorem dX5_restore_45 : decode cX5_restore 45 = .ok (.getfield 30, 3) := by decide +kernel
theorem dX5_restore_48 : decode cX5_restore 48 = .ok (.iload_n 1, 1) := by decide +kernel
theorem dX5_restore_49 : decode cX5_restore 49 = .ok (.aaload, 1) := by decide +kernel
theorem dX5_restore_50 : decode cX5_restore 50 = .ok (.invokevirtual 250, 3) := by decide +kernel
theorem dX5_restore_53 : decode cX5_restore 53 = .ok (.aload_n 0, 1) := by decide +kernel
theorem dX5_restore_54 : decode cX5_restore 54 = .ok (.iconst 0, 1) := by decide +kernel
theorem dX5_restore_55 : decode cX5_restore 55 = .ok (.putfield 37, 3) := by decide +kernel
theorem dX5_restore_58 : decode cX5_restore 58 = .ok (.aload_n 0, 1) := by decide +kernel
theorem dX5_restore_59 : decode cX5_restore 59 = .ok (.getfield 19, 3) := by decide +kernel
theorem dX5_restore_62 : decode cX5_restore 62 = .ok (.getfield 88, 3) := by decide +kernel
theorem dX5_restore_65 : decode cX5_restore 65 = .ok (.ireturn, 1) := by decide +kernel
theorem dX5_refuse_0 : decode cX5_refuse 0 = .ok (.iload_n 0, 1) := by decide +kernel
theorem dX5_refuse_1 : decode cX5_refuse 1 = .ok (.tableswitch 60 1 3 #[27, 38, 49], 27) := by decide +kernel
theorem dX5_refuse_28 : decode cX5_refuse 28 = .ok (.new 184, 3) := by decide +kernel
theorem dX5_refuse_31 : decode cX5_refuse 31 = .ok (.dup, 1) := by decide +kernel
theorem dX5_refuse_32 : decode cX5_refuse 32 = .ok (.ldc_w 301, 3) := by decide +kernel
theorem dX5_refuse_35 : decode cX5_refuse 35 = .ok (.invokespecial 188, 3) := by decide +kernel
theorem dX5_refuse_38 : decode cX5_refuse 38 = .ok (.athrow, 1) := by decide +kernel
theorem dX5_refuse_39 : decode cX5_refuse 39 = .ok (.new 41, 3) := by decide +kernel
theorem dX5_refuse_42 : decode cX5_refuse 42 = .ok (.dup, 1) := by decide +kernel
theorem dX5_refuse_43 : decode cX5_refuse 43 = .ok (.ldc_w 303, 3) := by decide +kernel
theorem dX5_refuse_46 : decode cX5_refuse 46 = .ok (.invokespecial 45, 3) := by decide +kernel
theorem dX5_refuse_49 : decode cX5_refuse 49 = .ok (.athrow, 1) := by decide +kernel
theorem dX5_refuse_50 : decode cX5_refuse 50 = .ok (.new 51, 3) := by decide +kernel
theorem dX5_refuse_53 : decode cX5_refuse 53 = .ok (.dup, 1) := by decide +kernel
theorem dX5_refuse_54 : decode cX5_refuse 54 = .ok (.ldc_w 305, 3) := by decide +kernel
theorem dX5_refuse_57 : decode cX5_refuse 57 = .ok (.invokespecial 55, 3) := by decide +kernel
theorem dX5_refuse_60 : decode cX5_refuse 60 = .ok (.athrow, 1) := by decide +kernel
theorem dX5_refuse_61 : decode cX5_refuse 61 = .ok (.return_, 1) := by decide +kernel
theorem dX5_remember_0 : decode cX5_remember 0 = .ok (.aload_n 0, 1) := by decide +kernel
theorem dX5_remember_1 : decode cX5_remember 1 = .ok (.getfield 37, 3) := by decide +kernel
theorem dX5_remember_4 : decode cX5_remember 4 = .ok (.bipush 14, 2) := by decide +kernel
theorem dX5_remember_6 : decode cX5_remember 6 = .ok (.if_icmp .ne 7, 3) := by decide +kernel
theorem dX5_remember_9 : decode cX5_remember 9 = .ok (.aload_n 0, 1) := by decide +kernel
theorem dX5_remember_10 : decode cX5_remember 10 = .ok (.invokevirtual 307, 3) := by decide +kernel
theorem dX5_remember_13 : decode cX5_remember 13 = .ok (.aload_n 0, 1) := by decide +kernel
theorem dX5_remember_14 : decode cX5_remember 14 = .ok (.getfield 34, 3) := by decide +kernel
theorem dX5_remember_17 : decode cX5_remember 17 = .ok (.aload_n 0, 1) := by decide +kernel
theorem dX5_remember_18 : decode cX5_remember 18 = .ok (.getfield 37, 3) := by decide +kernel
theorem dX5_remember_21 : decode cX5_remember 21 = .ok (.aaload, 1) := by decide +kernel
theorem dX5_remember_22 : decode cX5_remember 22 = .ok (.aload_n 0, 1) := by decide +kernel
theorem dX5_remember_23 : decode cX5_remember 23 = .ok (.getfield 19, 3) := by decide +kernel
theorem dX5_remember_26 : decode cX5_remember 26 = .ok (.invokevirtual 250, 3) := by decide +kernel
theorem dX5_remember_29 : decode cX5_remember 29 = .ok (.aload_n 0, 1) := by decide +kernel
theorem dX5_remember_30 : decode cX5_remember 30 = .ok (.dup, 1) := by decide +kernel
theorem dX5_remember_31 : decode cX5_remember 31 = .ok (.getfield 37, 3) := by decide +kernel
theorem dX5_remember_34 : decode cX5_remember 34 = .ok (.iconst 1, 1) := by decide +kernel
theorem dX5_remember_35 : decode cX5_remember 35 = .ok (.iadd, 1) := by decide +kernel
theorem dX5_remember_36 : decode cX5_remember 36 = .ok (.putfield 37, 3) := by decide +kernel
theorem dX5_remember_39 : decode cX5_remember 39 = .ok (.return_, 1) := by decide +kernel
theorem dX5_forgetOldest_0 : decode cX5_forgetOldest 0 = .ok (.aload_n 0, 1) := by decide +kernel
theorem dX5_forgetOldest_1 : decode cX5_forgetOldest 1 = .ok (.getfield 34, 3) := by decide +kernel
theorem dX5_forgetOldest_4 : decode cX5_forgetOldest 4 = .ok (.iconst 0, 1) := by decide +kernel
theorem dX5_forgetOldest_5 : decode cX5_forgetOldest 5 = .ok (.aaload, 1) := by decide +kernel
theorem dX5_forgetOldest_6 : decode cX5_forgetOldest 6 = .ok (.astore_n 1, 1) := by decide +kernel
theorem dX5_forgetOldest_7 : decode cX5_forgetOldest 7 = .ok (.iconst 1, 1) := by decide +kernel
theorem dX5_forgetOldest_8 : decode cX5_forgetOldest 8 = .ok (.istore_n 2, 1) := by decide +kernel
theorem dX5_forgetOldest_9 : decode cX5_forgetOldest 9 = .ok (.iload_n 2, 1) := by decide +kernel
theorem dX5_forgetOldest_10 : decode cX5_forgetOldest 10 = .ok (.bipush 14, 2) := by decide +kernel
theorem dX5_forgetOldest_12 : decode cX5_forgetOldest 12 = .ok (.if_icmp .ge 23, 3) := by decide +kernel
theorem dX5_forgetOldest_15 : decode cX5_forgetOldest 15 = .ok (.aload_n 0, 1) := by decide +kernel
theorem dX5_forgetOldest_16 : decode cX5_forgetOldest 16 = .ok (.getfield 34, 3) := by decide +kernel
theorem dX5_forgetOldest_19 : decode cX5_forgetOldest 19 = .ok (.iload_n 2, 1) := by decide +kernel
theorem dX5_forgetOldest_20 : decode cX5_forgetOldest 20 = .ok (.iconst 1, 1) := by decide +kernel
theorem dX5_forgetOldest_21 : decode cX5_forgetOldest 21 = .ok (.isub, 1) := by decide +kernel
theorem dX5_forgetOldest_22 : decode cX5_forgetOldest 22 = .ok (.aload_n 0, 1) := by decide +kernel
theorem dX5_forgetOldest_23 : decode cX5_forgetOldest 23 = .ok (.getfield 34, 3) := by decide +kernel
theorem dX5_forgetOldest_26 : decode cX5_forgetOldest 26 = .ok (.iload_n 2, 1) := by decide +kernel
theorem dX5_forgetOldest_27 : decode cX5_forgetOldest 27 = .ok (.aaload, 1) := by decide +kernel
theorem dX5_forgetOldest_28 : decode cX5_forgetOldest 28 = .ok (.aastore, 1) := by decide +kernel
theorem dX5_forgetOldest_29 : decode cX5_forgetOldest 29 = .ok (.iinc 2 1, 3) := by decide +kernel
theorem dX5_forgetOldest_32 : decode cX5_forgetOldest 32 = .ok (.goto (-23), 3) := by decide +kernel
theorem dX5_forgetOldest_35 : decode cX5_forgetOldest 35 = .ok (.aload_n 0, 1) := by decide +kernel
theorem dX5_forgetOldest_36 : decode cX5_forgetOldest 36 = .ok (.getfield 34, 3) := by decide +kernel
theorem dX5_forgetOldest_39 : decode cX5_forgetOldest 39 = .ok (.bipush 13, 2) := by decide +kernel
theorem dX5_forgetOldest_41 : decode cX5_forgetOldest 41 = .ok (.aload_n 1, 1) := by decide +kernel
theorem dX5_forgetOldest_42 : decode cX5_forgetOldest 42 = .ok (.aastore, 1) := by decide +kernel
theorem dX5_forgetOldest_43 : decode cX5_forgetOldest 43 = .ok (.aload_n 0, 1) := by decide +kernel
theorem dX5_forgetOldest_44 : decode cX5_forgetOldest 44 = .ok (.dup, 1) := by decide +kernel
theorem dX5_forgetOldest_45 : decode cX5_forgetOldest 45 = .ok (.getfield 37, 3) := by decide +kernel
theorem dX5_forgetOldest_48 : decode cX5_forgetOldest 48 = .ok (.iconst 1, 1) := by decide +kernel
theorem dX5_forgetOldest_49 : decode cX5_forgetOldest 49 = .ok (.isub, 1) := by decide +kernel
theorem dX5_forgetOldest_50 : decode cX5_forgetOldest 50 = .ok (.putfield 37, 3) := by decide +kernel
theorem dX5_forgetOldest_53 : decode cX5_forgetOldest 53 = .ok (.return_, 1) := by decide +kernel
theorem dJ6_bitCount_0f7a4_0 : decode cJ6_bitCount_0f7a4 0 = .ok (.iload_n 0, 1) := by decide +kernel
theorem dJ6_bitCount_0f7a4_1 : decode cJ6_bitCount_0f7a4 1 = .ok (.iload_n 0, 1) := by decide +kernel
theorem dJ6_bitCount_0f7a4_2 : decode cJ6_bitCount_0f7a4 2 = .ok (.iconst 1, 1) := by decide +kernel
theorem dJ6_bitCount_0f7a4_3 : decode cJ6_bitCount_0f7a4 3 = .ok (.iushr, 1) := by decide +kernel
theorem dJ6_bitCount_0f7a4_4 : decode cJ6_bitCount_0f7a4 4 = .ok (.ldc_w 265, 3) := by decide +kernel
theorem dJ6_bitCount_0f7a4_7 : decode cJ6_bitCount_0f7a4 7 = .ok (.iand, 1) := by decide +kernel
theorem dJ6_bitCount_0f7a4_8 : decode cJ6_bitCount_0f7a4 8 = .ok (.isub, 1) := by decide +kernel
theorem dJ6_bitCount_0f7a4_9 : decode cJ6_bitCount_0f7a4 9 = .ok (.istore_n 0, 1) := by decide +kernel
theorem dJ6_bitCount_0f7a4_10 : decode cJ6_bitCount_0f7a4 10 = .ok (.iload_n 0, 1) := by decide +kernel
theorem dJ6_bitCount_0f7a4_11 : decode cJ6_bitCount_0f7a4 11 = .ok (.ldc_w 266, 3) := by decide +kernel
theorem dJ6_bitCount_0f7a4_14 : decode cJ6_bitCount_0f7a4 14 = .ok (.iand, 1) := by decide +kernel
theorem dJ6_bitCount_0f7a4_15 : decode cJ6_bitCount_0f7a4 15 = .ok (.iload_n 0, 1) := by decide +kernel
theorem dJ6_bitCount_0f7a4_16 : decode cJ6_bitCount_0f7a4 16 = .ok (.iconst 2, 1) := by decide +kernel
theorem dJ6_bitCount_0f7a4_17 : decode cJ6_bitCount_0f7a4 17 = .ok (.iushr, 1) := by decide +kernel
theorem dJ6_bitCount_0f7a4_18 : decode cJ6_bitCount_0f7a4 18 = .ok (.ldc_w 266, 3) := by decide +kernel
theorem dJ6_bitCount_0f7a4_21 : decode cJ6_bitCount_0f7a4 21 = .ok (.iand, 1) := by decide +kernel
theorem dJ6_bitCount_0f7a4_22 : decode cJ6_bitCount_0f7a4 22 = .ok (.iadd, 1) := by decide +kernel
theorem dJ6_bitCount_0f7a4_23 : decode cJ6_bitCount_0f7a4 23 = .ok (.istore_n 0, 1) := by decide +kernel
theorem dJ6_bitCount_0f7a4_24 : decode cJ6_bitCount_0f7a4 24 = .ok (.iload_n 0, 1) := by decide +kernel
theorem dJ6_bitCount_0f7a4_25 : decode cJ6_bitCount_0f7a4 25 = .ok (.iload_n 0, 1) := by decide +kernel
theorem dJ6_bitCount_0f7a4_26 : decode cJ6_bitCount_0f7a4 26 = .ok (.iconst 4, 1) := by decide +kernel
theorem dJ6_bitCount_0f7a4_27 : decode cJ6_bitCount_0f7a4 27 = .ok (.iushr, 1) := by decide +kernel
theorem dJ6_bitCount_0f7a4_28 : decode cJ6_bitCount_0f7a4 28 = .ok (.iadd, 1) := by decide +kernel
theorem dJ6_bitCount_0f7a4_29 : decode cJ6_bitCount_0f7a4 29 = .ok (.ldc_w 267, 3) := by decide +kernel
theorem dJ6_bitCount_0f7a4_32 : decode cJ6_bitCount_0f7a4 32 = .ok (.iand, 1) := by decide +kernel
theorem dJ6_bitCount_0f7a4_33 : decode cJ6_bitCount_0f7a4 33 = .ok (.istore_n 0, 1) := by decide +kernel
theorem dJ6_bitCount_0f7a4_34 : decode cJ6_bitCount_0f7a4 34 = .ok (.iload_n 0, 1) := by decide +kernel
theorem dJ6_bitCount_0f7a4_35 : decode cJ6_bitCount_0f7a4 35 = .ok (.iload_n 0, 1) := by decide +kernel
theorem dJ6_bitCount_0f7a4_36 : decode cJ6_bitCount_0f7a4 36 = .ok (.bipush 8, 2) := by decide +kernel
theorem dJ6_bitCount_0f7a4_38 : decode cJ6_bitCount_0f7a4 38 = .ok (.iushr, 1) := by decide +kernel
theorem dJ6_bitCount_0f7a4_39 : decode cJ6_bitCount_0f7a4 39 = .ok (.iadd, 1) := by decide +kernel
theorem dJ6_bitCount_0f7a4_40 : decode cJ6_bitCount_0f7a4 40 = .ok (.istore_n 0, 1) := by decide +kernel
theorem dJ6_bitCount_0f7a4_41 : decode cJ6_bitCount_0f7a4 41 = .ok (.iload_n 0, 1) := by decide +kernel
theorem dJ6_bitCount_0f7a4_42 : decode cJ6_bitCount_0f7a4 42 = .ok (.iload_n 0, 1) := by decide +kernel
theorem dJ6_bitCount_0f7a4_43 : decode cJ6_bitCount_0f7a4 43 = .ok (.bipush 16, 2) := by decide +kernel
theorem dJ6_bitCount_0f7a4_45 : decode cJ6_bitCount_0f7a4 45 = .ok (.iushr, 1) := by decide +kernel
theorem dJ6_bitCount_0f7a4_46 : decode cJ6_bitCount_0f7a4 46 = .ok (.iadd, 1) := by decide +kernel
theorem dJ6_bitCount_0f7a4_47 : decode cJ6_bitCount_0f7a4 47 = .ok (.istore_n 0, 1) := by decide +kernel
theorem dJ6_bitCount_0f7a4_48 : decode cJ6_bitCount_0f7a4 48 = .ok (.iload_n 0, 1) := by decide +kernel
theorem dJ6_bitCount_0f7a4_49 : decode cJ6_bitCount_0f7a4 49 = .ok (.bipush 63, 2) := by decide +kernel
theorem dJ6_bitCount_0f7a4_51 : decode cJ6_bitCount_0f7a4 51 = .ok (.iand, 1) := by decide +kernel
theorem dJ6_bitCount_0f7a4_52 : decode cJ6_bitCount_0f7a4 52 = .ok (.ireturn, 1) := by decide +kernel
theorem dJ9_max_7cf53_0 : decode cJ9_max_7cf53 0 = .ok (.iload_n 0, 1) := by decide +kernel
theorem dJ9_max_7cf53_1 : decode cJ9_max_7cf53 1 = .ok (.iload_n 1, 1) := by decide +kernel
theorem dJ9_max_7cf53_2 : decode cJ9_max_7cf53 2 = .ok (.if_icmp .lt 7, 3) := by decide +kernel
theorem dJ9_max_7cf53_5 : decode cJ9_max_7cf53 5 = .ok (.iload_n 0, 1) := by decide +kernel
theorem dJ9_max_7cf53_6 : decode cJ9_max_7cf53 6 = .ok (.goto 4, 3) := by decide +kernel
theorem dJ9_max_7cf53_9 : decode cJ9_max_7cf53 9 = .ok (.iload_n 1, 1) := by decide +kernel
theorem dJ9_max_7cf53_10 : decode cJ9_max_7cf53 10 = .ok (.ireturn, 1) := by decide +kernel
theorem dJ9_min_7cf53_0 : decode cJ9_min_7cf53 0 = .ok (.iload_n 0, 1) := by decide +kernel
theorem dJ9_min_7cf53_1 : decode cJ9_min_7cf53 1 = .ok (.iload_n 1, 1) := by decide +kernel
theorem dJ9_min_7cf53_2 : decode cJ9_min_7cf53 2 = .ok (.if_icmp .gt 7, 3) := by decide +kernel
theorem dJ9_min_7cf53_5 : decode cJ9_min_7cf53 5 = .ok (.iload_n 0, 1) := by decide +kernel
theorem dJ9_min_7cf53_6 : decode cJ9_min_7cf53 6 = .ok (.goto 4, 3) := by decide +kernel
theorem dJ9_min_7cf53_9 : decode cJ9_min_7cf53 9 = .ok (.iload_n 1, 1) := by decide +kernel
theorem dJ9_min_7cf53_10 : decode cJ9_min_7cf53 10 = .ok (.ireturn, 1) := by decide +kernel
theorem dJ7_copyOf_59c91_0 : decode cJ7_copyOf_59c91 0 = .ok (.iload_n 1, 1) := by decide +kernel
theorem dJ7_copyOf_59c91_1 : decode cJ7_copyOf_59c91 1 = .ok (.aload_n 0, 1) := by decide +kernel
theorem dJ7_copyOf_59c91_2 : decode cJ7_copyOf_59c91 2 = .ok (.arraylength, 1) := by decide +kernel
theorem dJ7_copyOf_59c91_3 : decode cJ7_copyOf_59c91 3 = .ok (.if_icmp .ne 11, 3) := by decide +kernel
theorem dJ7_copyOf_59c91_6 : decode cJ7_copyOf_59c91 6 = .ok (.aload_n 0, 1) := by decide +kernel
theorem dJ7_copyOf_59c91_7 : decode cJ7_copyOf_59c91 7 = .ok (.invokevirtual 316, 3) := by decide +kernel
theorem dJ7_copyOf_59c91_10 : decode cJ7_copyOf_59c91 10 = .ok (.checkcast 317, 3) := by decide +kernel
theorem dJ7_copyOf_59c91_13 : decode cJ7_copyOf_59c91 13 = .ok (.areturn, 1) := by decide +kernel
theorem dJ7_copyOf_59c91_14 : decode cJ7_copyOf_59c91 14 = .ok (.iload_n 1, 1) := by decide +kernel
theorem dJ7_copyOf_59c91_15 : decode cJ7_copyOf_59c91 15 = .ok (.newarray .int, 2) := by decide +kernel
theorem dJ7_copyOf_59c91_17 : decode cJ7_copyOf_59c91 17 = .ok (.astore_n 2, 1) := by decide +kernel
theorem dJ7_copyOf_59c91_18 : decode cJ7_copyOf_59c91 18 = .ok (.aload_n 0, 1) := by decide +kernel
theorem dJ7_copyOf_59c91_19 : decode cJ7_copyOf_59c91 19 = .ok (.iconst 0, 1) := by decide +kernel
theorem dJ7_copyOf_59c91_20 : decode cJ7_copyOf_59c91 20 = .ok (.aload_n 2, 1) := by decide +kernel
theorem dJ7_copyOf_59c91_21 : decode cJ7_copyOf_59c91 21 = .ok (.iconst 0, 1) := by decide +kernel
theorem dJ7_copyOf_59c91_22 : decode cJ7_copyOf_59c91 22 = .ok (.aload_n 0, 1) := by decide +kernel
theorem dJ7_copyOf_59c91_23 : decode cJ7_copyOf_59c91 23 = .ok (.arraylength, 1) := by decide +kernel
theorem dJ7_copyOf_59c91_24 : decode cJ7_copyOf_59c91 24 = .ok (.iload_n 1, 1) := by decide +kernel
theorem dJ7_copyOf_59c91_25 : decode cJ7_copyOf_59c91 25 = .ok (.invokestatic 304, 3) := by decide +kernel
theorem dJ7_copyOf_59c91_28 : decode cJ7_copyOf_59c91 28 = .ok (.invokestatic 150, 3) := by decide +kernel
theorem dJ7_copyOf_59c91_31 : decode cJ7_copyOf_59c91 31 = .ok (.aload_n 2, 1) := by decide +kernel
theorem dJ7_copyOf_59c91_32 : decode cJ7_copyOf_59c91 32 = .ok (.areturn, 1) := by decide +kernel
