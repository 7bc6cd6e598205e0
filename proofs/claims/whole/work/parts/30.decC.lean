theorem dX0_init_0 : decode cX0_init 0 = .ok (.aload_n 0, 1) := by decide +kernel
theorem dX0_init_1 : decode cX0_init 1 = .ok (.invokespecial 3, 3) := by decide +kernel
theorem dX0_init_4 : decode cX0_init 4 = .ok (.aload_n 0, 1) := by decide +kernel
theorem dX0_init_5 : decode cX0_init 5 = .ok (.bipush 7, 2) := by decide +kernel
theorem dX0_init_7 : decode cX0_init 7 = .ok (.newarray .int, 2) := by decide +kernel
theorem dX0_init_9 : decode cX0_init 9 = .ok (.putfield 11, 3) := by decide +kernel
theorem dX0_init_12 : decode cX0_init 12 = .ok (.aload_n 0, 1) := by decide +kernel
theorem dX0_init_13 : decode cX0_init 13 = .ok (.bipush 6, 2) := by decide +kernel
theorem dX0_init_15 : decode cX0_init 15 = .ok (.newarray .int, 2) := by decide +kernel
theorem dX0_init_17 : decode cX0_init 17 = .ok (.putfield 17, 3) := by decide +kernel
theorem dX0_init_20 : decode cX0_init 20 = .ok (.aload_n 0, 1) := by decide +kernel
theorem dX0_init_21 : decode cX0_init 21 = .ok (.bipush 6, 2) := by decide +kernel
theorem dX0_init_23 : decode cX0_init 23 = .ok (.newarray .int, 2) := by decide +kernel
theorem dX0_init_25 : decode cX0_init 25 = .ok (.putfield 20, 3) := by decide +kernel
theorem dX0_init_28 : decode cX0_init 28 = .ok (.return_, 1) := by decide +kernel
theorem dX0_pass_0 : decode cX0_pass 0 = .ok (.aload_n 0, 1) := by decide +kernel
theorem dX0_pass_1 : decode cX0_pass 1 = .ok (.aload_n 1, 1) := by decide +kernel
theorem dX0_pass_2 : decode cX0_pass 2 = .ok (.aload_n 2, 1) := by decide +kernel
theorem dX0_pass_3 : decode cX0_pass 3 = .ok (.invokevirtual 23, 3) := by decide +kernel
theorem dX0_pass_6 : decode cX0_pass 6 = .ok (.istore_n 3, 1) := by decide +kernel
theorem dX0_pass_7 : decode cX0_pass 7 = .ok (.aload_n 0, 1) := by decide +kernel
theorem dX0_pass_8 : decode cX0_pass 8 = .ok (.aload_n 1, 1) := by decide +kernel
theorem dX0_pass_9 : decode cX0_pass 9 = .ok (.aload_n 2, 1) := by decide +kernel
theorem dX0_pass_10 : decode cX0_pass 10 = .ok (.iload_n 3, 1) := by decide +kernel
theorem dX0_pass_11 : decode cX0_pass 11 = .ok (.invokevirtual 27, 3) := by decide +kernel
theorem dX0_pass_14 : decode cX0_pass 14 = .ok (.aload_n 0, 1) := by decide +kernel
theorem dX0_pass_15 : decode cX0_pass 15 = .ok (.aload_n 1, 1) := by decide +kernel
theorem dX0_pass_16 : decode cX0_pass 16 = .ok (.aload_n 2, 1) := by decide +kernel
theorem dX0_pass_17 : decode cX0_pass 17 = .ok (.invokevirtual 31, 3) := by decide +kernel
theorem dX0_pass_20 : decode cX0_pass 20 = .ok (.iload_n 3, 1) := by decide +kernel
theorem dX0_pass_21 : decode cX0_pass 21 = .ok (.ireturn, 1) := by decide +kernel
theorem dX0_isWaiting_0 : decode cX0_isWaiting 0 = .ok (.iload_n 0, 1) := by decide +kernel
theorem dX0_isWaiting_1 : decode cX0_isWaiting 1 = .ok (.iload_n 1, 1) := by decide +kernel
theorem dX0_isWaiting_2 : decode cX0_isWaiting 2 = .ok (.ishr, 1) := by decide +kernel
theorem dX0_isWaiting_3 : decode cX0_isWaiting 3 = .ok (.iconst 1, 1) := by decide +kernel
theorem dX0_isWaiting_4 : decode cX0_isWaiting 4 = .ok (.iand, 1) := by decide +kernel
theorem dX0_isWaiting_5 : decode cX0_isWaiting 5 = .ok (.ifCond .eq 7, 3) := by decide +kernel
theorem dX0_isWaiting_8 : decode cX0_isWaiting 8 = .ok (.iconst 1, 1) := by decide +kernel
theorem dX0_isWaiting_9 : decode cX0_isWaiting 9 = .ok (.goto 4, 3) := by decide +kernel
theorem dX0_isWaiting_12 : decode cX0_isWaiting 12 = .ok (.iconst 0, 1) := by decide +kernel
theorem dX0_isWaiting_13 : decode cX0_isWaiting 13 = .ok (.ireturn, 1) := by decide +kernel
theorem dX0_isMeeting_0 : decode cX0_isMeeting 0 = .ok (.iload_n 0, 1) := by decide +kernel
theorem dX0_isMeeting_1 : decode cX0_isMeeting 1 = .ok (.bipush 6, 2) := by decide +kernel
theorem dX0_isMeeting_3 : decode cX0_isMeeting 3 = .ok (.iload_n 1, 1) := by decide +kernel
theorem dX0_isMeeting_4 : decode cX0_isMeeting 4 = .ok (.iadd, 1) := by decide +kernel
theorem dX0_isMeeting_5 : decode cX0_isMeeting 5 = .ok (.ishr, 1) := by decide +kernel
theorem dX0_isMeeting_6 : decode cX0_isMeeting 6 = .ok (.iconst 1, 1) := by decide +kernel
theorem dX0_isMeeting_7 : decode cX0_isMeeting 7 = .ok (.iand, 1) := by decide +kernel
theorem dX0_isMeeting_8 : decode cX0_isMeeting 8 = .ok (.ifCond .eq 7, 3) := by decide +kernel
theorem dX0_isMeeting_11 : decode cX0_isMeeting 11 = .ok (.iconst 1, 1) := by decide +kernel
theorem dX0_isMeeting_12 : decode cX0_isMeeting 12 = .ok (.goto 4, 3) := by decide +kernel
theorem dX0_isMeeting_15 : decode cX0_isMeeting 15 = .ok (.iconst 0, 1) := by decide +kernel
theorem dX0_isMeeting_16 : decode cX0_isMeeting 16 = .ok (.ireturn, 1) := by decide +kernel
theorem dX0_call_0 : decode cX0_call 0 = .ok (.aload_n 0, 1) := by decide +kernel
theorem dX0_call_1 : decode cX0_call 1 = .ok (.aload_n 1, 1) := by decide +kernel
theorem dX0_call_2 : decode cX0_call 2 = .ok (.aload_n 2, 1) := by decide +kernel
theorem dX0_call_3 : decode cX0_call 3 = .ok (.invokevirtual 35, 3) := by decide +kernel
theorem dX0_call_6 : decode cX0_call 6 = .ok (.istore_n 3, 1) := by decide +kernel
theorem dX0_call_7 : decode cX0_call 7 = .ok (.iconst 0, 1) := by decide +kernel
theorem dX0_call_8 : decode cX0_call 8 = .ok (.istore 4, 2) := by decide +kernel
theorem dX0_call_10 : decode cX0_call 10 = .ok (.iload 4, 2) := by decide +kernel
theorem dX0_call_12 : decode cX0_call 12 = .ok (.aload_n 1, 1) := by decide +kernel
theorem dX0_call_13 : decode cX0_call 13 = .ok (.getfield 38, 3) := by decide +kernel
theorem dX0_call_16 : decode cX0_call 16 = .ok (.if_icmp .ge 36, 3) := by decide +kernel
theorem dX0_call_19 : decode cX0_call 19 = .ok (.iload_n 3, 1) := by decide +kernel
theorem dX0_call_20 : decode cX0_call 20 = .ok (.iload 4, 2) := by decide +kernel
theorem dX0_call_22 : decode cX0_call 22 = .ok (.invokestatic 44, 3) := by decide +kernel
theorem dX0_call_25 : decode cX0_call 25 = .ok (.ifCond .ne 21, 3) := by decide +kernel
theorem dX0_call_28 : decode cX0_call 28 = .ok (.aload_n 0, 1) := by decide +kernel
theorem dX0_call_29 : decode cX0_call 29 = .ok (.aload_n 1, 1) := by decide +kernel
theorem dX0_call_30 : decode cX0_call 30 = .ok (.aload_n 2, 1) := by decide +kernel
theorem dX0_call_31 : decode cX0_call 31 = .ok (.iload 4, 2) := by decide +kernel
theorem dX0_call_33 : decode cX0_call 33 = .ok (.invokevirtual 48, 3) := by decide +kernel
theorem dX0_call_36 : decode cX0_call 36 = .ok (.ifCond .eq 10, 3) := by decide +kernel
theorem dX0_call_39 : decode cX0_call 39 = .ok (.iload_n 3, 1) := by decide +kernel
theorem dX0_call_40 : decode cX0_call 40 = .ok (.iconst 1, 1) := by decide +kernel
theorem dX0_call_41 : decode cX0_call 41 = .ok (.iload 4, 2) := by decide +kernel
theorem dX0_call_43 : decode cX0_call 43 = .ok (.ishl, 1) := by decide +kernel
theorem dX0_call_44 : decode cX0_call 44 = .ok (.ior, 1) := by decide +kernel
theorem dX0_call_45 : decode cX0_call 45 = .ok (.istore_n 3, 1) := by decide +kernel
theorem dX0_call_46 : decode cX0_call 46 = .ok (.iinc 4 1, 3) := by decide +kernel
theorem dX0_call_49 : decode cX0_call 49 = .ok (.goto (-39), 3) := by decide +kernel
theorem dX0_call_52 : decode cX0_call 52 = .ok (.iload_n 3, 1) := by decide +kernel
theorem dX0_call_53 : decode cX0_call 53 = .ok (.aload_n 0, 1) := by decide +kernel
theorem dX0_call_54 : decode cX0_call 54 = .ok (.aload_n 1, 1) := by decide +kernel
theorem dX0_call_55 : decode cX0_call 55 = .ok (.aload_n 2, 1) := by decide +kernel
theorem dX0_call_56 : decode cX0_call 56 = .ok (.iload_n 3, 1) := by decide +kernel
theorem dX0_call_57 : decode cX0_call 57 = .ok (.invokevirtual 52, 3) := by decide +kernel
theorem dX0_call_60 : decode cX0_call 60 = .ok (.ior, 1) := by decide +kernel
theorem dX0_call_61 : decode cX0_call 61 = .ok (.istore_n 3, 1) := by decide +kernel
theorem dX0_call_62 : decode cX0_call 62 = .ok (.aload_n 1, 1) := by decide +kernel
theorem dX0_call_63 : decode cX0_call 63 = .ok (.getfield 56, 3) := by decide +kernel
theorem dX0_call_66 : decode cX0_call 66 = .ok (.getfield 60, 3) := by decide +kernel
theorem dX0_call_69 : decode cX0_call 69 = .ok (.ifCond .eq 28, 3) := by decide +kernel
theorem dX0_call_72 : decode cX0_call 72 = .ok (.iload_n 3, 1) := by decide +kernel
theorem dX0_call_73 : decode cX0_call 73 = .ok (.ifCond .eq 24, 3) := by decide +kernel
theorem dX0_call_76 : decode cX0_call 76 = .ok (.aload_n 0, 1) := by decide +kernel
theorem dX0_call_77 : decode cX0_call 77 = .ok (.aload_n 1, 1) := by decide +kernel
theorem dX0_call_78 : decode cX0_call 78 = .ok (.aload_n 2, 1) := by decide +kernel
theorem dX0_call_79 : decode cX0_call 79 = .ok (.getfield 64, 3) := by decide +kernel
theorem dX0_call_82 : decode cX0_call 82 = .ok (.aload_n 2, 1) := by decide +kernel
theorem dX0_call_83 : decode cX0_call 83 = .ok (.getfield 69, 3) := by decide +kernel
theorem dX0_call_86 : decode cX0_call 86 = .ok (.invokevirtual 72, 3) := by decide +kernel
theorem dX0_call_89 : decode cX0_call 89 = .ok (.ifCond .eq 8, 3) := by decide +kernel
theorem dX0_call_92 : decode cX0_call 92 = .ok (.iload_n 3, 1) := by decide +kernel
theorem dX0_call_93 : decode cX0_call 93 = .ok (.ldc 76, 2) := by decide +kernel
theorem dX0_call_95 : decode cX0_call 95 = .ok (.ior, 1) := by decide +kernel
theorem dX0_call_96 : decode cX0_call 96 = .ok (.istore_n 3, 1) := by decide +kernel
theorem dX0_call_97 : decode cX0_call 97 = .ok (.iload_n 3, 1) := by decide +kernel
theorem dX0_call_98 : decode cX0_call 98 = .ok (.ireturn, 1) := by decide +kernel
theorem dX0_meetings_0 : decode cX0_meetings 0 = .ok (.iconst 0, 1) := by decide +kernel
theorem dX0_meetings_1 : decode cX0_meetings 1 = .ok (.istore_n 3, 1) := by decide +kernel
theorem dX0_meetings_2 : decode cX0_meetings 2 = .ok (.iconst 0, 1) := by decide +kernel
theorem dX0_meetings_3 : decode cX0_meetings 3 = .ok (.istore 4, 2) := by decide +kernel
theorem dX0_meetings_5 : decode cX0_meetings 5 = .ok (.iload 4, 2) := by decide +kernel
theorem dX0_meetings_7 : decode cX0_meetings 7 = .ok (.aload_n 1, 1) := by decide +kernel
theorem dX0_meetings_8 : decode cX0_meetings 8 = .ok (.getfield 38, 3) := by decide +kernel
theorem dX0_meetings_11 : decode cX0_meetings 11 = .ok (.if_icmp .ge 94, 3) := by decide +kernel
theorem dX0_meetings_14 : decode cX0_meetings 14 = .ok (.aload_n 2, 1) := by decide +kernel
theorem dX0_meetings_15 : decode cX0_meetings 15 = .ok (.getfield 77, 3) := by decide +kernel
theorem dX0_meetings_18 : decode cX0_meetings 18 = .ok (.iload 4, 2) := by decide +kernel
theorem dX0_meetings_20 : decode cX0_meetings 20 = .ok (.iaload, 1) := by decide +kernel
theorem dX0_meetings_21 : decode cX0_meetings 21 = .ok (.istore 5, 2) := by decide +kernel
theorem dX0_meetings_23 : decode cX0_meetings 23 = .ok (.iload 5, 2) := by decide +kernel
theorem dX0_meetings_25 : decode cX0_meetings 25 = .ok (.iconst (-1), 1) := by decide +kernel
theorem dX0_meetings_26 : decode cX0_meetings 26 = .ok (.if_icmp .eq 73, 3) := by decide +kernel
theorem dX0_meetings_29 : decode cX0_meetings 29 = .ok (.aload_n 2, 1) := by decide +kernel
theorem dX0_meetings_30 : decode cX0_meetings 30 = .ok (.getfield 77, 3) := by decide +kernel
theorem dX0_meetings_33 : decode cX0_meetings 33 = .ok (.iload 5, 2) := by decide +kernel
theorem dX0_meetings_35 : decode cX0_meetings 35 = .ok (.iaload, 1) := by decide +kernel
theorem dX0_meetings_36 : decode cX0_meetings 36 = .ok (.iload 4, 2) := by decide +kernel
theorem dX0_meetings_38 : decode cX0_meetings 38 = .ok (.if_icmp .ne 61, 3) := by decide +kernel
theorem dX0_meetings_41 : decode cX0_meetings 41 = .ok (.aload_n 2, 1) := by decide +kernel
theorem dX0_meetings_42 : decode cX0_meetings 42 = .ok (.getfield 80, 3) := by decide +kernel
theorem dX0_meetings_45 : decode cX0_meetings 45 = .ok (.iload 5, 2) := by decide +kernel
theorem dX0_meetings_47 : decode cX0_meetings 47 = .ok (.iaload, 1) := by decide +kernel
theorem dX0_meetings_48 : decode cX0_meetings 48 = .ok (.aload_n 2, 1) := by decide +kernel
theorem dX0_meetings_49 : decode cX0_meetings 49 = .ok (.getfield 80, 3) := by decide +kernel
theorem dX0_meetings_52 : decode cX0_meetings 52 = .ok (.iload 4, 2) := by decide +kernel
theorem dX0_meetings_54 : decode cX0_meetings 54 = .ok (.iaload, 1) := by decide +kernel
theorem dX0_meetings_55 : decode cX0_meetings 55 = .ok (.if_icmp .ne 44, 3) := by decide +kernel
theorem dX0_meetings_58 : decode cX0_meetings 58 = .ok (.aload_n 1, 1) := by decide +kernel
theorem dX0_meetings_59 : decode cX0_meetings 59 = .ok (.iload 4, 2) := by decide +kernel
theorem dX0_meetings_61 : decode cX0_meetings 61 = .ok (.aload_n 2, 1) := by decide +kernel
theorem dX0_meetings_62 : decode cX0_meetings 62 = .ok (.getfield 69, 3) := by decide +kernel
theorem dX0_meetings_65 : decode cX0_meetings 65 = .ok (.invokevirtual 83, 3) := by decide +kernel
theorem dX0_meetings_68 : decode cX0_meetings 68 = .ok (.ifCond .ne 31, 3) := by decide +kernel
theorem dX0_meetings_71 : decode cX0_meetings 71 = .ok (.aload_n 1, 1) := by decide +kernel
theorem dX0_meetings_72 : decode cX0_meetings 72 = .ok (.iload 5, 2) := by decide +kernel
theorem dX0_meetings_74 : decode cX0_meetings 74 = .ok (.aload_n 2, 1) := by decide +kernel
theorem dX0_meetings_75 : decode cX0_meetings 75 = .ok (.getfield 69, 3) := by decide +kernel
theorem dX0_meetings_78 : decode cX0_meetings 78 = .ok (.invokevirtual 83, 3) := by decide +kernel
theorem dX0_meetings_81 : decode cX0_meetings 81 = .ok (.ifCond .ne 18, 3) := by decide +kernel
theorem dX0_meetings_84 : decode cX0_meetings 84 = .ok (.iload_n 3, 1) := by decide +kernel
theorem dX0_meetings_85 : decode cX0_meetings 85 = .ok (.iconst 1, 1) := by decide +kernel
theorem dX0_meetings_86 : decode cX0_meetings 86 = .ok (.iload 4, 2) := by decide +kernel
theorem dX0_meetings_88 : decode cX0_meetings 88 = .ok (.ishl, 1) := by decide +kernel
theorem dX0_meetings_89 : decode cX0_meetings 89 = .ok (.iconst 1, 1) := by decide +kernel
theorem dX0_meetings_90 : decode cX0_meetings 90 = .ok (.bipush 6, 2) := by decide +kernel
theorem dX0_meetings_92 : decode cX0_meetings 92 = .ok (.iload 4, 2) := by decide +kernel
theorem dX0_meetings_94 : decode cX0_meetings 94 = .ok (.iadd, 1) := by decide +kernel
theorem dX0_meetings_95 : decode cX0_meetings 95 = .ok (.ishl, 1) := by decide +kernel
theorem dX0_meetings_96 : decode cX0_meetings 96 = .ok (.ior, 1) := by decide +kernel
theorem dX0_meetings_97 : decode cX0_meetings 97 = .ok (.ior, 1) := by decide +kernel
theorem dX0_meetings_98 : decode cX0_meetings 98 = .ok (.istore_n 3, 1) := by decide +kernel
theorem dX0_meetings_99 : decode cX0_meetings 99 = .ok (.iinc 4 1, 3) := by decide +kernel
theorem dX0_meetings_102 : decode cX0_meetings 102 = .ok (.goto (-97), 3) := by decide +kernel
theorem dX0_meetings_105 : decode cX0_meetings 105 = .ok (.iload_n 3, 1) := by decide +kernel
theorem dX0_meetings_106 : decode cX0_meetings 106 = .ok (.ireturn, 1) := by decide +kernel
theorem dX0_staysToWait_0 : decode cX0_staysToWait 0 = .ok (.aload_n 2, 1) := by decide +kernel
theorem dX0_staysToWait_1 : decode cX0_staysToWait 1 = .ok (.getfield 77, 3) := by decide +kernel
theorem dX0_staysToWait_4 : decode cX0_staysToWait 4 = .ok (.iload_n 3, 1) := by decide +kernel
theorem dX0_staysToWait_5 : decode cX0_staysToWait 5 = .ok (.iaload, 1) := by decide +kernel
theorem dX0_staysToWait_6 : decode cX0_staysToWait 6 = .ok (.istore 4, 2) := by decide +kernel
theorem dX0_staysToWait_8 : decode cX0_staysToWait 8 = .ok (.iload 4, 2) := by decide +kernel
theorem dX0_staysToWait_10 : decode cX0_staysToWait 10 = .ok (.iconst (-1), 1) := by decide +kernel
theorem dX0_staysToWait_11 : decode cX0_staysToWait 11 = .ok (.if_icmp .eq 15, 3) := by decide +kernel
theorem dX0_staysToWait_14 : decode cX0_staysToWait 14 = .ok (.aload_n 1, 1) := by decide +kernel
theorem dX0_staysToWait_15 : decode cX0_staysToWait 15 = .ok (.iload_n 3, 1) := by decide +kernel
theorem dX0_staysToWait_16 : decode cX0_staysToWait 16 = .ok (.aload_n 2, 1) := by decide +kernel
theorem dX0_staysToWait_17 : decode cX0_staysToWait 17 = .ok (.getfield 69, 3) := by decide +kernel
theorem dX0_staysToWait_20 : decode cX0_staysToWait 20 = .ok (.invokevirtual 83, 3) := by decide +kernel
theorem dX0_staysToWait_23 : decode cX0_staysToWait 23 = .ok (.ifCond .eq 7, 3) := by decide +kernel
theorem dX0_staysToWait_26 : decode cX0_staysToWait 26 = .ok (.iconst 1, 1) := by decide +kernel
theorem dX0_staysToWait_27 : decode cX0_staysToWait 27 = .ok (.goto 4, 3) := by decide +kernel
theorem dX0_staysToWait_30 : decode cX0_staysToWait 30 = .ok (.iconst 0, 1) := by decide +kernel
theorem dX0_staysToWait_31 : decode cX0_staysToWait 31 = .ok (.istore 5, 2) := by decide +kernel
theorem dX0_staysToWait_33 : decode cX0_staysToWait 33 = .ok (.iload 5, 2) := by decide +kernel
theorem dX0_staysToWait_35 : decode cX0_staysToWait 35 = .ok (.ifCond .eq 12, 3) := by decide +kernel
theorem dX0_staysToWait_38 : decode cX0_staysToWait 38 = .ok (.aload_n 1, 1) := by decide +kernel
theorem dX0_staysToWait_39 : decode cX0_staysToWait 39 = .ok (.getfield 86, 3) := by decide +kernel
theorem dX0_staysToWait_42 : decode cX0_staysToWait 42 = .ok (.iload_n 3, 1) := by decide +kernel
theorem dX0_staysToWait_43 : decode cX0_staysToWait 43 = .ok (.iaload, 1) := by decide +kernel
theorem dX0_staysToWait_44 : decode cX0_staysToWait 44 = .ok (.goto 10, 3) := by decide +kernel
theorem dX0_staysToWait_47 : decode cX0_staysToWait 47 = .ok (.aload_n 1, 1) := by decide +kernel
theorem dX0_staysToWait_48 : decode cX0_staysToWait 48 = .ok (.getfield 86, 3) := by decide +kernel
theorem dX0_staysToWait_51 : decode cX0_staysToWait 51 = .ok (.iload 4, 2) := by decide +kernel
theorem dX0_staysToWait_53 : decode cX0_staysToWait 53 = .ok (.iaload, 1) := by decide +kernel
theorem dX0_staysToWait_54 : decode cX0_staysToWait 54 = .ok (.istore 6, 2) := by decide +kernel
theorem dX0_staysToWait_56 : decode cX0_staysToWait 56 = .ok (.aload_n 2, 1) := by decide +kernel
theorem dX0_staysToWait_57 : decode cX0_staysToWait 57 = .ok (.getfield 80, 3) := by decide +kernel
theorem dX0_staysToWait_60 : decode cX0_staysToWait 60 = .ok (.iload_n 3, 1) := by decide +kernel
theorem dX0_staysToWait_61 : decode cX0_staysToWait 61 = .ok (.iaload, 1) := by decide +kernel
theorem dX0_staysToWait_62 : decode cX0_staysToWait 62 = .ok (.istore 7, 2) := by decide +kernel
theorem dX0_staysToWait_64 : decode cX0_staysToWait 64 = .ok (.iload 7, 2) := by decide +kernel
theorem dX0_staysToWait_66 : decode cX0_staysToWait 66 = .ok (.iload 6, 2) := by decide +kernel
theorem dX0_staysToWait_68 : decode cX0_staysToWait 68 = .ok (.if_icmp .ne 27, 3) := by decide +kernel
theorem dX0_staysToWait_71 : decode cX0_staysToWait 71 = .ok (.iload 5, 2) := by decide +kernel
theorem dX0_staysToWait_73 : decode cX0_staysToWait 73 = .ok (.ifCond .ne 20, 3) := by decide +kernel
theorem dX0_staysToWait_76 : decode cX0_staysToWait 76 = .ok (.aload_n 1, 1) := by decide +kernel
theorem dX0_staysToWait_77 : decode cX0_staysToWait 77 = .ok (.iload 4, 2) := by decide +kernel
theorem dX0_staysToWait_79 : decode cX0_staysToWait 79 = .ok (.aload_n 2, 1) := by decide +kernel
theorem dX0_staysToWait_80 : decode cX0_staysToWait 80 = .ok (.getfield 69, 3) := by decide +kernel
theorem dX0_staysToWait_83 : decode cX0_staysToWait 83 = .ok (.invokevirtual 89, 3) := by decide +kernel
theorem dX0_staysToWait_86 : decode cX0_staysToWait 86 = .ok (.ifCond .eq 7, 3) := by decide +kernel
theorem dX0_staysToWait_89 : decode cX0_staysToWait 89 = .ok (.iconst 1, 1) := by decide +kernel
theorem dX0_staysToWait_90 : decode cX0_staysToWait 90 = .ok (.goto 4, 3) := by decide +kernel
theorem dX0_staysToWait_93 : decode cX0_staysToWait 93 = .ok (.iconst 0, 1) := by decide +kernel
theorem dX0_staysToWait_94 : decode cX0_staysToWait 94 = .ok (.ireturn, 1) := by decide +kernel
theorem dX0_staysToWait_95 : decode cX0_staysToWait 95 = .ok (.aload_n 2, 1) := by decide +kernel
theorem dX0_staysToWait_96 : decode cX0_staysToWait 96 = .ok (.getfield 80, 3) := by decide +kernel
theorem dX0_staysToWait_99 : decode cX0_staysToWait 99 = .ok (.iload_n 3, 1) := by decide +kernel
theorem dX0_staysToWait_100 : decode cX0_staysToWait 100 = .ok (.iload 7, 2) := by decide +kernel
theorem dX0_staysToWait_102 : decode cX0_staysToWait 102 = .ok (.iload 6, 2) := by decide +kernel
theorem dX0_staysToWait_104 : decode cX0_staysToWait 104 = .ok (.if_icmp .ge 10, 3) := by decide +kernel
theorem dX0_staysToWait_107 : decode cX0_staysToWait 107 = .ok (.iload 7, 2) := by decide +kernel
theorem dX0_staysToWait_109 : decode cX0_staysToWait 109 = .ok (.iconst 1, 1) := by decide +kernel
theorem dX0_staysToWait_110 : decode cX0_staysToWait 110 = .ok (.iadd, 1) := by decide +kernel
theorem dX0_staysToWait_111 : decode cX0_staysToWait 111 = .ok (.goto 7, 3) := by decide +kernel
theorem dX0_staysToWait_114 : decode cX0_staysToWait 114 = .ok (.iload 7, 2) := by decide +kernel
theorem dX0_staysToWait_116 : decode cX0_staysToWait 116 = .ok (.iconst 1, 1) := by decide +kernel
theorem dX0_staysToWait_117 : decode cX0_staysToWait 117 = .ok (.isub, 1) := by decide +kernel
theorem dX0_staysToWait_118 : decode cX0_staysToWait 118 = .ok (.iastore, 1) := by decide +kernel
theorem dX0_staysToWait_119 : decode cX0_staysToWait 119 = .ok (.iconst 0, 1) := by decide +kernel
theorem dX0_staysToWait_120 : decode cX0_staysToWait 120 = .ok (.ireturn, 1) := by decide +kernel
theorem dX0_seats_0 : decode cX0_seats 0 = .ok (.iconst 0, 1) := by decide +kernel
theorem dX0_seats_1 : decode cX0_seats 1 = .ok (.istore 4, 2) := by decide +kernel
theorem dX0_seats_3 : decode cX0_seats 3 = .ok (.aload_n 0, 1) := by decide +kernel
theorem dX0_seats_4 : decode cX0_seats 4 = .ok (.getfield 17, 3) := by decide +kernel
theorem dX0_seats_7 : decode cX0_seats 7 = .ok (.iconst 0, 1) := by decide +kernel
theorem dX0_seats_8 : decode cX0_seats 8 = .ok (.invokestatic 92, 3) := by decide +kernel
theorem dX0_seats_11 : decode cX0_seats 11 = .ok (.iconst 0, 1) := by decide +kernel
theorem dX0_seats_12 : decode cX0_seats 12 = .ok (.istore 5, 2) := by decide +kernel
theorem dX0_seats_14 : decode cX0_seats 14 = .ok (.iload 5, 2) := by decide +kernel
theorem dX0_seats_16 : decode cX0_seats 16 = .ok (.aload_n 1, 1) := by decide +kernel
theorem dX0_seats_17 : decode cX0_seats 17 = .ok (.getfield 38, 3) := by decide +kernel
theorem dX0_seats_20 : decode cX0_seats 20 = .ok (.if_icmp .ge 76, 3) := by decide +kernel
theorem dX0_seats_23 : decode cX0_seats 23 = .ok (.iload_n 3, 1) := by decide +kernel
theorem dX0_seats_24 : decode cX0_seats 24 = .ok (.iload 5, 2) := by decide +kernel
theorem dX0_seats_26 : decode cX0_seats 26 = .ok (.invokestatic 98, 3) := by decide +kernel
theorem dX0_seats_29 : decode cX0_seats 29 = .ok (.ifCond .eq 61, 3) := by decide +kernel
theorem dX0_seats_32 : decode cX0_seats 32 = .ok (.iload_n 3, 1) := by decide +kernel
theorem dX0_seats_33 : decode cX0_seats 33 = .ok (.iload 5, 2) := by decide +kernel
theorem dX0_seats_35 : decode cX0_seats 35 = .ok (.invokestatic 44, 3) := by decide +kernel
theorem dX0_seats_38 : decode cX0_seats 38 = .ok (.ifCond .ne 52, 3) := by decide +kernel
theorem dX0_seats_41 : decode cX0_seats 41 = .ok (.aload_n 2, 1) := by decide +kernel
theorem dX0_seats_42 : decode cX0_seats 42 = .ok (.getfield 77, 3) := by decide +kernel
theorem dX0_seats_45 : decode cX0_seats 45 = .ok (.iload 5, 2) := by decide +kernel
theorem dX0_seats_47 : decode cX0_seats 47 = .ok (.iaload, 1) := by decide +kernel
theorem dX0_seats_48 : decode cX0_seats 48 = .ok (.istore 6, 2) := by decide +kernel
theorem dX0_seats_50 : decode cX0_seats 50 = .ok (.aload_n 0, 1) := by decide +kernel
theorem dX0_seats_51 : decode cX0_seats 51 = .ok (.getfield 17, 3) := by decide +kernel
theorem dX0_seats_54 : decode cX0_seats 54 = .ok (.iload 6, 2) := by decide +kernel
theorem dX0_seats_56 : decode cX0_seats 56 = .ok (.iaload, 1) := by decide +kernel
theorem dX0_seats_57 : decode cX0_seats 57 = .ok (.aload_n 1, 1) := by decide +kernel
theorem dX0_seats_58 : decode cX0_seats 58 = .ok (.getfield 101, 3) := by decide +kernel
theorem dX0_seats_61 : decode cX0_seats 61 = .ok (.iload 6, 2) := by decide +kernel
theorem dX0_seats_63 : decode cX0_seats 63 = .ok (.iaload, 1) := by decide +kernel
theorem dX0_seats_64 : decode cX0_seats 64 = .ok (.if_icmp .ge 15, 3) := by decide +kernel
theorem dX0_seats_67 : decode cX0_seats 67 = .ok (.iload 4, 2) := by decide +kernel
theorem dX0_seats_69 : decode cX0_seats 69 = .ok (.iconst 1, 1) := by decide +kernel
theorem dX0_seats_70 : decode cX0_seats 70 = .ok (.bipush 12, 2) := by decide +kernel
theorem dX0_seats_72 : decode cX0_seats 72 = .ok (.iload 5, 2) := by decide +kernel
theorem dX0_seats_74 : decode cX0_seats 74 = .ok (.iadd, 1) := by decide +kernel
theorem dX0_seats_75 : decode cX0_seats 75 = .ok (.ishl, 1) := by decide +kernel
theorem dX0_seats_76 : decode cX0_seats 76 = .ok (.ior, 1) := by decide +kernel
theorem dX0_seats_77 : decode cX0_seats 77 = .ok (.istore 4, 2) := by decide +kernel
theorem dX0_seats_79 : decode cX0_seats 79 = .ok (.aload_n 0, 1) := by decide +kernel
theorem dX0_seats_80 : decode cX0_seats 80 = .ok (.getfield 17, 3) := by decide +kernel
theorem dX0_seats_83 : decode cX0_seats 83 = .ok (.iload 6, 2) := by decide +kernel
theorem dX0_seats_85 : decode cX0_seats 85 = .ok (.dup2, 1) := by decide +kernel
theorem dX0_seats_86 : decode cX0_seats 86 = .ok (.iaload, 1) := by decide +kernel
theorem dX0_seats_87 : decode cX0_seats 87 = .ok (.iconst 1, 1) := by decide +kernel
theorem dX0_seats_88 : decode cX0_seats 88 = .ok (.iadd, 1) := by decide +kernel
theorem dX0_seats_89 : decode cX0_seats 89 = .ok (.iastore, 1) := by decide +kernel
theorem dX0_seats_90 : decode cX0_seats 90 = .ok (.iinc 5 1, 3) := by decide +kernel
theorem dX0_seats_93 : decode cX0_seats 93 = .ok (.goto (-79), 3) := by decide +kernel
theorem dX0_seats_96 : decode cX0_seats 96 = .ok (.iload 4, 2) := by decide +kernel
theorem dX0_seats_98 : decode cX0_seats 98 = .ok (.ireturn, 1) := by decide +kernel
theorem dX0_settle_0 : decode cX0_settle 0 = .ok (.iconst 0, 1) := by decide +kernel
theorem dX0_settle_1 : decode cX0_settle 1 = .ok (.istore 4, 2) := by decide +kernel
theorem dX0_settle_3 : decode cX0_settle 3 = .ok (.iload 4, 2) := by decide +kernel
theorem dX0_settle_5 : decode cX0_settle 5 = .ok (.aload_n 1, 1) := by decide +kernel
theorem dX0_settle_6 : decode cX0_settle 6 = .ok (.getfield 38, 3) := by decide +kernel
theorem dX0_settle_9 : decode cX0_settle 9 = .ok (.if_icmp .ge 38, 3) := by decide +kernel
theorem dX0_settle_12 : decode cX0_settle 12 = .ok (.aload_n 0, 1) := by decide +kernel
theorem dX0_settle_13 : decode cX0_settle 13 = .ok (.getfield 20, 3) := by decide +kernel
theorem dX0_settle_16 : decode cX0_settle 16 = .ok (.iload 4, 2) := by decide +kernel
theorem dX0_settle_18 : decode cX0_settle 18 = .ok (.iload_n 3, 1) := by decide +kernel
theorem dX0_settle_19 : decode cX0_settle 19 = .ok (.iload 4, 2) := by decide +kernel
theorem dX0_settle_21 : decode cX0_settle 21 = .ok (.invokestatic 98, 3) := by decide +kernel
theorem dX0_settle_24 : decode cX0_settle 24 = .ok (.ifCond .eq 15, 3) := by decide +kernel
theorem dX0_settle_27 : decode cX0_settle 27 = .ok (.aload_n 0, 1) := by decide +kernel
theorem dX0_settle_28 : decode cX0_settle 28 = .ok (.aload_n 1, 1) := by decide +kernel
theorem dX0_settle_29 : decode cX0_settle 29 = .ok (.aload_n 2, 1) := by decide +kernel
theorem dX0_settle_30 : decode cX0_settle 30 = .ok (.iload_n 3, 1) := by decide +kernel
theorem dX0_settle_31 : decode cX0_settle 31 = .ok (.iload 4, 2) := by decide +kernel
theorem dX0_settle_33 : decode cX0_settle 33 = .ok (.invokevirtual 104, 3) := by decide +kernel
theorem dX0_settle_36 : decode cX0_settle 36 = .ok (.goto 4, 3) := by decide +kernel
theorem dX0_settle_39 : decode cX0_settle 39 = .ok (.iconst 0, 1) := by decide +kernel
theorem dX0_settle_40 : decode cX0_settle 40 = .ok (.iastore, 1) := by decide +kernel
theorem dX0_settle_41 : decode cX0_settle 41 = .ok (.iinc 4 1, 3) := by decide +kernel
theorem dX0_settle_44 : decode cX0_settle 44 = .ok (.goto (-41), 3) := by decide +kernel
theorem dX0_settle_47 : decode cX0_settle 47 = .ok (.return_, 1) := by decide +kernel
theorem dX0_payment_0 : decode cX0_payment 0 = .ok (.aload_n 2, 1) := by decide +kernel
theorem dX0_payment_1 : decode cX0_payment 1 = .ok (.getfield 108, 3) := by decide +kernel
theorem dX0_payment_4 : decode cX0_payment 4 = .ok (.iload 4, 2) := by decide +kernel
theorem dX0_payment_6 : decode cX0_payment 6 = .ok (.iaload, 1) := by decide +kernel
theorem dX0_payment_7 : decode cX0_payment 7 = .ok (.istore 5, 2) := by decide +kernel
theorem dX0_payment_9 : decode cX0_payment 9 = .ok (.iload 5, 2) := by decide +kernel
theorem dX0_payment_11 : decode cX0_payment 11 = .ok (.aload_n 2, 1) := by decide +kernel
theorem dX0_payment_12 : decode cX0_payment 12 = .ok (.getfield 77, 3) := by decide +kernel
theorem dX0_payment_15 : decode cX0_payment 15 = .ok (.iload 4, 2) := by decide +kernel
theorem dX0_payment_17 : decode cX0_payment 17 = .ok (.iaload, 1) := by decide +kernel
theorem dX0_payment_18 : decode cX0_payment 18 = .ok (.invokestatic 111, 3) := by decide +kernel
theorem dX0_payment_21 : decode cX0_payment 21 = .ok (.istore 6, 2) := by decide +kernel
theorem dX0_payment_23 : decode cX0_payment 23 = .ok (.aload_n 2, 1) := by decide +kernel
theorem dX0_payment_24 : decode cX0_payment 24 = .ok (.getfield 115, 3) := by decide +kernel
theorem dX0_payment_27 : decode cX0_payment 27 = .ok (.iload 6, 2) := by decide +kernel
theorem dX0_payment_29 : decode cX0_payment 29 = .ok (.iaload, 1) := by decide +kernel
theorem dX0_payment_30 : decode cX0_payment 30 = .ok (.istore 7, 2) := by decide +kernel
theorem dX0_payment_32 : decode cX0_payment 32 = .ok (.iload 7, 2) := by decide +kernel
theorem dX0_payment_34 : decode cX0_payment 34 = .ok (.ifCond .ne 5, 3) := by decide +kernel
theorem dX0_payment_37 : decode cX0_payment 37 = .ok (.iconst 0, 1) := by decide +kernel
theorem dX0_payment_38 : decode cX0_payment 38 = .ok (.ireturn, 1) := by decide +kernel
theorem dX0_payment_39 : decode cX0_payment 39 = .ok (.bipush 60, 2) := by decide +kernel
theorem dX0_payment_41 : decode cX0_payment 41 = .ok (.istore 8, 2) := by decide +kernel
theorem dX0_payment_43 : decode cX0_payment 43 = .ok (.aload_n 1, 1) := by decide +kernel
theorem dX0_payment_44 : decode cX0_payment 44 = .ok (.getfield 56, 3) := by decide +kernel
theorem dX0_payment_47 : decode cX0_payment 47 = .ok (.getfield 118, 3) := by decide +kernel
theorem dX0_payment_50 : decode cX0_payment 50 = .ok (.ifCond .eq 115, 3) := by decide +kernel
theorem dX0_payment_53 : decode cX0_payment 53 = .ok (.aload_n 0, 1) := by decide +kernel
theorem dX0_payment_54 : decode cX0_payment 54 = .ok (.getfield 11, 3) := by decide +kernel
theorem dX0_payment_57 : decode cX0_payment 57 = .ok (.iconst 0, 1) := by decide +kernel
theorem dX0_payment_58 : decode cX0_payment 58 = .ok (.iload 7, 2) := by decide +kernel
theorem dX0_payment_60 : decode cX0_payment 60 = .ok (.iastore, 1) := by decide +kernel
theorem dX0_payment_61 : decode cX0_payment 61 = .ok (.aload_n 0, 1) := by decide +kernel
theorem dX0_payment_62 : decode cX0_payment 62 = .ok (.getfield 11, 3) := by decide +kernel
theorem dX0_payment_65 : decode cX0_payment 65 = .ok (.iconst 1, 1) := by decide +kernel
theorem dX0_payment_66 : decode cX0_payment 66 = .ok (.aload_n 2, 1) := by decide +kernel
theorem dX0_payment_67 : decode cX0_payment 67 = .ok (.getfield 64, 3) := by decide +kernel
theorem dX0_payment_70 : decode cX0_payment 70 = .ok (.iastore, 1) := by decide +kernel
theorem dX0_payment_71 : decode cX0_payment 71 = .ok (.aload_n 0, 1) := by decide +kernel
theorem dX0_payment_72 : decode cX0_payment 72 = .ok (.getfield 11, 3) := by decide +kernel
theorem dX0_payment_75 : decode cX0_payment 75 = .ok (.iconst 2, 1) := by decide +kernel
theorem dX0_payment_76 : decode cX0_payment 76 = .ok (.aload_n 2, 1) := by decide +kernel
theorem dX0_payment_77 : decode cX0_payment 77 = .ok (.getfield 69, 3) := by decide +kernel
theorem dX0_payment_80 : decode cX0_payment 80 = .ok (.iastore, 1) := by decide +kernel
theorem dX0_payment_81 : decode cX0_payment 81 = .ok (.aload_n 0, 1) := by decide +kernel
theorem dX0_payment_82 : decode cX0_payment 82 = .ok (.getfield 11, 3) := by decide +kernel
theorem dX0_payment_85 : decode cX0_payment 85 = .ok (.iconst 3, 1) := by decide +kernel
theorem dX0_payment_86 : decode cX0_payment 86 = .ok (.iload_n 3, 1) := by decide +kernel
theorem dX0_payment_87 : decode cX0_payment 87 = .ok (.bipush 18, 2) := by decide +kernel
theorem dX0_payment_89 : decode cX0_payment 89 = .ok (.ishr, 1) := by decide +kernel
theorem dX0_payment_90 : decode cX0_payment 90 = .ok (.iconst 1, 1) := by decide +kernel
theorem dX0_payment_91 : decode cX0_payment 91 = .ok (.iand, 1) := by decide +kernel
theorem dX0_payment_92 : decode cX0_payment 92 = .ok (.iastore, 1) := by decide +kernel
theorem dX0_payment_93 : decode cX0_payment 93 = .ok (.aload_n 0, 1) := by decide +kernel
theorem dX0_payment_94 : decode cX0_payment 94 = .ok (.getfield 11, 3) := by decide +kernel
theorem dX0_payment_97 : decode cX0_payment 97 = .ok (.iconst 4, 1) := by decide +kernel
theorem dX0_payment_98 : decode cX0_payment 98 = .ok (.iload_n 3, 1) := by decide +kernel
theorem dX0_payment_99 : decode cX0_payment 99 = .ok (.bipush 12, 2) := by decide +kernel
theorem dX0_payment_101 : decode cX0_payment 101 = .ok (.iload 4, 2) := by decide +kernel
theorem dX0_payment_103 : decode cX0_payment 103 = .ok (.iadd, 1) := by decide +kernel
theorem dX0_payment_104 : decode cX0_payment 104 = .ok (.ishr, 1) := by decide +kernel
theorem dX0_payment_105 : decode cX0_payment 105 = .ok (.iconst 1, 1) := by decide +kernel
theorem dX0_payment_106 : decode cX0_payment 106 = .ok (.iand, 1) := by decide +kernel
theorem dX0_payment_107 : decode cX0_payment 107 = .ok (.iastore, 1) := by decide +kernel
theorem dX0_payment_108 : decode cX0_payment 108 = .ok (.aload_n 0, 1) := by decide +kernel
theorem dX0_payment_109 : decode cX0_payment 109 = .ok (.getfield 11, 3) := by decide +kernel
theorem dX0_payment_112 : decode cX0_payment 112 = .ok (.iconst 5, 1) := by decide +kernel
theorem dX0_payment_113 : decode cX0_payment 113 = .ok (.iload_n 3, 1) := by decide +kernel
theorem dX0_payment_114 : decode cX0_payment 114 = .ok (.bipush 6, 2) := by decide +kernel
theorem dX0_payment_116 : decode cX0_payment 116 = .ok (.iload 4, 2) := by decide +kernel
theorem dX0_payment_118 : decode cX0_payment 118 = .ok (.iadd, 1) := by decide +kernel
theorem dX0_payment_119 : decode cX0_payment 119 = .ok (.ishr, 1) := by decide +kernel
theorem dX0_payment_120 : decode cX0_payment 120 = .ok (.iconst 1, 1) := by decide +kernel
theorem dX0_payment_121 : decode cX0_payment 121 = .ok (.iand, 1) := by decide +kernel
theorem dX0_payment_122 : decode cX0_payment 122 = .ok (.iastore, 1) := by decide +kernel
theorem dX0_payment_123 : decode cX0_payment 123 = .ok (.aload_n 0, 1) := by decide +kernel
theorem dX0_payment_124 : decode cX0_payment 124 = .ok (.getfield 11, 3) := by decide +kernel
theorem dX0_payment_127 : decode cX0_payment 127 = .ok (.bipush 6, 2) := by decide +kernel
theorem dX0_payment_129 : decode cX0_payment 129 = .ok (.iload 5, 2) := by decide +kernel
theorem dX0_payment_131 : decode cX0_payment 131 = .ok (.iload 4, 2) := by decide +kernel
theorem dX0_payment_133 : decode cX0_payment 133 = .ok (.if_icmp .ne 7, 3) := by decide +kernel
theorem dX0_payment_136 : decode cX0_payment 136 = .ok (.iconst 0, 1) := by decide +kernel
theorem dX0_payment_137 : decode cX0_payment 137 = .ok (.goto 4, 3) := by decide +kernel
theorem dX0_payment_140 : decode cX0_payment 140 = .ok (.iconst 1, 1) := by decide +kernel
theorem dX0_payment_141 : decode cX0_payment 141 = .ok (.iastore, 1) := by decide +kernel
theorem dX0_payment_142 : decode cX0_payment 142 = .ok (.iconst 0, 1) := by decide +kernel
theorem dX0_payment_143 : decode cX0_payment 143 = .ok (.sipush 240, 3) := by decide +kernel
theorem dX0_payment_146 : decode cX0_payment 146 = .ok (.aload_n 1, 1) := by decide +kernel
theorem dX0_payment_147 : decode cX0_payment 147 = .ok (.getfield 56, 3) := by decide +kernel
theorem dX0_payment_150 : decode cX0_payment 150 = .ok (.aload_n 0, 1) := by decide +kernel
theorem dX0_payment_151 : decode cX0_payment 151 = .ok (.getfield 11, 3) := by decide +kernel
theorem dX0_payment_154 : decode cX0_payment 154 = .ok (.invokevirtual 121, 3) := by decide +kernel
theorem dX0_payment_157 : decode cX0_payment 157 = .ok (.invokestatic 125, 3) := by decide +kernel
theorem dX0_payment_160 : decode cX0_payment 160 = .ok (.invokestatic 130, 3) := by decide +kernel
theorem dX0_payment_163 : decode cX0_payment 163 = .ok (.istore 8, 2) := by decide +kernel
theorem dX0_payment_165 : decode cX0_payment 165 = .ok (.iload 8, 2) := by decide +kernel
theorem dX0_payment_167 : decode cX0_payment 167 = .ok (.iload 7, 2) := by decide +kernel
theorem dX0_payment_169 : decode cX0_payment 169 = .ok (.invokestatic 125, 3) := by decide +kernel
theorem dX0_payment_172 : decode cX0_payment 172 = .ok (.istore 8, 2) := by decide +kernel
theorem dX0_payment_174 : decode cX0_payment 174 = .ok (.iload 8, 2) := by decide +kernel
theorem dX0_payment_176 : decode cX0_payment 176 = .ok (.ifCond .le 31, 3) := by decide +kernel
theorem dX0_payment_179 : decode cX0_payment 179 = .ok (.iload 5, 2) := by decide +kernel
theorem dX0_payment_181 : decode cX0_payment 181 = .ok (.iload 4, 2) := by decide +kernel
theorem dX0_payment_183 : decode cX0_payment 183 = .ok (.if_icmp .eq 24, 3) := by decide +kernel
theorem dX0_payment_186 : decode cX0_payment 186 = .ok (.aload_n 0, 1) := by decide +kernel
theorem dX0_payment_187 : decode cX0_payment 187 = .ok (.aload_n 2, 1) := by decide +kernel
theorem dX0_payment_188 : decode cX0_payment 188 = .ok (.iload 4, 2) := by decide +kernel
theorem dX0_payment_190 : decode cX0_payment 190 = .ok (.iload 5, 2) := by decide +kernel
theorem dX0_payment_192 : decode cX0_payment 192 = .ok (.aload_n 1, 1) := by decide +kernel
theorem dX0_payment_193 : decode cX0_payment 193 = .ok (.getfield 133, 3) := by decide +kernel
theorem dX0_payment_196 : decode cX0_payment 196 = .ok (.iload 4, 2) := by decide +kernel
theorem dX0_payment_198 : decode cX0_payment 198 = .ok (.iaload, 1) := by decide +kernel
theorem dX0_payment_199 : decode cX0_payment 199 = .ok (.invokevirtual 136, 3) := by decide +kernel
theorem dX0_payment_202 : decode cX0_payment 202 = .ok (.ifCond .ne 5, 3) := by decide +kernel
theorem dX0_payment_205 : decode cX0_payment 205 = .ok (.iconst 0, 1) := by decide +kernel
theorem dX0_payment_206 : decode cX0_payment 206 = .ok (.ireturn, 1) := by decide +kernel
theorem dX0_payment_207 : decode cX0_payment 207 = .ok (.aload_n 2, 1) := by decide +kernel
theorem dX0_payment_208 : decode cX0_payment 208 = .ok (.getfield 115, 3) := by decide +kernel
theorem dX0_payment_211 : decode cX0_payment 211 = .ok (.iload 6, 2) := by decide +kernel
theorem dX0_payment_213 : decode cX0_payment 213 = .ok (.iload 7, 2) := by decide +kernel
theorem dX0_payment_215 : decode cX0_payment 215 = .ok (.iload 8, 2) := by decide +kernel
theorem dX0_payment_217 : decode cX0_payment 217 = .ok (.isub, 1) := by decide +kernel
theorem dX0_payment_218 : decode cX0_payment 218 = .ok (.iastore, 1) := by decide +kernel
theorem dX0_payment_219 : decode cX0_payment 219 = .ok (.iload 8, 2) := by decide +kernel
theorem dX0_payment_221 : decode cX0_payment 221 = .ok (.ireturn, 1) := by decide +kernel
theorem dX0_takesPrice_0 : decode cX0_takesPrice 0 = .ok (.aload_n 1, 1) := by decide +kernel
theorem dX0_takesPrice_1 : decode cX0_takesPrice 1 = .ok (.getfield 140, 3) := by decide +kernel
theorem dX0_takesPrice_4 : decode cX0_takesPrice 4 = .ok (.iload_n 3, 1) := by decide +kernel
theorem dX0_takesPrice_5 : decode cX0_takesPrice 5 = .ok (.iaload, 1) := by decide +kernel
theorem dX0_takesPrice_6 : decode cX0_takesPrice 6 = .ok (.iload 4, 2) := by decide +kernel
theorem dX0_takesPrice_8 : decode cX0_takesPrice 8 = .ok (.if_icmp .ge 5, 3) := by decide +kernel
theorem dX0_takesPrice_11 : decode cX0_takesPrice 11 = .ok (.iconst 0, 1) := by decide +kernel
theorem dX0_takesPrice_12 : decode cX0_takesPrice 12 = .ok (.ireturn, 1) := by decide +kernel
theorem dX0_takesPrice_13 : decode cX0_takesPrice 13 = .ok (.aload_n 1, 1) := by decide +kernel
theorem dX0_takesPrice_14 : decode cX0_takesPrice 14 = .ok (.getfield 140, 3) := by decide +kernel
theorem dX0_takesPrice_17 : decode cX0_takesPrice 17 = .ok (.iload_n 3, 1) := by decide +kernel
theorem dX0_takesPrice_18 : decode cX0_takesPrice 18 = .ok (.dup2, 1) := by decide +kernel
theorem dX0_takesPrice_19 : decode cX0_takesPrice 19 = .ok (.iaload, 1) := by decide +kernel
theorem dX0_takesPrice_20 : decode cX0_takesPrice 20 = .ok (.iload 4, 2) := by decide +kernel
theorem dX0_takesPrice_22 : decode cX0_takesPrice 22 = .ok (.isub, 1) := by decide +kernel
theorem dX0_takesPrice_23 : decode cX0_takesPrice 23 = .ok (.iastore, 1) := by decide +kernel
theorem dX0_takesPrice_24 : decode cX0_takesPrice 24 = .ok (.aload_n 1, 1) := by decide +kernel
theorem dX0_takesPrice_25 : decode cX0_takesPrice 25 = .ok (.getfield 140, 3) := by decide +kernel
theorem dX0_takesPrice_28 : decode cX0_takesPrice 28 = .ok (.iload_n 2, 1) := by decide +kernel
theorem dX0_takesPrice_29 : decode cX0_takesPrice 29 = .ok (.dup2, 1) := by decide +kernel
theorem dX0_takesPrice_30 : decode cX0_takesPrice 30 = .ok (.iaload, 1) := by decide +kernel
theorem dX0_takesPrice_31 : decode cX0_takesPrice 31 = .ok (.iload 4, 2) := by decide +kernel
theorem dX0_takesPrice_33 : decode cX0_takesPrice 33 = .ok (.iadd, 1) := by decide +kernel
theorem dX0_takesPrice_34 : decode cX0_takesPrice 34 = .ok (.iastore, 1) := by decide +kernel
theorem dX0_takesPrice_35 : decode cX0_takesPrice 35 = .ok (.iconst 1, 1) := by decide +kernel
theorem dX0_takesPrice_36 : decode cX0_takesPrice 36 = .ok (.ireturn, 1) := by decide +kernel
theorem dX0_turn_0 : decode cX0_turn 0 = .ok (.aload_n 2, 1) := by decide +kernel
theorem dX0_turn_1 : decode cX0_turn 1 = .ok (.dup, 1) := by decide +kernel
theorem dX0_turn_2 : decode cX0_turn 2 = .ok (.getfield 143, 3) := by decide +kernel
theorem dX0_turn_5 : decode cX0_turn 5 = .ok (.iconst 1, 1) := by decide +kernel
theorem dX0_turn_6 : decode cX0_turn 6 = .ok (.iadd, 1) := by decide +kernel
theorem dX0_turn_7 : decode cX0_turn 7 = .ok (.putfield 143, 3) := by decide +kernel
theorem dX0_turn_10 : decode cX0_turn 10 = .ok (.aload_n 2, 1) := by decide +kernel
theorem dX0_turn_11 : decode cX0_turn 11 = .ok (.dup, 1) := by decide +kernel
theorem dX0_turn_12 : decode cX0_turn 12 = .ok (.getfield 69, 3) := by decide +kernel
theorem dX0_turn_15 : decode cX0_turn 15 = .ok (.iconst 1, 1) := by decide +kernel
theorem dX0_turn_16 : decode cX0_turn 16 = .ok (.iadd, 1) := by decide +kernel
theorem dX0_turn_17 : decode cX0_turn 17 = .ok (.putfield 69, 3) := by decide +kernel
theorem dX0_turn_20 : decode cX0_turn 20 = .ok (.aload_n 2, 1) := by decide +kernel
theorem dX0_turn_21 : decode cX0_turn 21 = .ok (.getfield 69, 3) := by decide +kernel
theorem dX0_turn_24 : decode cX0_turn 24 = .ok (.aload_n 1, 1) := by decide +kernel
theorem dX0_turn_25 : decode cX0_turn 25 = .ok (.getfield 146, 3) := by decide +kernel
theorem dX0_turn_28 : decode cX0_turn 28 = .ok (.if_icmp .ge 4, 3) := by decide +kernel
theorem dX0_turn_31 : decode cX0_turn 31 = .ok (.return_, 1) := by decide +kernel
theorem dX0_turn_32 : decode cX0_turn 32 = .ok (.aload_n 1, 1) := by decide +kernel
theorem dX0_turn_33 : decode cX0_turn 33 = .ok (.getfield 149, 3) := by decide +kernel
theorem dX0_turn_36 : decode cX0_turn 36 = .ok (.getfield 118, 3) := by decide +kernel
theorem dX0_turn_39 : decode cX0_turn 39 = .ok (.ifCond .eq 9, 3) := by decide +kernel
theorem dX0_turn_42 : decode cX0_turn 42 = .ok (.aload_n 0, 1) := by decide +kernel
theorem dX0_turn_43 : decode cX0_turn 43 = .ok (.aload_n 1, 1) := by decide +kernel
theorem dX0_turn_44 : decode cX0_turn 44 = .ok (.aload_n 2, 1) := by decide +kernel
theorem dX0_turn_45 : decode cX0_turn 45 = .ok (.invokevirtual 152, 3) := by decide +kernel
theorem dX0_turn_48 : decode cX0_turn 48 = .ok (.aload_n 1, 1) := by decide +kernel
theorem dX0_turn_49 : decode cX0_turn 49 = .ok (.getfield 86, 3) := by decide +kernel
theorem dX0_turn_52 : decode cX0_turn 52 = .ok (.iconst 0, 1) := by decide +kernel
theorem dX0_turn_53 : decode cX0_turn 53 = .ok (.aload_n 2, 1) := by decide +kernel
theorem dX0_turn_54 : decode cX0_turn 54 = .ok (.getfield 80, 3) := by decide +kernel
theorem dX0_turn_57 : decode cX0_turn 57 = .ok (.iconst 0, 1) := by decide +kernel
theorem dX0_turn_58 : decode cX0_turn 58 = .ok (.bipush 6, 2) := by decide +kernel
theorem dX0_turn_60 : decode cX0_turn 60 = .ok (.invokestatic 155, 3) := by decide +kernel
theorem dX0_turn_63 : decode cX0_turn 63 = .ok (.aload_n 2, 1) := by decide +kernel
theorem dX0_turn_64 : decode cX0_turn 64 = .ok (.iconst 0, 1) := by decide +kernel
theorem dX0_turn_65 : decode cX0_turn 65 = .ok (.putfield 69, 3) := by decide +kernel
theorem dX0_turn_68 : decode cX0_turn 68 = .ok (.aload_n 2, 1) := by decide +kernel
theorem dX0_turn_69 : decode cX0_turn 69 = .ok (.dup, 1) := by decide +kernel
theorem dX0_turn_70 : decode cX0_turn 70 = .ok (.getfield 64, 3) := by decide +kernel
theorem dX0_turn_73 : decode cX0_turn 73 = .ok (.iconst 1, 1) := by decide +kernel
theorem dX0_turn_74 : decode cX0_turn 74 = .ok (.iadd, 1) := by decide +kernel
theorem dX0_turn_75 : decode cX0_turn 75 = .ok (.putfield 64, 3) := by decide +kernel
theorem dX0_turn_78 : decode cX0_turn 78 = .ok (.return_, 1) := by decide +kernel
theorem dX0_addInterest_0 : decode cX0_addInterest 0 = .ok (.aload_n 0, 1) := by decide +kernel
theorem dX0_addInterest_1 : decode cX0_addInterest 1 = .ok (.getfield 11, 3) := by decide +kernel
theorem dX0_addInterest_4 : decode cX0_addInterest 4 = .ok (.iconst 0, 1) := by decide +kernel
theorem dX0_addInterest_5 : decode cX0_addInterest 5 = .ok (.invokestatic 92, 3) := by decide +kernel
theorem dX0_addInterest_8 : decode cX0_addInterest 8 = .ok (.aload_n 0, 1) := by decide +kernel
theorem dX0_addInterest_9 : decode cX0_addInterest 9 = .ok (.getfield 11, 3) := by decide +kernel
theorem dX0_addInterest_12 : decode cX0_addInterest 12 = .ok (.iconst 1, 1) := by decide +kernel
theorem dX0_addInterest_13 : decode cX0_addInterest 13 = .ok (.aload_n 2, 1) := by decide +kernel
theorem dX0_addInterest_14 : decode cX0_addInterest 14 = .ok (.getfield 64, 3) := by decide +kernel
theorem dX0_addInterest_17 : decode cX0_addInterest 17 = .ok (.iastore, 1) := by decide +kernel
theorem dX0_addInterest_18 : decode cX0_addInterest 18 = .ok (.iconst 0, 1) := by decide +kernel
theorem dX0_addInterest_19 : decode cX0_addInterest 19 = .ok (.istore_n 3, 1) := by decide +kernel
theorem dX0_addInterest_20 : decode cX0_addInterest 20 = .ok (.iload_n 3, 1) := by decide +kernel
theorem dX0_addInterest_21 : decode cX0_addInterest 21 = .ok (.aload_n 2, 1) := by decide +kernel
theorem dX0_addInterest_22 : decode cX0_addInterest 22 = .ok (.getfield 115, 3) := by decide +kernel
theorem dX0_addInterest_25 : decode cX0_addInterest 25 = .ok (.arraylength, 1) := by decide +kernel
theorem dX0_addInterest_26 : decode cX0_addInterest 26 = .ok (.if_icmp .ge 75, 3) := by decide +kernel
theorem dX0_addInterest_29 : decode cX0_addInterest 29 = .ok (.aload_n 2, 1) := by decide +kernel
theorem dX0_addInterest_30 : decode cX0_addInterest 30 = .ok (.getfield 115, 3) := by decide +kernel
theorem dX0_addInterest_33 : decode cX0_addInterest 33 = .ok (.iload_n 3, 1) := by decide +kernel
theorem dX0_addInterest_34 : decode cX0_addInterest 34 = .ok (.iaload, 1) := by decide +kernel
theorem dX0_addInterest_35 : decode cX0_addInterest 35 = .ok (.istore 4, 2) := by decide +kernel
theorem dX0_addInterest_37 : decode cX0_addInterest 37 = .ok (.iload 4, 2) := by decide +kernel
theorem dX0_addInterest_39 : decode cX0_addInterest 39 = .ok (.ifCond .le 56, 3) := by decide +kernel
theorem dX0_addInterest_42 : decode cX0_addInterest 42 = .ok (.aload_n 0, 1) := by decide +kernel
theorem dX0_addInterest_43 : decode cX0_addInterest 43 = .ok (.getfield 11, 3) := by decide +kernel
theorem dX0_addInterest_46 : decode cX0_addInterest 46 = .ok (.iconst 0, 1) := by decide +kernel
theorem dX0_addInterest_47 : decode cX0_addInterest 47 = .ok (.iload 4, 2) := by decide +kernel
theorem dX0_addInterest_49 : decode cX0_addInterest 49 = .ok (.iastore, 1) := by decide +kernel
theorem dX0_addInterest_50 : decode cX0_addInterest 50 = .ok (.iconst 0, 1) := by decide +kernel
theorem dX0_addInterest_51 : decode cX0_addInterest 51 = .ok (.aload_n 1, 1) := by decide +kernel
theorem dX0_addInterest_52 : decode cX0_addInterest 52 = .ok (.getfield 149, 3) := by decide +kernel
theorem dX0_addInterest_55 : decode cX0_addInterest 55 = .ok (.aload_n 0, 1) := by decide +kernel
theorem dX0_addInterest_56 : decode cX0_addInterest 56 = .ok (.getfield 11, 3) := by decide +kernel
theorem dX0_addInterest_59 : decode cX0_addInterest 59 = .ok (.invokevirtual 121, 3) := by decide +kernel
theorem dX0_addInterest_62 : decode cX0_addInterest 62 = .ok (.invokestatic 130, 3) := by decide +kernel
theorem dX0_addInterest_65 : decode cX0_addInterest 65 = .ok (.istore 5, 2) := by decide +kernel
theorem dX0_addInterest_67 : decode cX0_addInterest 67 = .ok (.aload_n 2, 1) := by decide +kernel
theorem dX0_addInterest_68 : decode cX0_addInterest 68 = .ok (.getfield 115, 3) := by decide +kernel
theorem dX0_addInterest_71 : decode cX0_addInterest 71 = .ok (.iload_n 3, 1) := by decide +kernel
theorem dX0_addInterest_72 : decode cX0_addInterest 72 = .ok (.iload 5, 2) := by decide +kernel
theorem dX0_addInterest_74 : decode cX0_addInterest 74 = .ok (.sipush 9999, 3) := by decide +kernel
theorem dX0_addInterest_77 : decode cX0_addInterest 77 = .ok (.iload 4, 2) := by decide +kernel
theorem dX0_addInterest_79 : decode cX0_addInterest 79 = .ok (.isub, 1) := by decide +kernel
theorem dX0_addInterest_80 : decode cX0_addInterest 80 = .ok (.if_icmp .le 9, 3) := by decide +kernel
theorem dX0_addInterest_83 : decode cX0_addInterest 83 = .ok (.sipush 9999, 3) := by decide +kernel
theorem dX0_addInterest_86 : decode cX0_addInterest 86 = .ok (.goto 8, 3) := by decide +kernel
theorem dX0_addInterest_89 : decode cX0_addInterest 89 = .ok (.iload 4, 2) := by decide +kernel
theorem dX0_addInterest_91 : decode cX0_addInterest 91 = .ok (.iload 5, 2) := by decide +kernel
theorem dX0_addInterest_93 : decode cX0_addInterest 93 = .ok (.iadd, 1) := by decide +kernel
theorem dX0_addInterest_94 : decode cX0_addInterest 94 = .ok (.iastore, 1) := by decide +kernel
theorem dX0_addInterest_95 : decode cX0_addInterest 95 = .ok (.iinc 3 1, 3) := by decide +kernel
theorem dX0_addInterest_98 : decode cX0_addInterest 98 = .ok (.goto (-78), 3) := by decide +kernel
theorem dX0_addInterest_101 : decode cX0_addInterest 101 = .ok (.return_, 1) := by decide +kernel
theorem dX0_wetness_0 : decode cX0_wetness 0 = .ok (.aload_n 0, 1) := by decide +kernel
theorem dX0_wetness_1 : decode cX0_wetness 1 = .ok (.getfield 11, 3) := by decide +kernel
theorem dX0_wetness_4 : decode cX0_wetness 4 = .ok (.iconst 0, 1) := by decide +kernel
theorem dX0_wetness_5 : decode cX0_wetness 5 = .ok (.invokestatic 92, 3) := by decide +kernel
theorem dX0_wetness_8 : decode cX0_wetness 8 = .ok (.aload_n 0, 1) := by decide +kernel
theorem dX0_wetness_9 : decode cX0_wetness 9 = .ok (.getfield 11, 3) := by decide +kernel
theorem dX0_wetness_12 : decode cX0_wetness 12 = .ok (.iconst 1, 1) := by decide +kernel
theorem dX0_wetness_13 : decode cX0_wetness 13 = .ok (.iload_n 2, 1) := by decide +kernel
theorem dX0_wetness_14 : decode cX0_wetness 14 = .ok (.iastore, 1) := by decide +kernel
theorem dX0_wetness_15 : decode cX0_wetness 15 = .ok (.aload_n 0, 1) := by decide +kernel
theorem dX0_wetness_16 : decode cX0_wetness 16 = .ok (.getfield 11, 3) := by decide +kernel
theorem dX0_wetness_19 : decode cX0_wetness 19 = .ok (.iconst 2, 1) := by decide +kernel
theorem dX0_wetness_20 : decode cX0_wetness 20 = .ok (.iload_n 3, 1) := by decide +kernel
theorem dX0_wetness_21 : decode cX0_wetness 21 = .ok (.iastore, 1) := by decide +kernel
theorem dX0_wetness_22 : decode cX0_wetness 22 = .ok (.aload_n 1, 1) := by decide +kernel
theorem dX0_wetness_23 : decode cX0_wetness 23 = .ok (.getfield 161, 3) := by decide +kernel
theorem dX0_wetness_26 : decode cX0_wetness 26 = .ok (.getfield 118, 3) := by decide +kernel
theorem dX0_wetness_29 : decode cX0_wetness 29 = .ok (.ifCond .eq 21, 3) := by decide +kernel
theorem dX0_wetness_32 : decode cX0_wetness 32 = .ok (.aload_n 1, 1) := by decide +kernel
theorem dX0_wetness_33 : decode cX0_wetness 33 = .ok (.getfield 161, 3) := by decide +kernel
theorem dX0_wetness_36 : decode cX0_wetness 36 = .ok (.aload_n 0, 1) := by decide +kernel
theorem dX0_wetness_37 : decode cX0_wetness 37 = .ok (.getfield 11, 3) := by decide +kernel
theorem dX0_wetness_40 : decode cX0_wetness 40 = .ok (.invokevirtual 121, 3) := by decide +kernel
theorem dX0_wetness_43 : decode cX0_wetness 43 = .ok (.ifCond .eq 7, 3) := by decide +kernel
theorem dX0_wetness_46 : decode cX0_wetness 46 = .ok (.iconst 1, 1) := by decide +kernel
theorem dX0_wetness_47 : decode cX0_wetness 47 = .ok (.goto 4, 3) := by decide +kernel
theorem dX0_wetness_50 : decode cX0_wetness 50 = .ok (.iconst 0, 1) := by decide +kernel
theorem dX0_wetness_51 : decode cX0_wetness 51 = .ok (.ireturn, 1) := by decide +kernel
theorem dX1_init_0 : decode cX1_init 0 = .ok (.aload_n 0, 1) := by decide +kernel
theorem dX1_init_1 : decode cX1_init 1 = .ok (.invokespecial 3, 3) := by decide +kernel
theorem dX1_init_4 : decode cX1_init 4 = .ok (.aload_n 0, 1) := by decide +kernel
theorem dX1_init_5 : decode cX1_init 5 = .ok (.new 9, 3) := by decide +kernel
theorem dX1_init_8 : decode cX1_init 8 = .ok (.dup, 1) := by decide +kernel
theorem dX1_init_9 : decode cX1_init 9 = .ok (.invokespecial 11, 3) := by decide +kernel
theorem dX1_init_12 : decode cX1_init 12 = .ok (.putfield 12, 3) := by decide +kernel
theorem dX1_init_15 : decode cX1_init 15 = .ok (.aload_n 0, 1) := by decide +kernel
theorem dX1_init_16 : decode cX1_init 16 = .ok (.new 18, 3) := by decide +kernel
theorem dX1_init_19 : decode cX1_init 19 = .ok (.dup, 1) := by decide +kernel
theorem dX1_init_20 : decode cX1_init 20 = .ok (.invokespecial 20, 3) := by decide +kernel
theorem dX1_init_23 : decode cX1_init 23 = .ok (.putfield 21, 3) := by decide +kernel
theorem dX1_init_26 : decode cX1_init 26 = .ok (.aload_n 0, 1) := by decide +kernel
theorem dX1_init_27 : decode cX1_init 27 = .ok (.new 18, 3) := by decide +kernel
theorem dX1_init_30 : decode cX1_init 30 = .ok (.dup, 1) := by decide +kernel
theorem dX1_init_31 : decode cX1_init 31 = .ok (.invokespecial 20, 3) := by decide +kernel
theorem dX1_init_34 : decode cX1_init 34 = .ok (.putfield 25, 3) := by decide +kernel
theorem dX1_init_37 : decode cX1_init 37 = .ok (.aload_n 0, 1) := by decide +kernel
theorem dX1_init_38 : decode cX1_init 38 = .ok (.bipush 60, 2) := by decide +kernel
theorem dX1_init_40 : decode cX1_init 40 = .ok (.newarray .int, 2) := by decide +kernel
theorem dX1_init_42 : decode cX1_init 42 = .ok (.putfield 28, 3) := by decide +kernel
theorem dX1_init_45 : decode cX1_init 45 = .ok (.return_, 1) := by decide +kernel
theorem dX1_payOfNextHour_0 : decode cX1_payOfNextHour 0 = .ok (.aload_n 0, 1) := by decide +kernel
theorem dX1_payOfNextHour_1 : decode cX1_payOfNextHour 1 = .ok (.aload_n 1, 1) := by decide +kernel
theorem dX1_payOfNextHour_2 : decode cX1_payOfNextHour 2 = .ok (.aload_n 2, 1) := by decide +kernel
theorem dX1_payOfNextHour_3 : decode cX1_payOfNextHour 3 = .ok (.iconst 1, 1) := by decide +kernel
theorem dX1_payOfNextHour_4 : decode cX1_payOfNextHour 4 = .ok (.invokevirtual 32, 3) := by decide +kernel
theorem dX1_payOfNextHour_7 : decode cX1_payOfNextHour 7 = .ok (.aload_n 0, 1) := by decide +kernel
theorem dX1_payOfNextHour_8 : decode cX1_payOfNextHour 8 = .ok (.getfield 12, 3) := by decide +kernel
theorem dX1_payOfNextHour_11 : decode cX1_payOfNextHour 11 = .ok (.getfield 36, 3) := by decide +kernel
theorem dX1_payOfNextHour_14 : decode cX1_payOfNextHour 14 = .ok (.iload_n 3, 1) := by decide +kernel
theorem dX1_payOfNextHour_15 : decode cX1_payOfNextHour 15 = .ok (.iaload, 1) := by decide +kernel
theorem dX1_payOfNextHour_16 : decode cX1_payOfNextHour 16 = .ok (.ireturn, 1) := by decide +kernel
theorem dX1_owedBehind_0 : decode cX1_owedBehind 0 = .ok (.aload_n 0, 1) := by decide +kernel
theorem dX1_owedBehind_1 : decode cX1_owedBehind 1 = .ok (.aload_n 1, 1) := by decide +kernel
theorem dX1_owedBehind_2 : decode cX1_owedBehind 2 = .ok (.aload_n 2, 1) := by decide +kernel
theorem dX1_owedBehind_3 : decode cX1_owedBehind 3 = .ok (.iload 4, 2) := by decide +kernel
theorem dX1_owedBehind_5 : decode cX1_owedBehind 5 = .ok (.invokevirtual 32, 3) := by decide +kernel
theorem dX1_owedBehind_8 : decode cX1_owedBehind 8 = .ok (.aload_n 0, 1) := by decide +kernel
theorem dX1_owedBehind_9 : decode cX1_owedBehind 9 = .ok (.getfield 21, 3) := by decide +kernel
theorem dX1_owedBehind_12 : decode cX1_owedBehind 12 = .ok (.getfield 39, 3) := by decide +kernel
theorem dX1_owedBehind_15 : decode cX1_owedBehind 15 = .ok (.iload_n 3, 1) := by decide +kernel
theorem dX1_owedBehind_16 : decode cX1_owedBehind 16 = .ok (.iaload, 1) := by decide +kernel
theorem dX1_owedBehind_17 : decode cX1_owedBehind 17 = .ok (.ireturn, 1) := by decide +kernel
theorem dX1_lookAhead_0 : decode cX1_lookAhead 0 = .ok (.aload_n 0, 1) := by decide +kernel
theorem dX1_lookAhead_1 : decode cX1_lookAhead 1 = .ok (.getfield 21, 3) := by decide +kernel
theorem dX1_lookAhead_4 : decode cX1_lookAhead 4 = .ok (.aload_n 2, 1) := by decide +kernel
theorem dX1_lookAhead_5 : decode cX1_lookAhead 5 = .ok (.invokevirtual 42, 3) := by decide +kernel
theorem dX1_lookAhead_8 : decode cX1_lookAhead 8 = .ok (.iconst 0, 1) := by decide +kernel
theorem dX1_lookAhead_9 : decode cX1_lookAhead 9 = .ok (.istore 4, 2) := by decide +kernel
theorem dX1_lookAhead_11 : decode cX1_lookAhead 11 = .ok (.iload 4, 2) := by decide +kernel
theorem dX1_lookAhead_13 : decode cX1_lookAhead 13 = .ok (.iload_n 3, 1) := by decide +kernel
theorem dX1_lookAhead_14 : decode cX1_lookAhead 14 = .ok (.if_icmp .ge 22, 3) := by decide +kernel
theorem dX1_lookAhead_17 : decode cX1_lookAhead 17 = .ok (.aload_n 0, 1) := by decide +kernel
theorem dX1_lookAhead_18 : decode cX1_lookAhead 18 = .ok (.getfield 12, 3) := by decide +kernel
theorem dX1_lookAhead_21 : decode cX1_lookAhead 21 = .ok (.aload_n 1, 1) := by decide +kernel
theorem dX1_lookAhead_22 : decode cX1_lookAhead 22 = .ok (.aload_n 0, 1) := by decide +kernel
theorem dX1_lookAhead_23 : decode cX1_lookAhead 23 = .ok (.getfield 21, 3) := by decide +kernel
theorem dX1_lookAhead_26 : decode cX1_lookAhead 26 = .ok (.invokevirtual 46, 3) := by decide +kernel
theorem dX1_lookAhead_29 : decode cX1_lookAhead 29 = .ok (.pop, 1) := by decide +kernel
theorem dX1_lookAhead_30 : decode cX1_lookAhead 30 = .ok (.iinc 4 1, 3) := by decide +kernel
theorem dX1_lookAhead_33 : decode cX1_lookAhead 33 = .ok (.goto (-22), 3) := by decide +kernel
theorem dX1_lookAhead_36 : decode cX1_lookAhead 36 = .ok (.return_, 1) := by decide +kernel
theorem dX1_hoursTillPaid_0 : decode cX1_hoursTillPaid 0 = .ok (.aload_n 0, 1) := by decide +kernel
theorem dX1_hoursTillPaid_1 : decode cX1_hoursTillPaid 1 = .ok (.getfield 21, 3) := by decide +kernel
theorem dX1_hoursTillPaid_4 : decode cX1_hoursTillPaid 4 = .ok (.aload_n 2, 1) := by decide +kernel
theorem dX1_hoursTillPaid_5 : decode cX1_hoursTillPaid 5 = .ok (.invokevirtual 42, 3) := by decide +kernel
theorem dX1_hoursTillPaid_8 : decode cX1_hoursTillPaid 8 = .ok (.aload_n 0, 1) := by decide +kernel
theorem dX1_hoursTillPaid_9 : decode cX1_hoursTillPaid 9 = .ok (.aload_n 1, 1) := by decide +kernel
theorem dX1_hoursTillPaid_10 : decode cX1_hoursTillPaid 10 = .ok (.iload_n 3, 1) := by decide +kernel
theorem dX1_hoursTillPaid_11 : decode cX1_hoursTillPaid 11 = .ok (.invokevirtual 50, 3) := by decide +kernel
theorem dX1_hoursTillPaid_14 : decode cX1_hoursTillPaid 14 = .ok (.ireturn, 1) := by decide +kernel
theorem dX1_hoursOfTrial_0 : decode cX1_hoursOfTrial 0 = .ok (.iconst 0, 1) := by decide +kernel
theorem dX1_hoursOfTrial_1 : decode cX1_hoursOfTrial 1 = .ok (.istore_n 3, 1) := by decide +kernel
theorem dX1_hoursOfTrial_2 : decode cX1_hoursOfTrial 2 = .ok (.iload_n 3, 1) := by decide +kernel
theorem dX1_hoursOfTrial_3 : decode cX1_hoursOfTrial 3 = .ok (.sipush 200, 3) := by decide +kernel
theorem dX1_hoursOfTrial_6 : decode cX1_hoursOfTrial 6 = .ok (.if_icmp .ge 36, 3) := by decide +kernel
theorem dX1_hoursOfTrial_9 : decode cX1_hoursOfTrial 9 = .ok (.aload_n 0, 1) := by decide +kernel
theorem dX1_hoursOfTrial_10 : decode cX1_hoursOfTrial 10 = .ok (.getfield 21, 3) := by decide +kernel
theorem dX1_hoursOfTrial_13 : decode cX1_hoursOfTrial 13 = .ok (.getfield 39, 3) := by decide +kernel
theorem dX1_hoursOfTrial_16 : decode cX1_hoursOfTrial 16 = .ok (.iload_n 2, 1) := by decide +kernel
theorem dX1_hoursOfTrial_17 : decode cX1_hoursOfTrial 17 = .ok (.iaload, 1) := by decide +kernel
theorem dX1_hoursOfTrial_18 : decode cX1_hoursOfTrial 18 = .ok (.ifCond .ne 5, 3) := by decide +kernel
theorem dX1_hoursOfTrial_21 : decode cX1_hoursOfTrial 21 = .ok (.iload_n 3, 1) := by decide +kernel
theorem dX1_hoursOfTrial_22 : decode cX1_hoursOfTrial 22 = .ok (.ireturn, 1) := by decide +kernel
theorem dX1_hoursOfTrial_23 : decode cX1_hoursOfTrial 23 = .ok (.aload_n 0, 1) := by decide +kernel
theorem dX1_hoursOfTrial_24 : decode cX1_hoursOfTrial 24 = .ok (.getfield 12, 3) := by decide +kernel
theorem dX1_hoursOfTrial_27 : decode cX1_hoursOfTrial 27 = .ok (.aload_n 1, 1) := by decide +kernel
theorem dX1_hoursOfTrial_28 : decode cX1_hoursOfTrial 28 = .ok (.aload_n 0, 1) := by decide +kernel
theorem dX1_hoursOfTrial_29 : decode cX1_hoursOfTrial 29 = .ok (.getfield 21, 3) := by decide +kernel
theorem dX1_hoursOfTrial_32 : decode cX1_hoursOfTrial 32 = .ok (.invokevirtual 46, 3) := by decide +kernel
theorem dX1_hoursOfTrial_35 : decode cX1_hoursOfTrial 35 = .ok (.pop, 1) := by decide +kernel
theorem dX1_hoursOfTrial_36 : decode cX1_hoursOfTrial 36 = .ok (.iinc 3 1, 3) := by decide +kernel
theorem dX1_hoursOfTrial_39 : decode cX1_hoursOfTrial 39 = .ok (.goto (-37), 3) := by decide +kernel
theorem dX1_hoursOfTrial_42 : decode cX1_hoursOfTrial 42 = .ok (.aload_n 0, 1) := by decide +kernel
theorem dX1_hoursOfTrial_43 : decode cX1_hoursOfTrial 43 = .ok (.getfield 21, 3) := by decide +kernel
theorem dX1_hoursOfTrial_46 : decode cX1_hoursOfTrial 46 = .ok (.getfield 39, 3) := by decide +kernel
theorem dX1_hoursOfTrial_49 : decode cX1_hoursOfTrial 49 = .ok (.iload_n 2, 1) := by decide +kernel
theorem dX1_hoursOfTrial_50 : decode cX1_hoursOfTrial 50 = .ok (.iaload, 1) := by decide +kernel
theorem dX1_hoursOfTrial_51 : decode cX1_hoursOfTrial 51 = .ok (.ifCond .ne 9, 3) := by decide +kernel
theorem dX1_hoursOfTrial_54 : decode cX1_hoursOfTrial 54 = .ok (.sipush 200, 3) := by decide +kernel
theorem dX1_hoursOfTrial_57 : decode cX1_hoursOfTrial 57 = .ok (.goto 4, 3) := by decide +kernel
theorem dX1_hoursOfTrial_60 : decode cX1_hoursOfTrial 60 = .ok (.iconst (-1), 1) := by decide +kernel
theorem dX1_hoursOfTrial_61 : decode cX1_hoursOfTrial 61 = .ok (.ireturn, 1) := by decide +kernel
theorem dX1_findThrong_0 : decode cX1_findThrong 0 = .ok (.aload_n 0, 1) := by decide +kernel
theorem dX1_findThrong_1 : decode cX1_findThrong 1 = .ok (.iconst 0, 1) := by decide +kernel
theorem dX1_findThrong_2 : decode cX1_findThrong 2 = .ok (.putfield 54, 3) := by decide +kernel
theorem dX1_findThrong_5 : decode cX1_findThrong 5 = .ok (.aload_n 0, 1) := by decide +kernel
theorem dX1_findThrong_6 : decode cX1_findThrong 6 = .ok (.iconst (-1), 1) := by decide +kernel
theorem dX1_findThrong_7 : decode cX1_findThrong 7 = .ok (.putfield 58, 3) := by decide +kernel
theorem dX1_findThrong_10 : decode cX1_findThrong 10 = .ok (.aload_n 0, 1) := by decide +kernel
theorem dX1_findThrong_11 : decode cX1_findThrong 11 = .ok (.getfield 21, 3) := by decide +kernel
theorem dX1_findThrong_14 : decode cX1_findThrong 14 = .ok (.aload_n 2, 1) := by decide +kernel
theorem dX1_findThrong_15 : decode cX1_findThrong 15 = .ok (.invokevirtual 42, 3) := by decide +kernel
theorem dX1_findThrong_18 : decode cX1_findThrong 18 = .ok (.iconst 1, 1) := by decide +kernel
theorem dX1_findThrong_19 : decode cX1_findThrong 19 = .ok (.istore 5, 2) := by decide +kernel
theorem dX1_findThrong_21 : decode cX1_findThrong 21 = .ok (.iload 5, 2) := by decide +kernel
theorem dX1_findThrong_23 : decode cX1_findThrong 23 = .ok (.iload 4, 2) := by decide +kernel
theorem dX1_findThrong_25 : decode cX1_findThrong 25 = .ok (.if_icmp .gt 57, 3) := by decide +kernel
theorem dX1_findThrong_28 : decode cX1_findThrong 28 = .ok (.aload_n 0, 1) := by decide +kernel
theorem dX1_findThrong_29 : decode cX1_findThrong 29 = .ok (.getfield 12, 3) := by decide +kernel
theorem dX1_findThrong_32 : decode cX1_findThrong 32 = .ok (.aload_n 1, 1) := by decide +kernel
theorem dX1_findThrong_33 : decode cX1_findThrong 33 = .ok (.aload_n 0, 1) := by decide +kernel
theorem dX1_findThrong_34 : decode cX1_findThrong 34 = .ok (.getfield 21, 3) := by decide +kernel
theorem dX1_findThrong_37 : decode cX1_findThrong 37 = .ok (.invokevirtual 46, 3) := by decide +kernel
theorem dX1_findThrong_40 : decode cX1_findThrong 40 = .ok (.pop, 1) := by decide +kernel
theorem dX1_findThrong_41 : decode cX1_findThrong 41 = .ok (.aload_n 0, 1) := by decide +kernel
theorem dX1_findThrong_42 : decode cX1_findThrong 42 = .ok (.getfield 12, 3) := by decide +kernel
theorem dX1_findThrong_45 : decode cX1_findThrong 45 = .ok (.getfield 61, 3) := by decide +kernel
theorem dX1_findThrong_48 : decode cX1_findThrong 48 = .ok (.iload_n 3, 1) := by decide +kernel
theorem dX1_findThrong_49 : decode cX1_findThrong 49 = .ok (.iaload, 1) := by decide +kernel
theorem dX1_findThrong_50 : decode cX1_findThrong 50 = .ok (.aload_n 0, 1) := by decide +kernel
theorem dX1_findThrong_51 : decode cX1_findThrong 51 = .ok (.getfield 54, 3) := by decide +kernel
theorem dX1_findThrong_54 : decode cX1_findThrong 54 = .ok (.if_icmp .le 22, 3) := by decide +kernel
theorem dX1_findThrong_57 : decode cX1_findThrong 57 = .ok (.aload_n 0, 1) := by decide +kernel
theorem dX1_findThrong_58 : decode cX1_findThrong 58 = .ok (.aload_n 0, 1) := by decide +kernel
theorem dX1_findThrong_59 : decode cX1_findThrong 59 = .ok (.getfield 12, 3) := by decide +kernel
theorem dX1_findThrong_62 : decode cX1_findThrong 62 = .ok (.getfield 61, 3) := by decide +kernel
theorem dX1_findThrong_65 : decode cX1_findThrong 65 = .ok (.iload_n 3, 1) := by decide +kernel
theorem dX1_findThrong_66 : decode cX1_findThrong 66 = .ok (.iaload, 1) := by decide +kernel
theorem dX1_findThrong_67 : decode cX1_findThrong 67 = .ok (.putfield 54, 3) := by decide +kernel
theorem dX1_findThrong_70 : decode cX1_findThrong 70 = .ok (.aload_n 0, 1) := by decide +kernel
theorem dX1_findThrong_71 : decode cX1_findThrong 71 = .ok (.iload 5, 2) := by decide +kernel
theorem dX1_findThrong_73 : decode cX1_findThrong 73 = .ok (.putfield 58, 3) := by decide +kernel
theorem dX1_findThrong_76 : decode cX1_findThrong 76 = .ok (.iinc 5 1, 3) := by decide +kernel
theorem dX1_findThrong_79 : decode cX1_findThrong 79 = .ok (.goto (-58), 3) := by decide +kernel
theorem dX1_findThrong_82 : decode cX1_findThrong 82 = .ok (.return_, 1) := by decide +kernel
theorem dX1_hourOfMeeting_0 : decode cX1_hourOfMeeting 0 = .ok (.aload_n 2, 1) := by decide +kernel
theorem dX1_hourOfMeeting_1 : decode cX1_hourOfMeeting 1 = .ok (.getfield 64, 3) := by decide +kernel
theorem dX1_hourOfMeeting_4 : decode cX1_hourOfMeeting 4 = .ok (.iload_n 3, 1) := by decide +kernel
theorem dX1_hourOfMeeting_5 : decode cX1_hourOfMeeting 5 = .ok (.iaload, 1) := by decide +kernel
theorem dX1_hourOfMeeting_6 : decode cX1_hourOfMeeting 6 = .ok (.iload 4, 2) := by decide +kernel
theorem dX1_hourOfMeeting_8 : decode cX1_hourOfMeeting 8 = .ok (.if_icmp .ne 14, 3) := by decide +kernel
theorem dX1_hourOfMeeting_11 : decode cX1_hourOfMeeting 11 = .ok (.aload_n 2, 1) := by decide +kernel
theorem dX1_hourOfMeeting_12 : decode cX1_hourOfMeeting 12 = .ok (.getfield 64, 3) := by decide +kernel
theorem dX1_hourOfMeeting_15 : decode cX1_hourOfMeeting 15 = .ok (.iload 4, 2) := by decide +kernel
theorem dX1_hourOfMeeting_17 : decode cX1_hourOfMeeting 17 = .ok (.iaload, 1) := by decide +kernel
theorem dX1_hourOfMeeting_18 : decode cX1_hourOfMeeting 18 = .ok (.iload_n 3, 1) := by decide +kernel
theorem dX1_hourOfMeeting_19 : decode cX1_hourOfMeeting 19 = .ok (.if_icmp .eq 5, 3) := by decide +kernel
theorem dX1_hourOfMeeting_22 : decode cX1_hourOfMeeting 22 = .ok (.iconst (-1), 1) := by decide +kernel
theorem dX1_hourOfMeeting_23 : decode cX1_hourOfMeeting 23 = .ok (.ireturn, 1) := by decide +kernel
theorem dX1_hourOfMeeting_24 : decode cX1_hourOfMeeting 24 = .ok (.aload_n 0, 1) := by decide +kernel
theorem dX1_hourOfMeeting_25 : decode cX1_hourOfMeeting 25 = .ok (.getfield 21, 3) := by decide +kernel
theorem dX1_hourOfMeeting_28 : decode cX1_hourOfMeeting 28 = .ok (.aload_n 2, 1) := by decide +kernel
theorem dX1_hourOfMeeting_29 : decode cX1_hourOfMeeting 29 = .ok (.invokevirtual 42, 3) := by decide +kernel
theorem dX1_hourOfMeeting_32 : decode cX1_hourOfMeeting 32 = .ok (.iconst 1, 1) := by decide +kernel
theorem dX1_hourOfMeeting_33 : decode cX1_hourOfMeeting 33 = .ok (.istore 6, 2) := by decide +kernel
theorem dX1_hourOfMeeting_35 : decode cX1_hourOfMeeting 35 = .ok (.iload 6, 2) := by decide +kernel
theorem dX1_hourOfMeeting_37 : decode cX1_hourOfMeeting 37 = .ok (.iload 5, 2) := by decide +kernel
theorem dX1_hourOfMeeting_39 : decode cX1_hourOfMeeting 39 = .ok (.if_icmp .gt 31, 3) := by decide +kernel
theorem dX1_hourOfMeeting_42 : decode cX1_hourOfMeeting 42 = .ok (.aload_n 0, 1) := by decide +kernel
theorem dX1_hourOfMeeting_43 : decode cX1_hourOfMeeting 43 = .ok (.getfield 12, 3) := by decide +kernel
theorem dX1_hourOfMeeting_46 : decode cX1_hourOfMeeting 46 = .ok (.aload_n 1, 1) := by decide +kernel
theorem dX1_hourOfMeeting_47 : decode cX1_hourOfMeeting 47 = .ok (.aload_n 0, 1) := by decide +kernel
theorem dX1_hourOfMeeting_48 : decode cX1_hourOfMeeting 48 = .ok (.getfield 21, 3) := by decide +kernel
theorem dX1_hourOfMeeting_51 : decode cX1_hourOfMeeting 51 = .ok (.invokevirtual 46, 3) := by decide +kernel
theorem dX1_hourOfMeeting_54 : decode cX1_hourOfMeeting 54 = .ok (.iload_n 3, 1) := by decide +kernel
theorem dX1_hourOfMeeting_55 : decode cX1_hourOfMeeting 55 = .ok (.invokestatic 67, 3) := by decide +kernel
theorem dX1_hourOfMeeting_58 : decode cX1_hourOfMeeting 58 = .ok (.ifCond .eq 6, 3) := by decide +kernel
theorem dX1_hourOfMeeting_61 : decode cX1_hourOfMeeting 61 = .ok (.iload 6, 2) := by decide +kernel
theorem dX1_hourOfMeeting_63 : decode cX1_hourOfMeeting 63 = .ok (.ireturn, 1) := by decide +kernel
theorem dX1_hourOfMeeting_64 : decode cX1_hourOfMeeting 64 = .ok (.iinc 6 1, 3) := by decide +kernel
theorem dX1_hourOfMeeting_67 : decode cX1_hourOfMeeting 67 = .ok (.goto (-32), 3) := by decide +kernel
theorem dX1_hourOfMeeting_70 : decode cX1_hourOfMeeting 70 = .ok (.iconst (-1), 1) := by decide +kernel
theorem dX1_hourOfMeeting_71 : decode cX1_hourOfMeeting 71 = .ok (.ireturn, 1) := by decide +kernel
theorem dX1_findHelper_0 : decode cX1_findHelper 0 = .ok (.aload_n 0, 1) := by decide +kernel
theorem dX1_findHelper_1 : decode cX1_findHelper 1 = .ok (.iconst (-1), 1) := by decide +kernel
theorem dX1_findHelper_2 : decode cX1_findHelper 2 = .ok (.putfield 54, 3) := by decide +kernel
theorem dX1_findHelper_5 : decode cX1_findHelper 5 = .ok (.aload_n 0, 1) := by decide +kernel
theorem dX1_findHelper_6 : decode cX1_findHelper 6 = .ok (.iconst (-1), 1) := by decide +kernel
theorem dX1_findHelper_7 : decode cX1_findHelper 7 = .ok (.putfield 58, 3) := by decide +kernel
theorem dX1_findHelper_10 : decode cX1_findHelper 10 = .ok (.iconst 0, 1) := by decide +kernel
theorem dX1_findHelper_11 : decode cX1_findHelper 11 = .ok (.istore 5, 2) := by decide +kernel
theorem dX1_findHelper_13 : decode cX1_findHelper 13 = .ok (.iload 5, 2) := by decide +kernel
theorem dX1_findHelper_15 : decode cX1_findHelper 15 = .ok (.aload_n 1, 1) := by decide +kernel
theorem dX1_findHelper_16 : decode cX1_findHelper 16 = .ok (.getfield 71, 3) := by decide +kernel
theorem dX1_findHelper_19 : decode cX1_findHelper 19 = .ok (.if_icmp .ge 98, 3) := by decide +kernel
theorem dX1_findHelper_22 : decode cX1_findHelper 22 = .ok (.iload 5, 2) := by decide +kernel
theorem dX1_findHelper_24 : decode cX1_findHelper 24 = .ok (.iload 4, 2) := by decide +kernel
theorem dX1_findHelper_26 : decode cX1_findHelper 26 = .ok (.if_icmp .ne 6, 3) := by decide +kernel
theorem dX1_findHelper_29 : decode cX1_findHelper 29 = .ok (.goto 82, 3) := by decide +kernel
theorem dX1_findHelper_32 : decode cX1_findHelper 32 = .ok (.aload_n 0, 1) := by decide +kernel
theorem dX1_findHelper_33 : decode cX1_findHelper 33 = .ok (.getfield 21, 3) := by decide +kernel
theorem dX1_findHelper_36 : decode cX1_findHelper 36 = .ok (.aload_n 2, 1) := by decide +kernel
theorem dX1_findHelper_37 : decode cX1_findHelper 37 = .ok (.invokevirtual 42, 3) := by decide +kernel
theorem dX1_findHelper_40 : decode cX1_findHelper 40 = .ok (.aload_n 0, 1) := by decide +kernel
theorem dX1_findHelper_41 : decode cX1_findHelper 41 = .ok (.getfield 21, 3) := by decide +kernel
theorem dX1_findHelper_44 : decode cX1_findHelper 44 = .ok (.getfield 64, 3) := by decide +kernel
theorem dX1_findHelper_47 : decode cX1_findHelper 47 = .ok (.iload 5, 2) := by decide +kernel
theorem dX1_findHelper_49 : decode cX1_findHelper 49 = .ok (.iload 4, 2) := by decide +kernel
theorem dX1_findHelper_51 : decode cX1_findHelper 51 = .ok (.iastore, 1) := by decide +kernel
theorem dX1_findHelper_52 : decode cX1_findHelper 52 = .ok (.aload_n 0, 1) := by decide +kernel
theorem dX1_findHelper_53 : decode cX1_findHelper 53 = .ok (.getfield 21, 3) := by decide +kernel
theorem dX1_findHelper_56 : decode cX1_findHelper 56 = .ok (.getfield 76, 3) := by decide +kernel
theorem dX1_findHelper_59 : decode cX1_findHelper 59 = .ok (.iload 5, 2) := by decide +kernel
theorem dX1_findHelper_61 : decode cX1_findHelper 61 = .ok (.iload_n 3, 1) := by decide +kernel
theorem dX1_findHelper_62 : decode cX1_findHelper 62 = .ok (.iastore, 1) := by decide +kernel
theorem dX1_findHelper_63 : decode cX1_findHelper 63 = .ok (.aload_n 0, 1) := by decide +kernel
theorem dX1_findHelper_64 : decode cX1_findHelper 64 = .ok (.aload_n 1, 1) := by decide +kernel
theorem dX1_findHelper_65 : decode cX1_findHelper 65 = .ok (.iload_n 3, 1) := by decide +kernel
theorem dX1_findHelper_66 : decode cX1_findHelper 66 = .ok (.iload 4, 2) := by decide +kernel
theorem dX1_findHelper_68 : decode cX1_findHelper 68 = .ok (.invokestatic 79, 3) := by decide +kernel
theorem dX1_findHelper_71 : decode cX1_findHelper 71 = .ok (.invokevirtual 50, 3) := by decide +kernel
theorem dX1_findHelper_74 : decode cX1_findHelper 74 = .ok (.istore 6, 2) := by decide +kernel
theorem dX1_findHelper_76 : decode cX1_findHelper 76 = .ok (.iload 6, 2) := by decide +kernel
theorem dX1_findHelper_78 : decode cX1_findHelper 78 = .ok (.iconst (-1), 1) := by decide +kernel
theorem dX1_findHelper_79 : decode cX1_findHelper 79 = .ok (.if_icmp .eq 32, 3) := by decide +kernel
theorem dX1_findHelper_82 : decode cX1_findHelper 82 = .ok (.aload_n 0, 1) := by decide +kernel
theorem dX1_findHelper_83 : decode cX1_findHelper 83 = .ok (.getfield 54, 3) := by decide +kernel
theorem dX1_findHelper_86 : decode cX1_findHelper 86 = .ok (.iconst (-1), 1) := by decide +kernel
theorem dX1_findHelper_87 : decode cX1_findHelper 87 = .ok (.if_icmp .eq 12, 3) := by decide +kernel
theorem dX1_findHelper_90 : decode cX1_findHelper 90 = .ok (.iload 6, 2) := by decide +kernel
theorem dX1_findHelper_92 : decode cX1_findHelper 92 = .ok (.aload_n 0, 1) := by decide +kernel
theorem dX1_findHelper_93 : decode cX1_findHelper 93 = .ok (.getfield 54, 3) := by decide +kernel
theorem dX1_findHelper_96 : decode cX1_findHelper 96 = .ok (.if_icmp .ge 15, 3) := by decide +kernel
theorem dX1_findHelper_99 : decode cX1_findHelper 99 = .ok (.aload_n 0, 1) := by decide +kernel
theorem dX1_findHelper_100 : decode cX1_findHelper 100 = .ok (.iload 6, 2) := by decide +kernel
theorem dX1_findHelper_102 : decode cX1_findHelper 102 = .ok (.putfield 54, 3) := by decide +kernel
theorem dX1_findHelper_105 : decode cX1_findHelper 105 = .ok (.aload_n 0, 1) := by decide +kernel
theorem dX1_findHelper_106 : decode cX1_findHelper 106 = .ok (.iload 5, 2) := by decide +kernel
theorem dX1_findHelper_108 : decode cX1_findHelper 108 = .ok (.putfield 58, 3) := by decide +kernel
theorem dX1_findHelper_111 : decode cX1_findHelper 111 = .ok (.iinc 5 1, 3) := by decide +kernel
theorem dX1_findHelper_114 : decode cX1_findHelper 114 = .ok (.goto (-101), 3) := by decide +kernel
theorem dX1_findHelper_117 : decode cX1_findHelper 117 = .ok (.return_, 1) := by decide +kernel
theorem dX1_findHiding_0 : decode cX1_findHiding 0 = .ok (.aload_n 1, 1) := by decide +kernel
theorem dX1_findHiding_1 : decode cX1_findHiding 1 = .ok (.getfield 83, 3) := by decide +kernel
theorem dX1_findHiding_4 : decode cX1_findHiding 4 = .ok (.iload_n 3, 1) := by decide +kernel
theorem dX1_findHiding_5 : decode cX1_findHiding 5 = .ok (.iaload, 1) := by decide +kernel
theorem dX1_findHiding_6 : decode cX1_findHiding 6 = .ok (.istore 5, 2) := by decide +kernel
theorem dX1_findHiding_8 : decode cX1_findHiding 8 = .ok (.aload_n 1, 1) := by decide +kernel
theorem dX1_findHiding_9 : decode cX1_findHiding 9 = .ok (.getfield 86, 3) := by decide +kernel
theorem dX1_findHiding_12 : decode cX1_findHiding 12 = .ok (.iload_n 3, 1) := by decide +kernel
theorem dX1_findHiding_13 : decode cX1_findHiding 13 = .ok (.iaload, 1) := by decide +kernel
theorem dX1_findHiding_14 : decode cX1_findHiding 14 = .ok (.istore 6, 2) := by decide +kernel
theorem dX1_findHiding_16 : decode cX1_findHiding 16 = .ok (.aload_n 0, 1) := by decide +kernel
theorem dX1_findHiding_17 : decode cX1_findHiding 17 = .ok (.aload_n 1, 1) := by decide +kernel
theorem dX1_findHiding_18 : decode cX1_findHiding 18 = .ok (.aload_n 2, 1) := by decide +kernel
theorem dX1_findHiding_19 : decode cX1_findHiding 19 = .ok (.iload 4, 2) := by decide +kernel
theorem dX1_findHiding_21 : decode cX1_findHiding 21 = .ok (.invokevirtual 32, 3) := by decide +kernel
theorem dX1_findHiding_24 : decode cX1_findHiding 24 = .ok (.aload_n 0, 1) := by decide +kernel
theorem dX1_findHiding_25 : decode cX1_findHiding 25 = .ok (.aload_n 0, 1) := by decide +kernel
theorem dX1_findHiding_26 : decode cX1_findHiding 26 = .ok (.getfield 21, 3) := by decide +kernel
theorem dX1_findHiding_29 : decode cX1_findHiding 29 = .ok (.iload_n 3, 1) := by decide +kernel
theorem dX1_findHiding_30 : decode cX1_findHiding 30 = .ok (.invokevirtual 89, 3) := by decide +kernel
theorem dX1_findHiding_33 : decode cX1_findHiding 33 = .ok (.putfield 54, 3) := by decide +kernel
theorem dX1_findHiding_36 : decode cX1_findHiding 36 = .ok (.aload_n 0, 1) := by decide +kernel
theorem dX1_findHiding_37 : decode cX1_findHiding 37 = .ok (.iload 5, 2) := by decide +kernel
theorem dX1_findHiding_39 : decode cX1_findHiding 39 = .ok (.putfield 58, 3) := by decide +kernel
theorem dX1_findHiding_42 : decode cX1_findHiding 42 = .ok (.iconst 0, 1) := by decide +kernel
theorem dX1_findHiding_43 : decode cX1_findHiding 43 = .ok (.istore 7, 2) := by decide +kernel
theorem dX1_findHiding_45 : decode cX1_findHiding 45 = .ok (.iload 7, 2) := by decide +kernel
theorem dX1_findHiding_47 : decode cX1_findHiding 47 = .ok (.iload 6, 2) := by decide +kernel
theorem dX1_findHiding_49 : decode cX1_findHiding 49 = .ok (.iadd, 1) := by decide +kernel
theorem dX1_findHiding_50 : decode cX1_findHiding 50 = .ok (.iload 5, 2) := by decide +kernel
theorem dX1_findHiding_52 : decode cX1_findHiding 52 = .ok (.isub, 1) := by decide +kernel
theorem dX1_findHiding_53 : decode cX1_findHiding 53 = .ok (.aload_n 1, 1) := by decide +kernel
theorem dX1_findHiding_54 : decode cX1_findHiding 54 = .ok (.getfield 93, 3) := by decide +kernel
theorem dX1_findHiding_57 : decode cX1_findHiding 57 = .ok (.if_icmp .gt 72, 3) := by decide +kernel
theorem dX1_findHiding_60 : decode cX1_findHiding 60 = .ok (.aload_n 1, 1) := by decide +kernel
theorem dX1_findHiding_61 : decode cX1_findHiding 61 = .ok (.getfield 83, 3) := by decide +kernel
theorem dX1_findHiding_64 : decode cX1_findHiding 64 = .ok (.iload_n 3, 1) := by decide +kernel
theorem dX1_findHiding_65 : decode cX1_findHiding 65 = .ok (.iload 7, 2) := by decide +kernel
theorem dX1_findHiding_67 : decode cX1_findHiding 67 = .ok (.iastore, 1) := by decide +kernel
theorem dX1_findHiding_68 : decode cX1_findHiding 68 = .ok (.aload_n 1, 1) := by decide +kernel
theorem dX1_findHiding_69 : decode cX1_findHiding 69 = .ok (.getfield 86, 3) := by decide +kernel
theorem dX1_findHiding_72 : decode cX1_findHiding 72 = .ok (.iload_n 3, 1) := by decide +kernel
theorem dX1_findHiding_73 : decode cX1_findHiding 73 = .ok (.iload 7, 2) := by decide +kernel
theorem dX1_findHiding_75 : decode cX1_findHiding 75 = .ok (.iload 6, 2) := by decide +kernel
theorem dX1_findHiding_77 : decode cX1_findHiding 77 = .ok (.iadd, 1) := by decide +kernel
theorem dX1_findHiding_78 : decode cX1_findHiding 78 = .ok (.iload 5, 2) := by decide +kernel
theorem dX1_findHiding_80 : decode cX1_findHiding 80 = .ok (.isub, 1) := by decide +kernel
theorem dX1_findHiding_81 : decode cX1_findHiding 81 = .ok (.iastore, 1) := by decide +kernel
theorem dX1_findHiding_82 : decode cX1_findHiding 82 = .ok (.aload_n 0, 1) := by decide +kernel
theorem dX1_findHiding_83 : decode cX1_findHiding 83 = .ok (.aload_n 1, 1) := by decide +kernel
theorem dX1_findHiding_84 : decode cX1_findHiding 84 = .ok (.aload_n 2, 1) := by decide +kernel
theorem dX1_findHiding_85 : decode cX1_findHiding 85 = .ok (.iload 4, 2) := by decide +kernel
theorem dX1_findHiding_87 : decode cX1_findHiding 87 = .ok (.invokevirtual 32, 3) := by decide +kernel
theorem dX1_findHiding_90 : decode cX1_findHiding 90 = .ok (.aload_n 0, 1) := by decide +kernel
theorem dX1_findHiding_91 : decode cX1_findHiding 91 = .ok (.getfield 21, 3) := by decide +kernel
theorem dX1_findHiding_94 : decode cX1_findHiding 94 = .ok (.iload_n 3, 1) := by decide +kernel
theorem dX1_findHiding_95 : decode cX1_findHiding 95 = .ok (.invokevirtual 89, 3) := by decide +kernel
theorem dX1_findHiding_98 : decode cX1_findHiding 98 = .ok (.aload_n 0, 1) := by decide +kernel
theorem dX1_findHiding_99 : decode cX1_findHiding 99 = .ok (.getfield 54, 3) := by decide +kernel
theorem dX1_findHiding_102 : decode cX1_findHiding 102 = .ok (.if_icmp .le 21, 3) := by decide +kernel
theorem dX1_findHiding_105 : decode cX1_findHiding 105 = .ok (.aload_n 0, 1) := by decide +kernel
theorem dX1_findHiding_106 : decode cX1_findHiding 106 = .ok (.aload_n 0, 1) := by decide +kernel
theorem dX1_findHiding_107 : decode cX1_findHiding 107 = .ok (.getfield 21, 3) := by decide +kernel
theorem dX1_findHiding_110 : decode cX1_findHiding 110 = .ok (.iload_n 3, 1) := by decide +kernel
theorem dX1_findHiding_111 : decode cX1_findHiding 111 = .ok (.invokevirtual 89, 3) := by decide +kernel
theorem dX1_findHiding_114 : decode cX1_findHiding 114 = .ok (.putfield 54, 3) := by decide +kernel
theorem dX1_findHiding_117 : decode cX1_findHiding 117 = .ok (.aload_n 0, 1) := by decide +kernel
theorem dX1_findHiding_118 : decode cX1_findHiding 118 = .ok (.iload 7, 2) := by decide +kernel
theorem dX1_findHiding_120 : decode cX1_findHiding 120 = .ok (.putfield 58, 3) := by decide +kernel
theorem dX1_findHiding_123 : decode cX1_findHiding 123 = .ok (.iinc 7 1, 3) := by decide +kernel
theorem dX1_findHiding_126 : decode cX1_findHiding 126 = .ok (.goto (-81), 3) := by decide +kernel
theorem dX1_findHiding_129 : decode cX1_findHiding 129 = .ok (.aload_n 1, 1) := by decide +kernel
theorem dX1_findHiding_130 : decode cX1_findHiding 130 = .ok (.getfield 83, 3) := by decide +kernel
theorem dX1_findHiding_133 : decode cX1_findHiding 133 = .ok (.iload_n 3, 1) := by decide +kernel
theorem dX1_findHiding_134 : decode cX1_findHiding 134 = .ok (.iload 5, 2) := by decide +kernel
theorem dX1_findHiding_136 : decode cX1_findHiding 136 = .ok (.iastore, 1) := by decide +kernel
theorem dX1_findHiding_137 : decode cX1_findHiding 137 = .ok (.aload_n 1, 1) := by decide +kernel
theorem dX1_findHiding_138 : decode cX1_findHiding 138 = .ok (.getfield 86, 3) := by decide +kernel
theorem dX1_findHiding_141 : decode cX1_findHiding 141 = .ok (.iload_n 3, 1) := by decide +kernel
theorem dX1_findHiding_142 : decode cX1_findHiding 142 = .ok (.iload 6, 2) := by decide +kernel
theorem dX1_findHiding_144 : decode cX1_findHiding 144 = .ok (.iastore, 1) := by decide +kernel
theorem dX1_findHiding_145 : decode cX1_findHiding 145 = .ok (.return_, 1) := by decide +kernel
theorem dX1_countWords_0 : decode cX1_countWords 0 = .ok (.aload_n 1, 1) := by decide +kernel
theorem dX1_countWords_1 : decode cX1_countWords 1 = .ok (.getfield 96, 3) := by decide +kernel
theorem dX1_countWords_4 : decode cX1_countWords 4 = .ok (.astore 5, 2) := by decide +kernel
theorem dX1_countWords_6 : decode cX1_countWords 6 = .ok (.iconst 0, 1) := by decide +kernel
theorem dX1_countWords_7 : decode cX1_countWords 7 = .ok (.istore 6, 2) := by decide +kernel
theorem dX1_countWords_9 : decode cX1_countWords 9 = .ok (.aload_n 0, 1) := by decide +kernel
theorem dX1_countWords_10 : decode cX1_countWords 10 = .ok (.aload_n 1, 1) := by decide +kernel
theorem dX1_countWords_11 : decode cX1_countWords 11 = .ok (.aload_n 2, 1) := by decide +kernel
theorem dX1_countWords_12 : decode cX1_countWords 12 = .ok (.iload 4, 2) := by decide +kernel
theorem dX1_countWords_14 : decode cX1_countWords 14 = .ok (.invokevirtual 100, 3) := by decide +kernel
theorem dX1_countWords_17 : decode cX1_countWords 17 = .ok (.aload_n 0, 1) := by decide +kernel
theorem dX1_countWords_18 : decode cX1_countWords 18 = .ok (.aload_n 1, 1) := by decide +kernel
theorem dX1_countWords_19 : decode cX1_countWords 19 = .ok (.aload_n 2, 1) := by decide +kernel
theorem dX1_countWords_20 : decode cX1_countWords 20 = .ok (.iload_n 3, 1) := by decide +kernel
theorem dX1_countWords_21 : decode cX1_countWords 21 = .ok (.invokevirtual 103, 3) := by decide +kernel
theorem dX1_countWords_24 : decode cX1_countWords 24 = .ok (.iconst 0, 1) := by decide +kernel
theorem dX1_countWords_25 : decode cX1_countWords 25 = .ok (.istore 7, 2) := by decide +kernel
theorem dX1_countWords_27 : decode cX1_countWords 27 = .ok (.iload 7, 2) := by decide +kernel
theorem dX1_countWords_29 : decode cX1_countWords 29 = .ok (.aload 5, 2) := by decide +kernel
theorem dX1_countWords_31 : decode cX1_countWords 31 = .ok (.getfield 106, 3) := by decide +kernel
theorem dX1_countWords_34 : decode cX1_countWords 34 = .ok (.if_icmp .ge 90, 3) := by decide +kernel
theorem dX1_countWords_37 : decode cX1_countWords 37 = .ok (.aload 5, 2) := by decide +kernel
theorem dX1_countWords_39 : decode cX1_countWords 39 = .ok (.iload 7, 2) := by decide +kernel
theorem dX1_countWords_41 : decode cX1_countWords 41 = .ok (.invokevirtual 111, 3) := by decide +kernel
theorem dX1_countWords_44 : decode cX1_countWords 44 = .ok (.istore 8, 2) := by decide +kernel
theorem dX1_countWords_46 : decode cX1_countWords 46 = .ok (.iconst 0, 1) := by decide +kernel
theorem dX1_countWords_47 : decode cX1_countWords 47 = .ok (.istore 9, 2) := by decide +kernel
theorem dX1_countWords_49 : decode cX1_countWords 49 = .ok (.iload 9, 2) := by decide +kernel
theorem dX1_countWords_51 : decode cX1_countWords 51 = .ok (.bipush 99, 2) := by decide +kernel
theorem dX1_countWords_53 : decode cX1_countWords 53 = .ok (.if_icmp .gt 56, 3) := by decide +kernel
theorem dX1_countWords_56 : decode cX1_countWords 56 = .ok (.aload 5, 2) := by decide +kernel
theorem dX1_countWords_58 : decode cX1_countWords 58 = .ok (.iload 7, 2) := by decide +kernel
theorem dX1_countWords_60 : decode cX1_countWords 60 = .ok (.iload 9, 2) := by decide +kernel
theorem dX1_countWords_62 : decode cX1_countWords 62 = .ok (.invokevirtual 114, 3) := by decide +kernel
theorem dX1_countWords_65 : decode cX1_countWords 65 = .ok (.iload 9, 2) := by decide +kernel
theorem dX1_countWords_67 : decode cX1_countWords 67 = .ok (.iload 8, 2) := by decide +kernel
theorem dX1_countWords_69 : decode cX1_countWords 69 = .ok (.if_icmp .eq 34, 3) := by decide +kernel
theorem dX1_countWords_72 : decode cX1_countWords 72 = .ok (.aload_n 0, 1) := by decide +kernel
theorem dX1_countWords_73 : decode cX1_countWords 73 = .ok (.aload_n 1, 1) := by decide +kernel
theorem dX1_countWords_74 : decode cX1_countWords 74 = .ok (.iload_n 3, 1) := by decide +kernel
theorem dX1_countWords_75 : decode cX1_countWords 75 = .ok (.iload 4, 2) := by decide +kernel
theorem dX1_countWords_77 : decode cX1_countWords 77 = .ok (.invokevirtual 118, 3) := by decide +kernel
theorem dX1_countWords_80 : decode cX1_countWords 80 = .ok (.ifCond .eq 23, 3) := by decide +kernel
theorem dX1_countWords_83 : decode cX1_countWords 83 = .ok (.iload 6, 2) := by decide +kernel
theorem dX1_countWords_85 : decode cX1_countWords 85 = .ok (.ifCond .ne 15, 3) := by decide +kernel
theorem dX1_countWords_88 : decode cX1_countWords 88 = .ok (.aload_n 0, 1) := by decide +kernel
theorem dX1_countWords_89 : decode cX1_countWords 89 = .ok (.iload 7, 2) := by decide +kernel
theorem dX1_countWords_91 : decode cX1_countWords 91 = .ok (.putfield 54, 3) := by decide +kernel
theorem dX1_countWords_94 : decode cX1_countWords 94 = .ok (.aload_n 0, 1) := by decide +kernel
theorem dX1_countWords_95 : decode cX1_countWords 95 = .ok (.iload 9, 2) := by decide +kernel
theorem dX1_countWords_97 : decode cX1_countWords 97 = .ok (.putfield 58, 3) := by decide +kernel
theorem dX1_countWords_100 : decode cX1_countWords 100 = .ok (.iinc 6 1, 3) := by decide +kernel
theorem dX1_countWords_103 : decode cX1_countWords 103 = .ok (.iinc 9 1, 3) := by decide +kernel
theorem dX1_countWords_106 : decode cX1_countWords 106 = .ok (.goto (-57), 3) := by decide +kernel
theorem dX1_countWords_109 : decode cX1_countWords 109 = .ok (.aload 5, 2) := by decide +kernel
theorem dX1_countWords_111 : decode cX1_countWords 111 = .ok (.iload 7, 2) := by decide +kernel
theorem dX1_countWords_113 : decode cX1_countWords 113 = .ok (.iload 8, 2) := by decide +kernel
theorem dX1_countWords_115 : decode cX1_countWords 115 = .ok (.invokevirtual 114, 3) := by decide +kernel
theorem dX1_countWords_118 : decode cX1_countWords 118 = .ok (.iinc 7 1, 3) := by decide +kernel
theorem dX1_countWords_121 : decode cX1_countWords 121 = .ok (.goto (-94), 3) := by decide +kernel
theorem dX1_countWords_124 : decode cX1_countWords 124 = .ok (.iload 6, 2) := by decide +kernel
theorem dX1_countWords_126 : decode cX1_countWords 126 = .ok (.ireturn, 1) := by decide +kernel
theorem dX1_keepRolls_0 : decode cX1_keepRolls 0 = .ok (.aload_n 0, 1) := by decide +kernel
theorem dX1_keepRolls_1 : decode cX1_keepRolls 1 = .ok (.getfield 21, 3) := by decide +kernel
theorem dX1_keepRolls_4 : decode cX1_keepRolls 4 = .ok (.aload_n 2, 1) := by decide +kernel
theorem dX1_keepRolls_5 : decode cX1_keepRolls 5 = .ok (.invokevirtual 42, 3) := by decide +kernel
theorem dX1_keepRolls_8 : decode cX1_keepRolls 8 = .ok (.iconst 0, 1) := by decide +kernel
theorem dX1_keepRolls_9 : decode cX1_keepRolls 9 = .ok (.istore 4, 2) := by decide +kernel
theorem dX1_keepRolls_11 : decode cX1_keepRolls 11 = .ok (.iload 4, 2) := by decide +kernel
theorem dX1_keepRolls_13 : decode cX1_keepRolls 13 = .ok (.iload_n 3, 1) := by decide +kernel
theorem dX1_keepRolls_14 : decode cX1_keepRolls 14 = .ok (.if_icmp .ge 40, 3) := by decide +kernel
theorem dX1_keepRolls_17 : decode cX1_keepRolls 17 = .ok (.aload_n 0, 1) := by decide +kernel
theorem dX1_keepRolls_18 : decode cX1_keepRolls 18 = .ok (.getfield 28, 3) := by decide +kernel
theorem dX1_keepRolls_21 : decode cX1_keepRolls 21 = .ok (.iload 4, 2) := by decide +kernel
theorem dX1_keepRolls_23 : decode cX1_keepRolls 23 = .ok (.aload_n 0, 1) := by decide +kernel
theorem dX1_keepRolls_24 : decode cX1_keepRolls 24 = .ok (.getfield 12, 3) := by decide +kernel
theorem dX1_keepRolls_27 : decode cX1_keepRolls 27 = .ok (.aload_n 1, 1) := by decide +kernel
theorem dX1_keepRolls_28 : decode cX1_keepRolls 28 = .ok (.aload_n 0, 1) := by decide +kernel
theorem dX1_keepRolls_29 : decode cX1_keepRolls 29 = .ok (.getfield 21, 3) := by decide +kernel
theorem dX1_keepRolls_32 : decode cX1_keepRolls 32 = .ok (.invokevirtual 122, 3) := by decide +kernel
theorem dX1_keepRolls_35 : decode cX1_keepRolls 35 = .ok (.iastore, 1) := by decide +kernel
theorem dX1_keepRolls_36 : decode cX1_keepRolls 36 = .ok (.aload_n 0, 1) := by decide +kernel
theorem dX1_keepRolls_37 : decode cX1_keepRolls 37 = .ok (.getfield 12, 3) := by decide +kernel
theorem dX1_keepRolls_40 : decode cX1_keepRolls 40 = .ok (.aload_n 1, 1) := by decide +kernel
theorem dX1_keepRolls_41 : decode cX1_keepRolls 41 = .ok (.aload_n 0, 1) := by decide +kernel
theorem dX1_keepRolls_42 : decode cX1_keepRolls 42 = .ok (.getfield 21, 3) := by decide +kernel
theorem dX1_keepRolls_45 : decode cX1_keepRolls 45 = .ok (.invokevirtual 125, 3) := by decide +kernel
theorem dX1_keepRolls_48 : decode cX1_keepRolls 48 = .ok (.iinc 4 1, 3) := by decide +kernel
theorem dX1_keepRolls_51 : decode cX1_keepRolls 51 = .ok (.goto (-40), 3) := by decide +kernel
theorem dX1_keepRolls_54 : decode cX1_keepRolls 54 = .ok (.return_, 1) := by decide +kernel
theorem dX1_keepStart_0 : decode cX1_keepStart 0 = .ok (.aload_n 0, 1) := by decide +kernel
theorem dX1_keepStart_1 : decode cX1_keepStart 1 = .ok (.getfield 25, 3) := by decide +kernel
theorem dX1_keepStart_4 : decode cX1_keepStart 4 = .ok (.aload_n 2, 1) := by decide +kernel
theorem dX1_keepStart_5 : decode cX1_keepStart 5 = .ok (.invokevirtual 42, 3) := by decide +kernel
theorem dX1_keepStart_8 : decode cX1_keepStart 8 = .ok (.aload_n 0, 1) := by decide +kernel
theorem dX1_keepStart_9 : decode cX1_keepStart 9 = .ok (.aload_n 1, 1) := by decide +kernel
theorem dX1_keepStart_10 : decode cX1_keepStart 10 = .ok (.aload_n 2, 1) := by decide +kernel
theorem dX1_keepStart_11 : decode cX1_keepStart 11 = .ok (.iload_n 3, 1) := by decide +kernel
theorem dX1_keepStart_12 : decode cX1_keepStart 12 = .ok (.invokevirtual 129, 3) := by decide +kernel
theorem dX1_keepStart_15 : decode cX1_keepStart 15 = .ok (.ifCond .ne 29, 3) := by decide +kernel
theorem dX1_keepStart_18 : decode cX1_keepStart 18 = .ok (.aload_n 0, 1) := by decide +kernel
theorem dX1_keepStart_19 : decode cX1_keepStart 19 = .ok (.getfield 25, 3) := by decide +kernel
theorem dX1_keepStart_22 : decode cX1_keepStart 22 = .ok (.getfield 39, 3) := by decide +kernel
theorem dX1_keepStart_25 : decode cX1_keepStart 25 = .ok (.iconst 0, 1) := by decide +kernel
theorem dX1_keepStart_26 : decode cX1_keepStart 26 = .ok (.invokestatic 133, 3) := by decide +kernel
theorem dX1_keepStart_29 : decode cX1_keepStart 29 = .ok (.aload_n 0, 1) := by decide +kernel
theorem dX1_keepStart_30 : decode cX1_keepStart 30 = .ok (.getfield 25, 3) := by decide +kernel
theorem dX1_keepStart_33 : decode cX1_keepStart 33 = .ok (.getfield 39, 3) := by decide +kernel
theorem dX1_keepStart_36 : decode cX1_keepStart 36 = .ok (.iload_n 3, 1) := by decide +kernel
theorem dX1_keepStart_37 : decode cX1_keepStart 37 = .ok (.aload_n 2, 1) := by decide +kernel
theorem dX1_keepStart_38 : decode cX1_keepStart 38 = .ok (.getfield 39, 3) := by decide +kernel
theorem dX1_keepStart_41 : decode cX1_keepStart 41 = .ok (.iload_n 3, 1) := by decide +kernel
theorem dX1_keepStart_42 : decode cX1_keepStart 42 = .ok (.iaload, 1) := by decide +kernel
theorem dX1_keepStart_43 : decode cX1_keepStart 43 = .ok (.iastore, 1) := by decide +kernel
theorem dX1_keepStart_44 : decode cX1_keepStart 44 = .ok (.return_, 1) := by decide +kernel
theorem dX1_hangsOnCoins_0 : decode cX1_hangsOnCoins 0 = .ok (.iconst 0, 1) := by decide +kernel
theorem dX1_hangsOnCoins_1 : decode cX1_hangsOnCoins 1 = .ok (.istore 4, 2) := by decide +kernel
theorem dX1_hangsOnCoins_3 : decode cX1_hangsOnCoins 3 = .ok (.iload 4, 2) := by decide +kernel
theorem dX1_hangsOnCoins_5 : decode cX1_hangsOnCoins 5 = .ok (.aload_n 1, 1) := by decide +kernel
theorem dX1_hangsOnCoins_6 : decode cX1_hangsOnCoins 6 = .ok (.getfield 71, 3) := by decide +kernel
theorem dX1_hangsOnCoins_9 : decode cX1_hangsOnCoins 9 = .ok (.if_icmp .ge 77, 3) := by decide +kernel
theorem dX1_hangsOnCoins_12 : decode cX1_hangsOnCoins 12 = .ok (.aload_n 2, 1) := by decide +kernel
theorem dX1_hangsOnCoins_13 : decode cX1_hangsOnCoins 13 = .ok (.getfield 76, 3) := by decide +kernel
theorem dX1_hangsOnCoins_16 : decode cX1_hangsOnCoins 16 = .ok (.iload 4, 2) := by decide +kernel
theorem dX1_hangsOnCoins_18 : decode cX1_hangsOnCoins 18 = .ok (.iaload, 1) := by decide +kernel
theorem dX1_hangsOnCoins_19 : decode cX1_hangsOnCoins 19 = .ok (.iload 4, 2) := by decide +kernel
theorem dX1_hangsOnCoins_21 : decode cX1_hangsOnCoins 21 = .ok (.if_icmp .eq 17, 3) := by decide +kernel
theorem dX1_hangsOnCoins_24 : decode cX1_hangsOnCoins 24 = .ok (.aload_n 1, 1) := by decide +kernel
theorem dX1_hangsOnCoins_25 : decode cX1_hangsOnCoins 25 = .ok (.getfield 139, 3) := by decide +kernel
theorem dX1_hangsOnCoins_28 : decode cX1_hangsOnCoins 28 = .ok (.iload 4, 2) := by decide +kernel
theorem dX1_hangsOnCoins_30 : decode cX1_hangsOnCoins 30 = .ok (.iaload, 1) := by decide +kernel
theorem dX1_hangsOnCoins_31 : decode cX1_hangsOnCoins 31 = .ok (.ifCond .le 7, 3) := by decide +kernel
theorem dX1_hangsOnCoins_34 : decode cX1_hangsOnCoins 34 = .ok (.iconst 1, 1) := by decide +kernel
theorem dX1_hangsOnCoins_35 : decode cX1_hangsOnCoins 35 = .ok (.goto 4, 3) := by decide +kernel
theorem dX1_hangsOnCoins_38 : decode cX1_hangsOnCoins 38 = .ok (.iconst 0, 1) := by decide +kernel
theorem dX1_hangsOnCoins_39 : decode cX1_hangsOnCoins 39 = .ok (.istore 5, 2) := by decide +kernel
theorem dX1_hangsOnCoins_41 : decode cX1_hangsOnCoins 41 = .ok (.iload 5, 2) := by decide +kernel
theorem dX1_hangsOnCoins_43 : decode cX1_hangsOnCoins 43 = .ok (.ifCond .eq 37, 3) := by decide +kernel
theorem dX1_hangsOnCoins_46 : decode cX1_hangsOnCoins 46 = .ok (.aload_n 2, 1) := by decide +kernel
theorem dX1_hangsOnCoins_47 : decode cX1_hangsOnCoins 47 = .ok (.getfield 64, 3) := by decide +kernel
theorem dX1_hangsOnCoins_50 : decode cX1_hangsOnCoins 50 = .ok (.iload 4, 2) := by decide +kernel
theorem dX1_hangsOnCoins_52 : decode cX1_hangsOnCoins 52 = .ok (.iaload, 1) := by decide +kernel
theorem dX1_hangsOnCoins_53 : decode cX1_hangsOnCoins 53 = .ok (.iconst (-1), 1) := by decide +kernel
theorem dX1_hangsOnCoins_54 : decode cX1_hangsOnCoins 54 = .ok (.if_icmp .eq 26, 3) := by decide +kernel
theorem dX1_hangsOnCoins_57 : decode cX1_hangsOnCoins 57 = .ok (.aload_n 2, 1) := by decide +kernel
theorem dX1_hangsOnCoins_58 : decode cX1_hangsOnCoins 58 = .ok (.getfield 76, 3) := by decide +kernel
theorem dX1_hangsOnCoins_61 : decode cX1_hangsOnCoins 61 = .ok (.iload 4, 2) := by decide +kernel
theorem dX1_hangsOnCoins_63 : decode cX1_hangsOnCoins 63 = .ok (.iaload, 1) := by decide +kernel
theorem dX1_hangsOnCoins_64 : decode cX1_hangsOnCoins 64 = .ok (.aload_n 2, 1) := by decide +kernel
theorem dX1_hangsOnCoins_65 : decode cX1_hangsOnCoins 65 = .ok (.getfield 64, 3) := by decide +kernel
theorem dX1_hangsOnCoins_68 : decode cX1_hangsOnCoins 68 = .ok (.iload 4, 2) := by decide +kernel
theorem dX1_hangsOnCoins_70 : decode cX1_hangsOnCoins 70 = .ok (.iaload, 1) := by decide +kernel
theorem dX1_hangsOnCoins_71 : decode cX1_hangsOnCoins 71 = .ok (.invokestatic 79, 3) := by decide +kernel
theorem dX1_hangsOnCoins_74 : decode cX1_hangsOnCoins 74 = .ok (.iload_n 3, 1) := by decide +kernel
theorem dX1_hangsOnCoins_75 : decode cX1_hangsOnCoins 75 = .ok (.if_icmp .ne 5, 3) := by decide +kernel
theorem dX1_hangsOnCoins_78 : decode cX1_hangsOnCoins 78 = .ok (.iconst 1, 1) := by decide +kernel
theorem dX1_hangsOnCoins_79 : decode cX1_hangsOnCoins 79 = .ok (.ireturn, 1) := by decide +kernel
theorem dX1_hangsOnCoins_80 : decode cX1_hangsOnCoins 80 = .ok (.iinc 4 1, 3) := by decide +kernel
theorem dX1_hangsOnCoins_83 : decode cX1_hangsOnCoins 83 = .ok (.goto (-80), 3) := by decide +kernel
theorem dX1_hangsOnCoins_86 : decode cX1_hangsOnCoins 86 = .ok (.iconst 0, 1) := by decide +kernel
theorem dX1_hangsOnCoins_87 : decode cX1_hangsOnCoins 87 = .ok (.ireturn, 1) := by decide +kernel
theorem dX1_isFreed_0 : decode cX1_isFreed 0 = .ok (.aload_n 0, 1) := by decide +kernel
theorem dX1_isFreed_1 : decode cX1_isFreed 1 = .ok (.getfield 21, 3) := by decide +kernel
theorem dX1_isFreed_4 : decode cX1_isFreed 4 = .ok (.aload_n 0, 1) := by decide +kernel
theorem dX1_isFreed_5 : decode cX1_isFreed 5 = .ok (.getfield 25, 3) := by decide +kernel
theorem dX1_isFreed_8 : decode cX1_isFreed 8 = .ok (.invokevirtual 42, 3) := by decide +kernel
theorem dX1_isFreed_11 : decode cX1_isFreed 11 = .ok (.iconst 0, 1) := by decide +kernel
theorem dX1_isFreed_12 : decode cX1_isFreed 12 = .ok (.istore 4, 2) := by decide +kernel
theorem dX1_isFreed_14 : decode cX1_isFreed 14 = .ok (.iload 4, 2) := by decide +kernel
theorem dX1_isFreed_16 : decode cX1_isFreed 16 = .ok (.iload_n 3, 1) := by decide +kernel
theorem dX1_isFreed_17 : decode cX1_isFreed 17 = .ok (.if_icmp .ge 62, 3) := by decide +kernel
theorem dX1_isFreed_20 : decode cX1_isFreed 20 = .ok (.aload_n 0, 1) := by decide +kernel
theorem dX1_isFreed_21 : decode cX1_isFreed 21 = .ok (.getfield 21, 3) := by decide +kernel
theorem dX1_isFreed_24 : decode cX1_isFreed 24 = .ok (.getfield 39, 3) := by decide +kernel
theorem dX1_isFreed_27 : decode cX1_isFreed 27 = .ok (.iload_n 2, 1) := by decide +kernel
theorem dX1_isFreed_28 : decode cX1_isFreed 28 = .ok (.iaload, 1) := by decide +kernel
theorem dX1_isFreed_29 : decode cX1_isFreed 29 = .ok (.ifCond .le 50, 3) := by decide +kernel
theorem dX1_isFreed_32 : decode cX1_isFreed 32 = .ok (.aload_n 0, 1) := by decide +kernel
theorem dX1_isFreed_33 : decode cX1_isFreed 33 = .ok (.getfield 28, 3) := by decide +kernel
theorem dX1_isFreed_36 : decode cX1_isFreed 36 = .ok (.iload 4, 2) := by decide +kernel
theorem dX1_isFreed_38 : decode cX1_isFreed 38 = .ok (.iaload, 1) := by decide +kernel
theorem dX1_isFreed_39 : decode cX1_isFreed 39 = .ok (.ifCond .eq 22, 3) := by decide +kernel
theorem dX1_isFreed_42 : decode cX1_isFreed 42 = .ok (.aload_n 0, 1) := by decide +kernel
theorem dX1_isFreed_43 : decode cX1_isFreed 43 = .ok (.getfield 12, 3) := by decide +kernel
theorem dX1_isFreed_46 : decode cX1_isFreed 46 = .ok (.aload_n 1, 1) := by decide +kernel
theorem dX1_isFreed_47 : decode cX1_isFreed 47 = .ok (.aload_n 0, 1) := by decide +kernel
theorem dX1_isFreed_48 : decode cX1_isFreed 48 = .ok (.getfield 21, 3) := by decide +kernel
theorem dX1_isFreed_51 : decode cX1_isFreed 51 = .ok (.aload_n 0, 1) := by decide +kernel
theorem dX1_isFreed_52 : decode cX1_isFreed 52 = .ok (.getfield 28, 3) := by decide +kernel
theorem dX1_isFreed_55 : decode cX1_isFreed 55 = .ok (.iload 4, 2) := by decide +kernel
theorem dX1_isFreed_57 : decode cX1_isFreed 57 = .ok (.iaload, 1) := by decide +kernel
theorem dX1_isFreed_58 : decode cX1_isFreed 58 = .ok (.invokevirtual 142, 3) := by decide +kernel
theorem dX1_isFreed_61 : decode cX1_isFreed 61 = .ok (.aload_n 0, 1) := by decide +kernel
theorem dX1_isFreed_62 : decode cX1_isFreed 62 = .ok (.getfield 12, 3) := by decide +kernel
theorem dX1_isFreed_65 : decode cX1_isFreed 65 = .ok (.aload_n 1, 1) := by decide +kernel
theorem dX1_isFreed_66 : decode cX1_isFreed 66 = .ok (.aload_n 0, 1) := by decide +kernel
theorem dX1_isFreed_67 : decode cX1_isFreed 67 = .ok (.getfield 21, 3) := by decide +kernel
theorem dX1_isFreed_70 : decode cX1_isFreed 70 = .ok (.invokevirtual 125, 3) := by decide +kernel
theorem dX1_isFreed_73 : decode cX1_isFreed 73 = .ok (.iinc 4 1, 3) := by decide +kernel
theorem dX1_isFreed_76 : decode cX1_isFreed 76 = .ok (.goto (-62), 3) := by decide +kernel
theorem dX1_isFreed_79 : decode cX1_isFreed 79 = .ok (.aload_n 0, 1) := by decide +kernel
theorem dX1_isFreed_80 : decode cX1_isFreed 80 = .ok (.getfield 21, 3) := by decide +kernel
theorem dX1_isFreed_83 : decode cX1_isFreed 83 = .ok (.getfield 39, 3) := by decide +kernel
theorem dX1_isFreed_86 : decode cX1_isFreed 86 = .ok (.iload_n 2, 1) := by decide +kernel
theorem dX1_isFreed_87 : decode cX1_isFreed 87 = .ok (.iaload, 1) := by decide +kernel
theorem dX1_isFreed_88 : decode cX1_isFreed 88 = .ok (.ifCond .ne 7, 3) := by decide +kernel
theorem dX1_isFreed_91 : decode cX1_isFreed 91 = .ok (.iconst 1, 1) := by decide +kernel
theorem dX1_isFreed_92 : decode cX1_isFreed 92 = .ok (.goto 4, 3) := by decide +kernel
theorem dX1_isFreed_95 : decode cX1_isFreed 95 = .ok (.iconst 0, 1) := by decide +kernel
theorem dX1_isFreed_96 : decode cX1_isFreed 96 = .ok (.ireturn, 1) := by decide +kernel
theorem dX2_init_0 : decode cX2_init 0 = .ok (.aload_n 0, 1) := by decide +kernel
theorem dX2_init_1 : decode cX2_init 1 = .ok (.invokespecial 5, 3) := by decide +kernel
theorem dX2_init_4 : decode cX2_init 4 = .ok (.aload_n 0, 1) := by decide +kernel
theorem dX2_init_5 : decode cX2_init 5 = .ok (.sipush 270, 3) := by decide +kernel
theorem dX2_init_8 : decode cX2_init 8 = .ok (.newarray .int, 2) := by decide +kernel
theorem dX2_init_10 : decode cX2_init 10 = .ok (.putfield 11, 3) := by decide +kernel
theorem dX2_init_13 : decode cX2_init 13 = .ok (.aload_n 0, 1) := by decide +kernel
theorem dX2_init_14 : decode cX2_init 14 = .ok (.sipush 270, 3) := by decide +kernel
theorem dX2_init_17 : decode cX2_init 17 = .ok (.newarray .int, 2) := by decide +kernel
theorem dX2_init_19 : decode cX2_init 19 = .ok (.putfield 15, 3) := by decide +kernel
theorem dX2_init_22 : decode cX2_init 22 = .ok (.aload_n 0, 1) := by decide +kernel
theorem dX2_init_23 : decode cX2_init 23 = .ok (.bipush 32, 2) := by decide +kernel
theorem dX2_init_25 : decode cX2_init 25 = .ok (.newarray .int, 2) := by decide +kernel
theorem dX2_init_27 : decode cX2_init 27 = .ok (.putfield 18, 3) := by decide +kernel
theorem dX2_init_30 : decode cX2_init 30 = .ok (.aload_n 0, 1) := by decide +kernel
theorem dX2_init_31 : decode cX2_init 31 = .ok (.bipush 30, 2) := by decide +kernel
theorem dX2_init_33 : decode cX2_init 33 = .ok (.newarray .int, 2) := by decide +kernel
theorem dX2_init_35 : decode cX2_init 35 = .ok (.putfield 21, 3) := by decide +kernel
theorem dX2_init_38 : decode cX2_init 38 = .ok (.return_, 1) := by decide +kernel
theorem dX2_forget_0 : decode cX2_forget 0 = .ok (.aload_n 0, 1) := by decide +kernel
theorem dX2_forget_1 : decode cX2_forget 1 = .ok (.iconst 0, 1) := by decide +kernel
theorem dX2_forget_2 : decode cX2_forget 2 = .ok (.putfield 24, 3) := by decide +kernel
theorem dX2_forget_5 : decode cX2_forget 5 = .ok (.aload_n 0, 1) := by decide +kernel
theorem dX2_forget_6 : decode cX2_forget 6 = .ok (.iconst 0, 1) := by decide +kernel
theorem dX2_forget_7 : decode cX2_forget 7 = .ok (.putfield 28, 3) := by decide +kernel
theorem dX2_forget_10 : decode cX2_forget 10 = .ok (.aload_n 0, 1) := by decide +kernel
theorem dX2_forget_11 : decode cX2_forget 11 = .ok (.iconst 0, 1) := by decide +kernel
theorem dX2_forget_12 : decode cX2_forget 12 = .ok (.putfield 32, 3) := by decide +kernel
theorem dX2_forget_15 : decode cX2_forget 15 = .ok (.aload_n 0, 1) := by decide +kernel
theorem dX2_forget_16 : decode cX2_forget 16 = .ok (.iconst 0, 1) := by decide +kernel
theorem dX2_forget_17 : decode cX2_forget 17 = .ok (.putfield 35, 3) := by decide +kernel
theorem dX2_forget_20 : decode cX2_forget 20 = .ok (.return_, 1) := by decide +kernel
theorem dX2_addOperation_0 : decode cX2_addOperation 0 = .ok (.aload_n 0, 1) := by decide +kernel
theorem dX2_addOperation_1 : decode cX2_addOperation 1 = .ok (.getfield 24, 3) := by decide +kernel
theorem dX2_addOperation_4 : decode cX2_addOperation 4 = .ok (.sipush 270, 3) := by decide +kernel
theorem dX2_addOperation_7 : decode cX2_addOperation 7 = .ok (.if_icmp .ge 23, 3) := by decide +kernel
theorem dX2_addOperation_10 : decode cX2_addOperation 10 = .ok (.aload_n 0, 1) := by decide +kernel
theorem dX2_addOperation_11 : decode cX2_addOperation 11 = .ok (.getfield 11, 3) := by decide +kernel
theorem dX2_addOperation_14 : decode cX2_addOperation 14 = .ok (.aload_n 0, 1) := by decide +kernel
theorem dX2_addOperation_15 : decode cX2_addOperation 15 = .ok (.getfield 24, 3) := by decide +kernel
theorem dX2_addOperation_18 : decode cX2_addOperation 18 = .ok (.iload_n 1, 1) := by decide +kernel
theorem dX2_addOperation_19 : decode cX2_addOperation 19 = .ok (.iastore, 1) := by decide +kernel
theorem dX2_addOperation_20 : decode cX2_addOperation 20 = .ok (.aload_n 0, 1) := by decide +kernel
theorem dX2_addOperation_21 : decode cX2_addOperation 21 = .ok (.dup, 1) := by decide +kernel
theorem dX2_addOperation_22 : decode cX2_addOperation 22 = .ok (.getfield 24, 3) := by decide +kernel
theorem dX2_addOperation_25 : decode cX2_addOperation 25 = .ok (.iconst 1, 1) := by decide +kernel
theorem dX2_addOperation_26 : decode cX2_addOperation 26 = .ok (.iadd, 1) := by decide +kernel
theorem dX2_addOperation_27 : decode cX2_addOperation 27 = .ok (.putfield 24, 3) := by decide +kernel
theorem dX2_addOperation_30 : decode cX2_addOperation 30 = .ok (.return_, 1) := by decide +kernel
theorem dX2_addNumber_0 : decode cX2_addNumber 0 = .ok (.aload_n 0, 1) := by decide +kernel
theorem dX2_addNumber_1 : decode cX2_addNumber 1 = .ok (.getfield 35, 3) := by decide +kernel
theorem dX2_addNumber_4 : decode cX2_addNumber 4 = .ok (.bipush 30, 2) := by decide +kernel
theorem dX2_addNumber_6 : decode cX2_addNumber 6 = .ok (.if_icmp .ge 51, 3) := by decide +kernel
theorem dX2_addNumber_9 : decode cX2_addNumber 9 = .ok (.aload_n 0, 1) := by decide +kernel
theorem dX2_addNumber_10 : decode cX2_addNumber 10 = .ok (.getfield 24, 3) := by decide +kernel
theorem dX2_addNumber_13 : decode cX2_addNumber 13 = .ok (.sipush 270, 3) := by decide +kernel
theorem dX2_addNumber_16 : decode cX2_addNumber 16 = .ok (.if_icmp .ge 41, 3) := by decide +kernel
theorem dX2_addNumber_19 : decode cX2_addNumber 19 = .ok (.aload_n 0, 1) := by decide +kernel
theorem dX2_addNumber_20 : decode cX2_addNumber 20 = .ok (.getfield 21, 3) := by decide +kernel
theorem dX2_addNumber_23 : decode cX2_addNumber 23 = .ok (.aload_n 0, 1) := by decide +kernel
theorem dX2_addNumber_24 : decode cX2_addNumber 24 = .ok (.getfield 35, 3) := by decide +kernel
theorem dX2_addNumber_27 : decode cX2_addNumber 27 = .ok (.aload_n 0, 1) := by decide +kernel
theorem dX2_addNumber_28 : decode cX2_addNumber 28 = .ok (.getfield 24, 3) := by decide +kernel
theorem dX2_addNumber_31 : decode cX2_addNumber 31 = .ok (.iastore, 1) := by decide +kernel
theorem dX2_addNumber_32 : decode cX2_addNumber 32 = .ok (.aload_n 0, 1) := by decide +kernel
theorem dX2_addNumber_33 : decode cX2_addNumber 33 = .ok (.dup, 1) := by decide +kernel
theorem dX2_addNumber_34 : decode cX2_addNumber 34 = .ok (.getfield 35, 3) := by decide +kernel
theorem dX2_addNumber_37 : decode cX2_addNumber 37 = .ok (.iconst 1, 1) := by decide +kernel
theorem dX2_addNumber_38 : decode cX2_addNumber 38 = .ok (.iadd, 1) := by decide +kernel
theorem dX2_addNumber_39 : decode cX2_addNumber 39 = .ok (.putfield 35, 3) := by decide +kernel
theorem dX2_addNumber_42 : decode cX2_addNumber 42 = .ok (.aload_n 0, 1) := by decide +kernel
theorem dX2_addNumber_43 : decode cX2_addNumber 43 = .ok (.getfield 15, 3) := by decide +kernel
theorem dX2_addNumber_46 : decode cX2_addNumber 46 = .ok (.aload_n 0, 1) := by decide +kernel
theorem dX2_addNumber_47 : decode cX2_addNumber 47 = .ok (.getfield 24, 3) := by decide +kernel
theorem dX2_addNumber_50 : decode cX2_addNumber 50 = .ok (.iload_n 1, 1) := by decide +kernel
theorem dX2_addNumber_51 : decode cX2_addNumber 51 = .ok (.iastore, 1) := by decide +kernel
theorem dX2_addNumber_52 : decode cX2_addNumber 52 = .ok (.aload_n 0, 1) := by decide +kernel
theorem dX2_addNumber_53 : decode cX2_addNumber 53 = .ok (.iconst 2, 1) := by decide +kernel
theorem dX2_addNumber_54 : decode cX2_addNumber 54 = .ok (.invokevirtual 38, 3) := by decide +kernel
theorem dX2_addNumber_57 : decode cX2_addNumber 57 = .ok (.return_, 1) := by decide +kernel
theorem dX2_addGiven_0 : decode cX2_addGiven 0 = .ok (.iload_n 1, 1) := by decide +kernel
theorem dX2_addGiven_1 : decode cX2_addGiven 1 = .ok (.ifCond .lt 54, 3) := by decide +kernel
theorem dX2_addGiven_4 : decode cX2_addGiven 4 = .ok (.iload_n 1, 1) := by decide +kernel
theorem dX2_addGiven_5 : decode cX2_addGiven 5 = .ok (.bipush 7, 2) := by decide +kernel
theorem dX2_addGiven_7 : decode cX2_addGiven 7 = .ok (.if_icmp .ge 48, 3) := by decide +kernel
theorem dX2_addGiven_10 : decode cX2_addGiven 10 = .ok (.aload_n 0, 1) := by decide +kernel
theorem dX2_addGiven_11 : decode cX2_addGiven 11 = .ok (.getfield 24, 3) := by decide +kernel
theorem dX2_addGiven_14 : decode cX2_addGiven 14 = .ok (.sipush 270, 3) := by decide +kernel
theorem dX2_addGiven_17 : decode cX2_addGiven 17 = .ok (.if_icmp .ge 38, 3) := by decide +kernel
theorem dX2_addGiven_20 : decode cX2_addGiven 20 = .ok (.aload_n 0, 1) := by decide +kernel
theorem dX2_addGiven_21 : decode cX2_addGiven 21 = .ok (.dup, 1) := by decide +kernel
theorem dX2_addGiven_22 : decode cX2_addGiven 22 = .ok (.getfield 32, 3) := by decide +kernel
theorem dX2_addGiven_25 : decode cX2_addGiven 25 = .ok (.iload_n 1, 1) := by decide +kernel
theorem dX2_addGiven_26 : decode cX2_addGiven 26 = .ok (.iconst 3, 1) := by decide +kernel
theorem dX2_addGiven_27 : decode cX2_addGiven 27 = .ok (.if_icmp .ne 7, 3) := by decide +kernel
theorem dX2_addGiven_30 : decode cX2_addGiven 30 = .ok (.iconst 1, 1) := by decide +kernel
theorem dX2_addGiven_31 : decode cX2_addGiven 31 = .ok (.goto 4, 3) := by decide +kernel
theorem dX2_addGiven_34 : decode cX2_addGiven 34 = .ok (.iconst 0, 1) := by decide +kernel
theorem dX2_addGiven_35 : decode cX2_addGiven 35 = .ok (.ior, 1) := by decide +kernel
theorem dX2_addGiven_36 : decode cX2_addGiven 36 = .ok (.putfield 32, 3) := by decide +kernel
theorem dX2_addGiven_39 : decode cX2_addGiven 39 = .ok (.aload_n 0, 1) := by decide +kernel
theorem dX2_addGiven_40 : decode cX2_addGiven 40 = .ok (.getfield 15, 3) := by decide +kernel
theorem dX2_addGiven_43 : decode cX2_addGiven 43 = .ok (.aload_n 0, 1) := by decide +kernel
theorem dX2_addGiven_44 : decode cX2_addGiven 44 = .ok (.getfield 24, 3) := by decide +kernel
theorem dX2_addGiven_47 : decode cX2_addGiven 47 = .ok (.iload_n 1, 1) := by decide +kernel
theorem dX2_addGiven_48 : decode cX2_addGiven 48 = .ok (.iastore, 1) := by decide +kernel
theorem dX2_addGiven_49 : decode cX2_addGiven 49 = .ok (.aload_n 0, 1) := by decide +kernel
theorem dX2_addGiven_50 : decode cX2_addGiven 50 = .ok (.bipush 116, 2) := by decide +kernel
theorem dX2_addGiven_52 : decode cX2_addGiven 52 = .ok (.invokevirtual 38, 3) := by decide +kernel
theorem dX2_addGiven_55 : decode cX2_addGiven 55 = .ok (.return_, 1) := by decide +kernel
theorem dX2_numberTold_0 : decode cX2_numberTold 0 = .ok (.aload_n 0, 1) := by decide +kernel
theorem dX2_numberTold_1 : decode cX2_numberTold 1 = .ok (.getfield 15, 3) := by decide +kernel
theorem dX2_numberTold_4 : decode cX2_numberTold 4 = .ok (.aload_n 0, 1) := by decide +kernel
theorem dX2_numberTold_5 : decode cX2_numberTold 5 = .ok (.getfield 21, 3) := by decide +kernel
theorem dX2_numberTold_8 : decode cX2_numberTold 8 = .ok (.iload_n 1, 1) := by decide +kernel
theorem dX2_numberTold_9 : decode cX2_numberTold 9 = .ok (.iaload, 1) := by decide +kernel
theorem dX2_numberTold_10 : decode cX2_numberTold 10 = .ok (.iaload, 1) := by decide +kernel
theorem dX2_numberTold_11 : decode cX2_numberTold 11 = .ok (.ireturn, 1) := by decide +kernel
theorem dX2_tellOtherwise_0 : decode cX2_tellOtherwise 0 = .ok (.aload_n 0, 1) := by decide +kernel
theorem dX2_tellOtherwise_1 : decode cX2_tellOtherwise 1 = .ok (.getfield 15, 3) := by decide +kernel
theorem dX2_tellOtherwise_4 : decode cX2_tellOtherwise 4 = .ok (.aload_n 0, 1) := by decide +kernel
theorem dX2_tellOtherwise_5 : decode cX2_tellOtherwise 5 = .ok (.getfield 21, 3) := by decide +kernel
theorem dX2_tellOtherwise_8 : decode cX2_tellOtherwise 8 = .ok (.iload_n 1, 1) := by decide +kernel
theorem dX2_tellOtherwise_9 : decode cX2_tellOtherwise 9 = .ok (.iaload, 1) := by decide +kernel
theorem dX2_tellOtherwise_10 : decode cX2_tellOtherwise 10 = .ok (.iload_n 2, 1) := by decide +kernel
theorem dX2_tellOtherwise_11 : decode cX2_tellOtherwise 11 = .ok (.iastore, 1) := by decide +kernel
theorem dX2_tellOtherwise_12 : decode cX2_tellOtherwise 12 = .ok (.return_, 1) := by decide +kernel
theorem dX2_value_0 : decode cX2_value 0 = .ok (.iconst 0, 1) := by decide +kernel
theorem dX2_value_1 : decode cX2_value 1 = .ok (.istore_n 2, 1) := by decide +kernel
theorem dX2_value_2 : decode cX2_value 2 = .ok (.iconst 0, 1) := by decide +kernel
theorem dX2_value_3 : decode cX2_value 3 = .ok (.istore_n 3, 1) := by decide +kernel
theorem dX2_value_4 : decode cX2_value 4 = .ok (.iload_n 3, 1) := by decide +kernel
theorem dX2_value_5 : decode cX2_value 5 = .ok (.aload_n 0, 1) := by decide +kernel
theorem dX2_value_6 : decode cX2_value 6 = .ok (.getfield 24, 3) := by decide +kernel
theorem dX2_value_9 : decode cX2_value 9 = .ok (.if_icmp .ge 445, 3) := by decide +kernel
theorem dX2_value_12 : decode cX2_value 12 = .ok (.aload_n 0, 1) := by decide +kernel
theorem dX2_value_13 : decode cX2_value 13 = .ok (.getfield 11, 3) := by decide +kernel
theorem dX2_value_16 : decode cX2_value 16 = .ok (.iload_n 3, 1) := by decide +kernel
theorem dX2_value_17 : decode cX2_value 17 = .ok (.iaload, 1) := by decide +kernel
theorem dX2_value_18 : decode cX2_value 18 = .ok (.istore 4, 2) := by decide +kernel
theorem dX2_value_20 : decode cX2_value 20 = .ok (.iload 4, 2) := by decide +kernel
theorem dX2_value_22 : decode cX2_value 22 = .ok (.iconst 2, 1) := by decide +kernel
theorem dX2_value_23 : decode cX2_value 23 = .ok (.if_icmp .eq 10, 3) := by decide +kernel
theorem dX2_value_26 : decode cX2_value 26 = .ok (.iload 4, 2) := by decide +kernel
theorem dX2_value_28 : decode cX2_value 28 = .ok (.bipush 116, 2) := by decide +kernel
theorem dX2_value_30 : decode cX2_value 30 = .ok (.if_icmp .ne 9, 3) := by decide +kernel
theorem dX2_value_33 : decode cX2_value 33 = .ok (.iinc 2 1, 3) := by decide +kernel
theorem dX2_value_36 : decode cX2_value 36 = .ok (.goto 13, 3) := by decide +kernel
theorem dX2_value_39 : decode cX2_value 39 = .ok (.iload 4, 2) := by decide +kernel
theorem dX2_value_41 : decode cX2_value 41 = .ok (.bipush 115, 2) := by decide +kernel
theorem dX2_value_43 : decode cX2_value 43 = .ok (.if_icmp .eq 6, 3) := by decide +kernel
theorem dX2_value_46 : decode cX2_value 46 = .ok (.iinc 2 (-1), 3) := by decide +kernel
theorem dX2_value_49 : decode cX2_value 49 = .ok (.iload_n 2, 1) := by decide +kernel
theorem dX2_value_50 : decode cX2_value 50 = .ok (.iconst 1, 1) := by decide +kernel
theorem dX2_value_51 : decode cX2_value 51 = .ok (.if_icmp .lt 9, 3) := by decide +kernel
theorem dX2_value_54 : decode cX2_value 54 = .ok (.iload_n 2, 1) := by decide +kernel
theorem dX2_value_55 : decode cX2_value 55 = .ok (.bipush 30, 2) := by decide +kernel
theorem dX2_value_57 : decode cX2_value 57 = .ok (.if_icmp .le 5, 3) := by decide +kernel
theorem dX2_value_60 : decode cX2_value 60 = .ok (.iconst 0, 1) := by decide +kernel
theorem dX2_value_61 : decode cX2_value 61 = .ok (.ireturn, 1) := by decide +kernel
theorem dX2_value_62 : decode cX2_value 62 = .ok (.aload_n 0, 1) := by decide +kernel
theorem dX2_value_63 : decode cX2_value 63 = .ok (.getfield 18, 3) := by decide +kernel
theorem dX2_value_66 : decode cX2_value 66 = .ok (.iload_n 2, 1) := by decide +kernel
theorem dX2_value_67 : decode cX2_value 67 = .ok (.iaload, 1) := by decide +kernel
theorem dX2_value_68 : decode cX2_value 68 = .ok (.istore 5, 2) := by decide +kernel
theorem dX2_value_70 : decode cX2_value 70 = .ok (.aload_n 0, 1) := by decide +kernel
theorem dX2_value_71 : decode cX2_value 71 = .ok (.getfield 18, 3) := by decide +kernel
theorem dX2_value_74 : decode cX2_value 74 = .ok (.iload_n 2, 1) := by decide +kernel
theorem dX2_value_75 : decode cX2_value 75 = .ok (.iconst 1, 1) := by decide +kernel
theorem dX2_value_76 : decode cX2_value 76 = .ok (.iadd, 1) := by decide +kernel
theorem dX2_value_77 : decode cX2_value 77 = .ok (.iaload, 1) := by decide +kernel
theorem dX2_value_78 : decode cX2_value 78 = .ok (.istore 6, 2) := by decide +kernel
theorem dX2_value_80 : decode cX2_value 80 = .ok (.iload 4, 2) := by decide +kernel
theorem dX2_value_82 : decode cX2_value 82 = .ok (.lookupswitch 364 #[(2, 114), (37, 341), (42, 304), (43, 276), (45, 290), (47, 318), (60, 213), (61, 255), (62, 234), (113, 189), (114, 165), (115, 146), (116, 129)], 114) := by decide +kernel
theorem dX2_value_196 : decode cX2_value 196 = .ok (.aload_n 0, 1) := by decide +kernel
theorem dX2_value_197 : decode cX2_value 197 = .ok (.getfield 18, 3) := by decide +kernel
theorem dX2_value_200 : decode cX2_value 200 = .ok (.iload_n 2, 1) := by decide +kernel
theorem dX2_value_201 : decode cX2_value 201 = .ok (.aload_n 0, 1) := by decide +kernel
theorem dX2_value_202 : decode cX2_value 202 = .ok (.getfield 15, 3) := by decide +kernel
theorem dX2_value_205 : decode cX2_value 205 = .ok (.iload_n 3, 1) := by decide +kernel
theorem dX2_value_206 : decode cX2_value 206 = .ok (.iaload, 1) := by decide +kernel
theorem dX2_value_207 : decode cX2_value 207 = .ok (.iastore, 1) := by decide +kernel
theorem dX2_value_208 : decode cX2_value 208 = .ok (.goto 240, 3) := by decide +kernel
theorem dX2_value_211 : decode cX2_value 211 = .ok (.aload_n 0, 1) := by decide +kernel
theorem dX2_value_212 : decode cX2_value 212 = .ok (.getfield 18, 3) := by decide +kernel
theorem dX2_value_215 : decode cX2_value 215 = .ok (.iload_n 2, 1) := by decide +kernel
theorem dX2_value_216 : decode cX2_value 216 = .ok (.aload_n 1, 1) := by decide +kernel
theorem dX2_value_217 : decode cX2_value 217 = .ok (.aload_n 0, 1) := by decide +kernel
theorem dX2_value_218 : decode cX2_value 218 = .ok (.getfield 15, 3) := by decide +kernel
theorem dX2_value_221 : decode cX2_value 221 = .ok (.iload_n 3, 1) := by decide +kernel
theorem dX2_value_222 : decode cX2_value 222 = .ok (.iaload, 1) := by decide +kernel
theorem dX2_value_223 : decode cX2_value 223 = .ok (.iaload, 1) := by decide +kernel
theorem dX2_value_224 : decode cX2_value 224 = .ok (.iastore, 1) := by decide +kernel
theorem dX2_value_225 : decode cX2_value 225 = .ok (.goto 223, 3) := by decide +kernel
theorem dX2_value_228 : decode cX2_value 228 = .ok (.aload_n 0, 1) := by decide +kernel
theorem dX2_value_229 : decode cX2_value 229 = .ok (.getfield 18, 3) := by decide +kernel
theorem dX2_value_232 : decode cX2_value 232 = .ok (.iload_n 2, 1) := by decide +kernel
theorem dX2_value_233 : decode cX2_value 233 = .ok (.iload 5, 2) := by decide +kernel
theorem dX2_value_235 : decode cX2_value 235 = .ok (.ifCond .ne 7, 3) := by decide +kernel
theorem dX2_value_238 : decode cX2_value 238 = .ok (.iconst 1, 1) := by decide +kernel
theorem dX2_value_239 : decode cX2_value 239 = .ok (.goto 4, 3) := by decide +kernel
theorem dX2_value_242 : decode cX2_value 242 = .ok (.iconst 0, 1) := by decide +kernel
theorem dX2_value_243 : decode cX2_value 243 = .ok (.iastore, 1) := by decide +kernel
theorem dX2_value_244 : decode cX2_value 244 = .ok (.goto 204, 3) := by decide +kernel
theorem dX2_value_247 : decode cX2_value 247 = .ok (.aload_n 0, 1) := by decide +kernel
theorem dX2_value_248 : decode cX2_value 248 = .ok (.getfield 18, 3) := by decide +kernel
theorem dX2_value_251 : decode cX2_value 251 = .ok (.iload_n 2, 1) := by decide +kernel
theorem dX2_value_252 : decode cX2_value 252 = .ok (.iload 5, 2) := by decide +kernel
theorem dX2_value_254 : decode cX2_value 254 = .ok (.ifCond .eq 12, 3) := by decide +kernel
theorem dX2_value_257 : decode cX2_value 257 = .ok (.iload 6, 2) := by decide +kernel
theorem dX2_value_259 : decode cX2_value 259 = .ok (.ifCond .eq 7, 3) := by decide +kernel
theorem dX2_value_262 : decode cX2_value 262 = .ok (.iconst 1, 1) := by decide +kernel
theorem dX2_value_263 : decode cX2_value 263 = .ok (.goto 4, 3) := by decide +kernel
theorem dX2_value_266 : decode cX2_value 266 = .ok (.iconst 0, 1) := by decide +kernel
theorem dX2_value_267 : decode cX2_value 267 = .ok (.iastore, 1) := by decide +kernel
theorem dX2_value_268 : decode cX2_value 268 = .ok (.goto 180, 3) := by decide +kernel
theorem dX2_value_271 : decode cX2_value 271 = .ok (.aload_n 0, 1) := by decide +kernel
theorem dX2_value_272 : decode cX2_value 272 = .ok (.getfield 18, 3) := by decide +kernel
theorem dX2_value_275 : decode cX2_value 275 = .ok (.iload_n 2, 1) := by decide +kernel
theorem dX2_value_276 : decode cX2_value 276 = .ok (.iload 5, 2) := by decide +kernel
theorem dX2_value_278 : decode cX2_value 278 = .ok (.ifCond .ne 8, 3) := by decide +kernel
theorem dX2_value_281 : decode cX2_value 281 = .ok (.iload 6, 2) := by decide +kernel
theorem dX2_value_283 : decode cX2_value 283 = .ok (.ifCond .eq 7, 3) := by decide +kernel
theorem dX2_value_286 : decode cX2_value 286 = .ok (.iconst 1, 1) := by decide +kernel
theorem dX2_value_287 : decode cX2_value 287 = .ok (.goto 4, 3) := by decide +kernel
theorem dX2_value_290 : decode cX2_value 290 = .ok (.iconst 0, 1) := by decide +kernel
theorem dX2_value_291 : decode cX2_value 291 = .ok (.iastore, 1) := by decide +kernel
theorem dX2_value_292 : decode cX2_value 292 = .ok (.goto 156, 3) := by decide +kernel
theorem dX2_value_295 : decode cX2_value 295 = .ok (.aload_n 0, 1) := by decide +kernel
theorem dX2_value_296 : decode cX2_value 296 = .ok (.getfield 18, 3) := by decide +kernel
theorem dX2_value_299 : decode cX2_value 299 = .ok (.iload_n 2, 1) := by decide +kernel
theorem dX2_value_300 : decode cX2_value 300 = .ok (.iload 5, 2) := by decide +kernel
theorem dX2_value_302 : decode cX2_value 302 = .ok (.iload 6, 2) := by decide +kernel
theorem dX2_value_304 : decode cX2_value 304 = .ok (.if_icmp .ge 7, 3) := by decide +kernel
theorem dX2_value_307 : decode cX2_value 307 = .ok (.iconst 1, 1) := by decide +kernel
theorem dX2_value_308 : decode cX2_value 308 = .ok (.goto 4, 3) := by decide +kernel
theorem dX2_value_311 : decode cX2_value 311 = .ok (.iconst 0, 1) := by decide +kernel
theorem dX2_value_312 : decode cX2_value 312 = .ok (.iastore, 1) := by decide +kernel
theorem dX2_value_313 : decode cX2_value 313 = .ok (.goto 135, 3) := by decide +kernel
theorem dX2_value_316 : decode cX2_value 316 = .ok (.aload_n 0, 1) := by decide +kernel
theorem dX2_value_317 : decode cX2_value 317 = .ok (.getfield 18, 3) := by decide +kernel
theorem dX2_value_320 : decode cX2_value 320 = .ok (.iload_n 2, 1) := by decide +kernel
theorem dX2_value_321 : decode cX2_value 321 = .ok (.iload 5, 2) := by decide +kernel
theorem dX2_value_323 : decode cX2_value 323 = .ok (.iload 6, 2) := by decide +kernel
theorem dX2_value_325 : decode cX2_value 325 = .ok (.if_icmp .le 7, 3) := by decide +kernel
theorem dX2_value_328 : decode cX2_value 328 = .ok (.iconst 1, 1) := by decide +kernel
theorem dX2_value_329 : decode cX2_value 329 = .ok (.goto 4, 3) := by decide +kernel
theorem dX2_value_332 : decode cX2_value 332 = .ok (.iconst 0, 1) := by decide +kernel
theorem dX2_value_333 : decode cX2_value 333 = .ok (.iastore, 1) := by decide +kernel
theorem dX2_value_334 : decode cX2_value 334 = .ok (.goto 114, 3) := by decide +kernel
theorem dX2_value_337 : decode cX2_value 337 = .ok (.aload_n 0, 1) := by decide +kernel
theorem dX2_value_338 : decode cX2_value 338 = .ok (.getfield 18, 3) := by decide +kernel
theorem dX2_value_341 : decode cX2_value 341 = .ok (.iload_n 2, 1) := by decide +kernel
theorem dX2_value_342 : decode cX2_value 342 = .ok (.iload 5, 2) := by decide +kernel
theorem dX2_value_344 : decode cX2_value 344 = .ok (.iload 6, 2) := by decide +kernel
theorem dX2_value_346 : decode cX2_value 346 = .ok (.if_icmp .ne 7, 3) := by decide +kernel
theorem dX2_value_349 : decode cX2_value 349 = .ok (.iconst 1, 1) := by decide +kernel
theorem dX2_value_350 : decode cX2_value 350 = .ok (.goto 4, 3) := by decide +kernel
theorem dX2_value_353 : decode cX2_value 353 = .ok (.iconst 0, 1) := by decide +kernel
theorem dX2_value_354 : decode cX2_value 354 = .ok (.iastore, 1) := by decide +kernel
theorem dX2_value_355 : decode cX2_value 355 = .ok (.goto 93, 3) := by decide +kernel
theorem dX2_value_358 : decode cX2_value 358 = .ok (.aload_n 0, 1) := by decide +kernel
theorem dX2_value_359 : decode cX2_value 359 = .ok (.getfield 18, 3) := by decide +kernel
theorem dX2_value_362 : decode cX2_value 362 = .ok (.iload_n 2, 1) := by decide +kernel
theorem dX2_value_363 : decode cX2_value 363 = .ok (.iload 5, 2) := by decide +kernel
theorem dX2_value_365 : decode cX2_value 365 = .ok (.iload 6, 2) := by decide +kernel
theorem dX2_value_367 : decode cX2_value 367 = .ok (.iadd, 1) := by decide +kernel
theorem dX2_value_368 : decode cX2_value 368 = .ok (.iastore, 1) := by decide +kernel
theorem dX2_value_369 : decode cX2_value 369 = .ok (.goto 79, 3) := by decide +kernel
theorem dX2_value_372 : decode cX2_value 372 = .ok (.aload_n 0, 1) := by decide +kernel
theorem dX2_value_373 : decode cX2_value 373 = .ok (.getfield 18, 3) := by decide +kernel
theorem dX2_value_376 : decode cX2_value 376 = .ok (.iload_n 2, 1) := by decide +kernel
theorem dX2_value_377 : decode cX2_value 377 = .ok (.iload 5, 2) := by decide +kernel
theorem dX2_value_379 : decode cX2_value 379 = .ok (.iload 6, 2) := by decide +kernel
theorem dX2_value_381 : decode cX2_value 381 = .ok (.isub, 1) := by decide +kernel
theorem dX2_value_382 : decode cX2_value 382 = .ok (.iastore, 1) := by decide +kernel
theorem dX2_value_383 : decode cX2_value 383 = .ok (.goto 65, 3) := by decide +kernel
theorem dX2_value_386 : decode cX2_value 386 = .ok (.aload_n 0, 1) := by decide +kernel
theorem dX2_value_387 : decode cX2_value 387 = .ok (.getfield 18, 3) := by decide +kernel
theorem dX2_value_390 : decode cX2_value 390 = .ok (.iload_n 2, 1) := by decide +kernel
theorem dX2_value_391 : decode cX2_value 391 = .ok (.iload 5, 2) := by decide +kernel
theorem dX2_value_393 : decode cX2_value 393 = .ok (.iload 6, 2) := by decide +kernel
theorem dX2_value_395 : decode cX2_value 395 = .ok (.imul, 1) := by decide +kernel
theorem dX2_value_396 : decode cX2_value 396 = .ok (.iastore, 1) := by decide +kernel
theorem dX2_value_397 : decode cX2_value 397 = .ok (.goto 51, 3) := by decide +kernel
theorem dX2_value_400 : decode cX2_value 400 = .ok (.aload_n 0, 1) := by decide +kernel
theorem dX2_value_401 : decode cX2_value 401 = .ok (.getfield 18, 3) := by decide +kernel
theorem dX2_value_404 : decode cX2_value 404 = .ok (.iload_n 2, 1) := by decide +kernel
theorem dX2_value_405 : decode cX2_value 405 = .ok (.iload 6, 2) := by decide +kernel
theorem dX2_value_407 : decode cX2_value 407 = .ok (.ifCond .ne 7, 3) := by decide +kernel
theorem dX2_value_410 : decode cX2_value 410 = .ok (.iconst 0, 1) := by decide +kernel
theorem dX2_value_411 : decode cX2_value 411 = .ok (.goto 8, 3) := by decide +kernel
theorem dX2_value_414 : decode cX2_value 414 = .ok (.iload 5, 2) := by decide +kernel
theorem dX2_value_416 : decode cX2_value 416 = .ok (.iload 6, 2) := by decide +kernel
theorem dX2_value_418 : decode cX2_value 418 = .ok (.idiv, 1) := by decide +kernel
theorem dX2_value_419 : decode cX2_value 419 = .ok (.iastore, 1) := by decide +kernel
theorem dX2_value_420 : decode cX2_value 420 = .ok (.goto 28, 3) := by decide +kernel
theorem dX2_value_423 : decode cX2_value 423 = .ok (.aload_n 0, 1) := by decide +kernel
theorem dX2_value_424 : decode cX2_value 424 = .ok (.getfield 18, 3) := by decide +kernel
theorem dX2_value_427 : decode cX2_value 427 = .ok (.iload_n 2, 1) := by decide +kernel
theorem dX2_value_428 : decode cX2_value 428 = .ok (.iload 6, 2) := by decide +kernel
theorem dX2_value_430 : decode cX2_value 430 = .ok (.ifCond .ne 7, 3) := by decide +kernel
theorem dX2_value_433 : decode cX2_value 433 = .ok (.iconst 0, 1) := by decide +kernel
theorem dX2_value_434 : decode cX2_value 434 = .ok (.goto 8, 3) := by decide +kernel
theorem dX2_value_437 : decode cX2_value 437 = .ok (.iload 5, 2) := by decide +kernel
theorem dX2_value_439 : decode cX2_value 439 = .ok (.iload 6, 2) := by decide +kernel
theorem dX2_value_441 : decode cX2_value 441 = .ok (.irem, 1) := by decide +kernel
theorem dX2_value_442 : decode cX2_value 442 = .ok (.iastore, 1) := by decide +kernel
theorem dX2_value_443 : decode cX2_value 443 = .ok (.goto 5, 3) := by decide +kernel
theorem dX2_value_446 : decode cX2_value 446 = .ok (.iconst 0, 1) := by decide +kernel
theorem dX2_value_447 : decode cX2_value 447 = .ok (.ireturn, 1) := by decide +kernel
theorem dX2_value_448 : decode cX2_value 448 = .ok (.iinc 3 1, 3) := by decide +kernel
theorem dX2_value_451 : decode cX2_value 451 = .ok (.goto (-447), 3) := by decide +kernel
theorem dX2_value_454 : decode cX2_value 454 = .ok (.aload_n 0, 1) := by decide +kernel
theorem dX2_value_455 : decode cX2_value 455 = .ok (.getfield 18, 3) := by decide +kernel
theorem dX2_value_458 : decode cX2_value 458 = .ok (.iload_n 2, 1) := by decide +kernel
theorem dX2_value_459 : decode cX2_value 459 = .ok (.iaload, 1) := by decide +kernel
theorem dX2_value_460 : decode cX2_value 460 = .ok (.ireturn, 1) := by decide +kernel
theorem dX3_init_0 : decode cX3_init 0 = .ok (.aload_n 0, 1) := by decide +kernel
theorem dX3_init_1 : decode cX3_init 1 = .ok (.invokespecial 1, 3) := by decide +kernel
theorem dX3_init_4 : decode cX3_init 4 = .ok (.aload_n 0, 1) := by decide +kernel
theorem dX3_init_5 : decode cX3_init 5 = .ok (.sipush 2583, 3) := by decide +kernel
theorem dX3_init_8 : decode cX3_init 8 = .ok (.newarray .int, 2) := by decide +kernel
theorem dX3_init_10 : decode cX3_init 10 = .ok (.putfield 11, 3) := by decide +kernel
theorem dX3_init_13 : decode cX3_init 13 = .ok (.return_, 1) := by decide +kernel
theorem dX3_begin_0 : decode cX3_begin 0 = .ok (.aload_n 0, 1) := by decide +kernel
theorem dX3_begin_1 : decode cX3_begin 1 = .ok (.iconst 0, 1) := by decide +kernel
theorem dX3_begin_2 : decode cX3_begin 2 = .ok (.putfield 15, 3) := by decide +kernel
theorem dX3_begin_5 : decode cX3_begin 5 = .ok (.aload_n 0, 1) := by decide +kernel
theorem dX3_begin_6 : decode cX3_begin 6 = .ok (.iconst 0, 1) := by decide +kernel
theorem dX3_begin_7 : decode cX3_begin 7 = .ok (.putfield 19, 3) := by decide +kernel
theorem dX3_begin_10 : decode cX3_begin 10 = .ok (.aload_n 1, 1) := by decide +kernel
theorem dX3_begin_11 : decode cX3_begin 11 = .ok (.aload_n 0, 1) := by decide +kernel
theorem dX3_begin_12 : decode cX3_begin 12 = .ok (.getfield 11, 3) := by decide +kernel
theorem dX3_begin_15 : decode cX3_begin 15 = .ok (.iconst 0, 1) := by decide +kernel
theorem dX3_begin_16 : decode cX3_begin 16 = .ok (.invokevirtual 22, 3) := by decide +kernel
theorem dX3_begin_19 : decode cX3_begin 19 = .ok (.return_, 1) := by decide +kernel
theorem dX3_add_0 : decode cX3_add 0 = .ok (.aload_n 0, 1) := by decide +kernel
theorem dX3_add_1 : decode cX3_add 1 = .ok (.getfield 15, 3) := by decide +kernel
theorem dX3_add_4 : decode cX3_add 4 = .ok (.bipush 40, 2) := by decide +kernel
theorem dX3_add_6 : decode cX3_add 6 = .ok (.if_icmp .ne 23, 3) := by decide +kernel
theorem dX3_add_9 : decode cX3_add 9 = .ok (.aload_n 0, 1) := by decide +kernel
theorem dX3_add_10 : decode cX3_add 10 = .ok (.getfield 11, 3) := by decide +kernel
theorem dX3_add_13 : decode cX3_add 13 = .ok (.bipush 63, 2) := by decide +kernel
theorem dX3_add_15 : decode cX3_add 15 = .ok (.aload_n 0, 1) := by decide +kernel
theorem dX3_add_16 : decode cX3_add 16 = .ok (.getfield 11, 3) := by decide +kernel
theorem dX3_add_19 : decode cX3_add 19 = .ok (.iconst 0, 1) := by decide +kernel
theorem dX3_add_20 : decode cX3_add 20 = .ok (.sipush 2520, 3) := by decide +kernel
theorem dX3_add_23 : decode cX3_add 23 = .ok (.invokestatic 26, 3) := by decide +kernel
theorem dX3_add_26 : decode cX3_add 26 = .ok (.goto 13, 3) := by decide +kernel
theorem dX3_add_29 : decode cX3_add 29 = .ok (.aload_n 0, 1) := by decide +kernel
theorem dX3_add_30 : decode cX3_add 30 = .ok (.dup, 1) := by decide +kernel
theorem dX3_add_31 : decode cX3_add 31 = .ok (.getfield 15, 3) := by decide +kernel
theorem dX3_add_34 : decode cX3_add 34 = .ok (.iconst 1, 1) := by decide +kernel
theorem dX3_add_35 : decode cX3_add 35 = .ok (.iadd, 1) := by decide +kernel
theorem dX3_add_36 : decode cX3_add 36 = .ok (.putfield 15, 3) := by decide +kernel
theorem dX3_add_39 : decode cX3_add 39 = .ok (.aload_n 0, 1) := by decide +kernel
theorem dX3_add_40 : decode cX3_add 40 = .ok (.aload_n 0, 1) := by decide +kernel
theorem dX3_add_41 : decode cX3_add 41 = .ok (.getfield 15, 3) := by decide +kernel
theorem dX3_add_44 : decode cX3_add 44 = .ok (.putfield 19, 3) := by decide +kernel
theorem dX3_add_47 : decode cX3_add 47 = .ok (.aload_n 1, 1) := by decide +kernel
theorem dX3_add_48 : decode cX3_add 48 = .ok (.aload_n 0, 1) := by decide +kernel
theorem dX3_add_49 : decode cX3_add 49 = .ok (.getfield 11, 3) := by decide +kernel
theorem dX3_add_52 : decode cX3_add 52 = .ok (.aload_n 0, 1) := by decide +kernel
theorem dX3_add_53 : decode cX3_add 53 = .ok (.getfield 15, 3) := by decide +kernel
theorem dX3_add_56 : decode cX3_add 56 = .ok (.bipush 63, 2) := by decide +kernel
theorem dX3_add_58 : decode cX3_add 58 = .ok (.imul, 1) := by decide +kernel
theorem dX3_add_59 : decode cX3_add 59 = .ok (.invokevirtual 22, 3) := by decide +kernel
theorem dX3_add_62 : decode cX3_add 62 = .ok (.return_, 1) := by decide +kernel
theorem dX3_goBack_0 : decode cX3_goBack 0 = .ok (.aload_n 0, 1) := by decide +kernel
theorem dX3_goBack_1 : decode cX3_goBack 1 = .ok (.getfield 15, 3) := by decide +kernel
theorem dX3_goBack_4 : decode cX3_goBack 4 = .ok (.ifCond .ne 5, 3) := by decide +kernel
theorem dX3_goBack_7 : decode cX3_goBack 7 = .ok (.iconst 0, 1) := by decide +kernel
theorem dX3_goBack_8 : decode cX3_goBack 8 = .ok (.ireturn, 1) := by decide +kernel
theorem dX3_goBack_9 : decode cX3_goBack 9 = .ok (.aload_n 0, 1) := by decide +kernel
theorem dX3_goBack_10 : decode cX3_goBack 10 = .ok (.dup, 1) := by decide +kernel
theorem dX3_goBack_11 : decode cX3_goBack 11 = .ok (.getfield 15, 3) := by decide +kernel
theorem dX3_goBack_14 : decode cX3_goBack 14 = .ok (.iconst 1, 1) := by decide +kernel
theorem dX3_goBack_15 : decode cX3_goBack 15 = .ok (.isub, 1) := by decide +kernel
theorem dX3_goBack_16 : decode cX3_goBack 16 = .ok (.putfield 15, 3) := by decide +kernel
theorem dX3_goBack_19 : decode cX3_goBack 19 = .ok (.aload_n 1, 1) := by decide +kernel
theorem dX3_goBack_20 : decode cX3_goBack 20 = .ok (.aload_n 0, 1) := by decide +kernel
theorem dX3_goBack_21 : decode cX3_goBack 21 = .ok (.getfield 11, 3) := by decide +kernel
theorem dX3_goBack_24 : decode cX3_goBack 24 = .ok (.aload_n 0, 1) := by decide +kernel
theorem dX3_goBack_25 : decode cX3_goBack 25 = .ok (.getfield 15, 3) := by decide +kernel
theorem dX3_goBack_28 : decode cX3_goBack 28 = .ok (.bipush 63, 2) := by decide +kernel
theorem dX3_goBack_30 : decode cX3_goBack 30 = .ok (.imul, 1) := by decide +kernel
theorem dX3_goBack_31 : decode cX3_goBack 31 = .ok (.invokevirtual 32, 3) := by decide +kernel
theorem dX3_goBack_34 : decode cX3_goBack 34 = .ok (.iconst 1, 1) := by decide +kernel
theorem dX3_goBack_35 : decode cX3_goBack 35 = .ok (.ireturn, 1) := by decide +kernel
theorem dX3_goForth_0 : decode cX3_goForth 0 = .ok (.aload_n 0, 1) := by decide +kernel
theorem dX3_goForth_1 : decode cX3_goForth 1 = .ok (.getfield 15, 3) := by decide +kernel
theorem dX3_goForth_4 : decode cX3_goForth 4 = .ok (.aload_n 0, 1) := by decide +kernel
theorem dX3_goForth_5 : decode cX3_goForth 5 = .ok (.getfield 19, 3) := by decide +kernel
theorem dX3_goForth_8 : decode cX3_goForth 8 = .ok (.if_icmp .ne 5, 3) := by decide +kernel
theorem dX3_goForth_11 : decode cX3_goForth 11 = .ok (.iconst 0, 1) := by decide +kernel
theorem dX3_goForth_12 : decode cX3_goForth 12 = .ok (.ireturn, 1) := by decide +kernel
theorem dX3_goForth_13 : decode cX3_goForth 13 = .ok (.aload_n 0, 1) := by decide +kernel
theorem dX3_goForth_14 : decode cX3_goForth 14 = .ok (.dup, 1) := by decide +kernel
theorem dX3_goForth_15 : decode cX3_goForth 15 = .ok (.getfield 15, 3) := by decide +kernel
theorem dX3_goForth_18 : decode cX3_goForth 18 = .ok (.iconst 1, 1) := by decide +kernel
theorem dX3_goForth_19 : decode cX3_goForth 19 = .ok (.iadd, 1) := by decide +kernel
theorem dX3_goForth_20 : decode cX3_goForth 20 = .ok (.putfield 15, 3) := by decide +kernel
theorem dX3_goForth_23 : decode cX3_goForth 23 = .ok (.aload_n 1, 1) := by decide +kernel
theorem dX3_goForth_24 : decode cX3_goForth 24 = .ok (.aload_n 0, 1) := by decide +kernel
theorem dX3_goForth_25 : decode cX3_goForth 25 = .ok (.getfield 11, 3) := by decide +kernel
theorem dX3_goForth_28 : decode cX3_goForth 28 = .ok (.aload_n 0, 1) := by decide +kernel
theorem dX3_goForth_29 : decode cX3_goForth 29 = .ok (.getfield 15, 3) := by decide +kernel
theorem dX3_goForth_32 : decode cX3_goForth 32 = .ok (.bipush 63, 2) := by decide +kernel
theorem dX3_goForth_34 : decode cX3_goForth 34 = .ok (.imul, 1) := by decide +kernel
theorem dX3_goForth_35 : decode cX3_goForth 35 = .ok (.invokevirtual 32, 3) := by decide +kernel
theorem dX3_goForth_38 : decode cX3_goForth 38 = .ok (.iconst 1, 1) := by decide +kernel
theorem dX3_goForth_39 : decode cX3_goForth 39 = .ok (.ireturn, 1) := by decide +kernel
theorem dX4_init_0 : decode cX4_init 0 = .ok (.aload_n 0, 1) := by decide +kernel
theorem dX4_init_1 : decode cX4_init 1 = .ok (.invokespecial 3, 3) := by decide +kernel
theorem dX4_init_4 : decode cX4_init 4 = .ok (.aload_n 0, 1) := by decide +kernel
theorem dX4_init_5 : decode cX4_init 5 = .ok (.new 9, 3) := by decide +kernel
theorem dX4_init_8 : decode cX4_init 8 = .ok (.dup, 1) := by decide +kernel
theorem dX4_init_9 : decode cX4_init 9 = .ok (.invokespecial 11, 3) := by decide +kernel
theorem dX4_init_12 : decode cX4_init 12 = .ok (.putfield 12, 3) := by decide +kernel
theorem dX4_init_15 : decode cX4_init 15 = .ok (.aload_n 0, 1) := by decide +kernel
theorem dX4_init_16 : decode cX4_init 16 = .ok (.bipush 7, 2) := by decide +kernel
theorem dX4_init_18 : decode cX4_init 18 = .ok (.anewarray 18, 3) := by decide +kernel
theorem dX4_init_21 : decode cX4_init 21 = .ok (.putfield 20, 3) := by decide +kernel
theorem dX4_init_24 : decode cX4_init 24 = .ok (.aload_n 0, 1) := by decide +kernel
theorem dX4_init_25 : decode cX4_init 25 = .ok (.bipush 6, 2) := by decide +kernel
theorem dX4_init_27 : decode cX4_init 27 = .ok (.newarray .int, 2) := by decide +kernel
theorem dX4_init_29 : decode cX4_init 29 = .ok (.putfield 24, 3) := by decide +kernel
theorem dX4_init_32 : decode cX4_init 32 = .ok (.aload_n 0, 1) := by decide +kernel
theorem dX4_init_33 : decode cX4_init 33 = .ok (.bipush 6, 2) := by decide +kernel
theorem dX4_init_35 : decode cX4_init 35 = .ok (.newarray .int, 2) := by decide +kernel
theorem dX4_init_37 : decode cX4_init 37 = .ok (.putfield 28, 3) := by decide +kernel
theorem dX4_init_40 : decode cX4_init 40 = .ok (.iconst 0, 1) := by decide +kernel
theorem dX4_init_41 : decode cX4_init 41 = .ok (.istore_n 1, 1) := by decide +kernel
theorem dX4_init_42 : decode cX4_init 42 = .ok (.iload_n 1, 1) := by decide +kernel
theorem dX4_init_43 : decode cX4_init 43 = .ok (.aload_n 0, 1) := by decide +kernel
theorem dX4_init_44 : decode cX4_init 44 = .ok (.getfield 20, 3) := by decide +kernel
theorem dX4_init_47 : decode cX4_init 47 = .ok (.arraylength, 1) := by decide +kernel
theorem dX4_init_48 : decode cX4_init 48 = .ok (.if_icmp .ge 22, 3) := by decide +kernel
theorem dX4_init_51 : decode cX4_init 51 = .ok (.aload_n 0, 1) := by decide +kernel
theorem dX4_init_52 : decode cX4_init 52 = .ok (.getfield 20, 3) := by decide +kernel
theorem dX4_init_55 : decode cX4_init 55 = .ok (.iload_n 1, 1) := by decide +kernel
theorem dX4_init_56 : decode cX4_init 56 = .ok (.new 18, 3) := by decide +kernel
theorem dX4_init_59 : decode cX4_init 59 = .ok (.dup, 1) := by decide +kernel
theorem dX4_init_60 : decode cX4_init 60 = .ok (.invokespecial 31, 3) := by decide +kernel
theorem dX4_init_63 : decode cX4_init 63 = .ok (.aastore, 1) := by decide +kernel
theorem dX4_init_64 : decode cX4_init 64 = .ok (.iinc 1 1, 3) := by decide +kernel
theorem dX4_init_67 : decode cX4_init 67 = .ok (.goto (-25), 3) := by decide +kernel
theorem dX4_init_70 : decode cX4_init 70 = .ok (.return_, 1) := by decide +kernel
theorem dX4_hoursOfBest_0 : decode cX4_hoursOfBest 0 = .ok (.aload_n 0, 1) := by decide +kernel
theorem dX4_hoursOfBest_1 : decode cX4_hoursOfBest 1 = .ok (.iload_n 3, 1) := by decide +kernel
theorem dX4_hoursOfBest_2 : decode cX4_hoursOfBest 2 = .ok (.putfield 32, 3) := by decide +kernel
theorem dX4_hoursOfBest_5 : decode cX4_hoursOfBest 5 = .ok (.aload_n 0, 1) := by decide +kernel
theorem dX4_hoursOfBest_6 : decode cX4_hoursOfBest 6 = .ok (.sipush 301, 3) := by decide +kernel
theorem dX4_hoursOfBest_9 : decode cX4_hoursOfBest 9 = .ok (.putfield 36, 3) := by decide +kernel
theorem dX4_hoursOfBest_12 : decode cX4_hoursOfBest 12 = .ok (.aload_n 0, 1) := by decide +kernel
theorem dX4_hoursOfBest_13 : decode cX4_hoursOfBest 13 = .ok (.iconst 0, 1) := by decide +kernel
theorem dX4_hoursOfBest_14 : decode cX4_hoursOfBest 14 = .ok (.putfield 39, 3) := by decide +kernel
theorem dX4_hoursOfBest_17 : decode cX4_hoursOfBest 17 = .ok (.aload_n 0, 1) := by decide +kernel
theorem dX4_hoursOfBest_18 : decode cX4_hoursOfBest 18 = .ok (.getfield 20, 3) := by decide +kernel
theorem dX4_hoursOfBest_21 : decode cX4_hoursOfBest 21 = .ok (.iconst 0, 1) := by decide +kernel
theorem dX4_hoursOfBest_22 : decode cX4_hoursOfBest 22 = .ok (.aaload, 1) := by decide +kernel
theorem dX4_hoursOfBest_23 : decode cX4_hoursOfBest 23 = .ok (.astore 4, 2) := by decide +kernel
theorem dX4_hoursOfBest_25 : decode cX4_hoursOfBest 25 = .ok (.aload 4, 2) := by decide +kernel
theorem dX4_hoursOfBest_27 : decode cX4_hoursOfBest 27 = .ok (.aload_n 2, 1) := by decide +kernel
theorem dX4_hoursOfBest_28 : decode cX4_hoursOfBest 28 = .ok (.invokevirtual 42, 3) := by decide +kernel
theorem dX4_hoursOfBest_31 : decode cX4_hoursOfBest 31 = .ok (.iconst 0, 1) := by decide +kernel
theorem dX4_hoursOfBest_32 : decode cX4_hoursOfBest 32 = .ok (.istore 5, 2) := by decide +kernel
theorem dX4_hoursOfBest_34 : decode cX4_hoursOfBest 34 = .ok (.iload 5, 2) := by decide +kernel
theorem dX4_hoursOfBest_36 : decode cX4_hoursOfBest 36 = .ok (.aload_n 1, 1) := by decide +kernel
theorem dX4_hoursOfBest_37 : decode cX4_hoursOfBest 37 = .ok (.getfield 46, 3) := by decide +kernel
theorem dX4_hoursOfBest_40 : decode cX4_hoursOfBest 40 = .ok (.if_icmp .ge 46, 3) := by decide +kernel
theorem dX4_hoursOfBest_43 : decode cX4_hoursOfBest 43 = .ok (.aload 4, 2) := by decide +kernel
theorem dX4_hoursOfBest_45 : decode cX4_hoursOfBest 45 = .ok (.getfield 51, 3) := by decide +kernel
theorem dX4_hoursOfBest_48 : decode cX4_hoursOfBest 48 = .ok (.iload 5, 2) := by decide +kernel
theorem dX4_hoursOfBest_50 : decode cX4_hoursOfBest 50 = .ok (.iconst (-1), 1) := by decide +kernel
theorem dX4_hoursOfBest_51 : decode cX4_hoursOfBest 51 = .ok (.iastore, 1) := by decide +kernel
theorem dX4_hoursOfBest_52 : decode cX4_hoursOfBest 52 = .ok (.aload 4, 2) := by decide +kernel
theorem dX4_hoursOfBest_54 : decode cX4_hoursOfBest 54 = .ok (.getfield 54, 3) := by decide +kernel
theorem dX4_hoursOfBest_57 : decode cX4_hoursOfBest 57 = .ok (.aload_n 0, 1) := by decide +kernel
theorem dX4_hoursOfBest_58 : decode cX4_hoursOfBest 58 = .ok (.getfield 32, 3) := by decide +kernel
theorem dX4_hoursOfBest_61 : decode cX4_hoursOfBest 61 = .ok (.iload 5, 2) := by decide +kernel
theorem dX4_hoursOfBest_63 : decode cX4_hoursOfBest 63 = .ok (.invokestatic 57, 3) := by decide +kernel
theorem dX4_hoursOfBest_66 : decode cX4_hoursOfBest 66 = .ok (.iaload, 1) := by decide +kernel
theorem dX4_hoursOfBest_67 : decode cX4_hoursOfBest 67 = .ok (.ifCond .le 13, 3) := by decide +kernel
theorem dX4_hoursOfBest_70 : decode cX4_hoursOfBest 70 = .ok (.aload_n 0, 1) := by decide +kernel
theorem dX4_hoursOfBest_71 : decode cX4_hoursOfBest 71 = .ok (.dup, 1) := by decide +kernel
theorem dX4_hoursOfBest_72 : decode cX4_hoursOfBest 72 = .ok (.getfield 39, 3) := by decide +kernel
theorem dX4_hoursOfBest_75 : decode cX4_hoursOfBest 75 = .ok (.iconst 1, 1) := by decide +kernel
theorem dX4_hoursOfBest_76 : decode cX4_hoursOfBest 76 = .ok (.iadd, 1) := by decide +kernel
theorem dX4_hoursOfBest_77 : decode cX4_hoursOfBest 77 = .ok (.putfield 39, 3) := by decide +kernel
theorem dX4_hoursOfBest_80 : decode cX4_hoursOfBest 80 = .ok (.iinc 5 1, 3) := by decide +kernel
theorem dX4_hoursOfBest_83 : decode cX4_hoursOfBest 83 = .ok (.goto (-49), 3) := by decide +kernel
theorem dX4_hoursOfBest_86 : decode cX4_hoursOfBest 86 = .ok (.aload 4, 2) := by decide +kernel
theorem dX4_hoursOfBest_88 : decode cX4_hoursOfBest 88 = .ok (.getfield 61, 3) := by decide +kernel
theorem dX4_hoursOfBest_91 : decode cX4_hoursOfBest 91 = .ok (.aload_n 0, 1) := by decide +kernel
theorem dX4_hoursOfBest_92 : decode cX4_hoursOfBest 92 = .ok (.getfield 32, 3) := by decide +kernel
theorem dX4_hoursOfBest_95 : decode cX4_hoursOfBest 95 = .ok (.aload_n 0, 1) := by decide +kernel
theorem dX4_hoursOfBest_96 : decode cX4_hoursOfBest 96 = .ok (.getfield 32, 3) := by decide +kernel
theorem dX4_hoursOfBest_99 : decode cX4_hoursOfBest 99 = .ok (.iastore, 1) := by decide +kernel
theorem dX4_hoursOfBest_100 : decode cX4_hoursOfBest 100 = .ok (.aload_n 0, 1) := by decide +kernel
theorem dX4_hoursOfBest_101 : decode cX4_hoursOfBest 101 = .ok (.aload_n 1, 1) := by decide +kernel
theorem dX4_hoursOfBest_102 : decode cX4_hoursOfBest 102 = .ok (.iconst 0, 1) := by decide +kernel
theorem dX4_hoursOfBest_103 : decode cX4_hoursOfBest 103 = .ok (.iconst 0, 1) := by decide +kernel
theorem dX4_hoursOfBest_104 : decode cX4_hoursOfBest 104 = .ok (.invokevirtual 64, 3) := by decide +kernel
theorem dX4_hoursOfBest_107 : decode cX4_hoursOfBest 107 = .ok (.aload_n 0, 1) := by decide +kernel
theorem dX4_hoursOfBest_108 : decode cX4_hoursOfBest 108 = .ok (.getfield 36, 3) := by decide +kernel
theorem dX4_hoursOfBest_111 : decode cX4_hoursOfBest 111 = .ok (.sipush 300, 3) := by decide +kernel
theorem dX4_hoursOfBest_114 : decode cX4_hoursOfBest 114 = .ok (.if_icmp .le 7, 3) := by decide +kernel
theorem dX4_hoursOfBest_117 : decode cX4_hoursOfBest 117 = .ok (.iconst (-1), 1) := by decide +kernel
theorem dX4_hoursOfBest_118 : decode cX4_hoursOfBest 118 = .ok (.goto 7, 3) := by decide +kernel
theorem dX4_hoursOfBest_121 : decode cX4_hoursOfBest 121 = .ok (.aload_n 0, 1) := by decide +kernel
theorem dX4_hoursOfBest_122 : decode cX4_hoursOfBest 122 = .ok (.getfield 36, 3) := by decide +kernel
theorem dX4_hoursOfBest_125 : decode cX4_hoursOfBest 125 = .ok (.ireturn, 1) := by decide +kernel
theorem dX4_tryOrders_0 : decode cX4_tryOrders 0 = .ok (.iload_n 2, 1) := by decide +kernel
theorem dX4_tryOrders_1 : decode cX4_tryOrders 1 = .ok (.aload_n 0, 1) := by decide +kernel
theorem dX4_tryOrders_2 : decode cX4_tryOrders 2 = .ok (.getfield 39, 3) := by decide +kernel
theorem dX4_tryOrders_5 : decode cX4_tryOrders 5 = .ok (.if_icmp .ge 9, 3) := by decide +kernel
theorem dX4_tryOrders_8 : decode cX4_tryOrders 8 = .ok (.iload_n 2, 1) := by decide +kernel
theorem dX4_tryOrders_9 : decode cX4_tryOrders 9 = .ok (.bipush 6, 2) := by decide +kernel
theorem dX4_tryOrders_11 : decode cX4_tryOrders 11 = .ok (.if_icmp .lt 24, 3) := by decide +kernel
theorem dX4_tryOrders_14 : decode cX4_tryOrders 14 = .ok (.aload_n 0, 1) := by decide +kernel
theorem dX4_tryOrders_15 : decode cX4_tryOrders 15 = .ok (.iload_n 3, 1) := by decide +kernel
theorem dX4_tryOrders_16 : decode cX4_tryOrders 16 = .ok (.putfield 36, 3) := by decide +kernel
theorem dX4_tryOrders_19 : decode cX4_tryOrders 19 = .ok (.aload_n 0, 1) := by decide +kernel
theorem dX4_tryOrders_20 : decode cX4_tryOrders 20 = .ok (.getfield 24, 3) := by decide +kernel
theorem dX4_tryOrders_23 : decode cX4_tryOrders 23 = .ok (.iconst 0, 1) := by decide +kernel
theorem dX4_tryOrders_24 : decode cX4_tryOrders 24 = .ok (.aload_n 0, 1) := by decide +kernel
theorem dX4_tryOrders_25 : decode cX4_tryOrders 25 = .ok (.getfield 28, 3) := by decide +kernel
theorem dX4_tryOrders_28 : decode cX4_tryOrders 28 = .ok (.iconst 0, 1) := by decide +kernel
theorem dX4_tryOrders_29 : decode cX4_tryOrders 29 = .ok (.bipush 6, 2) := by decide +kernel
theorem dX4_tryOrders_31 : decode cX4_tryOrders 31 = .ok (.invokestatic 68, 3) := by decide +kernel
theorem dX4_tryOrders_34 : decode cX4_tryOrders 34 = .ok (.return_, 1) := by decide +kernel
theorem dX4_tryOrders_35 : decode cX4_tryOrders 35 = .ok (.iconst 0, 1) := by decide +kernel
theorem dX4_tryOrders_36 : decode cX4_tryOrders 36 = .ok (.istore 4, 2) := by decide +kernel
theorem dX4_tryOrders_38 : decode cX4_tryOrders 38 = .ok (.iload 4, 2) := by decide +kernel
theorem dX4_tryOrders_40 : decode cX4_tryOrders 40 = .ok (.aload_n 1, 1) := by decide +kernel
theorem dX4_tryOrders_41 : decode cX4_tryOrders 41 = .ok (.getfield 46, 3) := by decide +kernel
theorem dX4_tryOrders_44 : decode cX4_tryOrders 44 = .ok (.if_icmp .ge 69, 3) := by decide +kernel
theorem dX4_tryOrders_47 : decode cX4_tryOrders 47 = .ok (.aload_n 0, 1) := by decide +kernel
theorem dX4_tryOrders_48 : decode cX4_tryOrders 48 = .ok (.getfield 20, 3) := by decide +kernel
theorem dX4_tryOrders_51 : decode cX4_tryOrders 51 = .ok (.iload_n 2, 1) := by decide +kernel
theorem dX4_tryOrders_52 : decode cX4_tryOrders 52 = .ok (.aaload, 1) := by decide +kernel
theorem dX4_tryOrders_53 : decode cX4_tryOrders 53 = .ok (.getfield 54, 3) := by decide +kernel
theorem dX4_tryOrders_56 : decode cX4_tryOrders 56 = .ok (.aload_n 0, 1) := by decide +kernel
theorem dX4_tryOrders_57 : decode cX4_tryOrders 57 = .ok (.getfield 32, 3) := by decide +kernel
theorem dX4_tryOrders_60 : decode cX4_tryOrders 60 = .ok (.iload 4, 2) := by decide +kernel
theorem dX4_tryOrders_62 : decode cX4_tryOrders 62 = .ok (.invokestatic 57, 3) := by decide +kernel
theorem dX4_tryOrders_65 : decode cX4_tryOrders 65 = .ok (.iaload, 1) := by decide +kernel
theorem dX4_tryOrders_66 : decode cX4_tryOrders 66 = .ok (.ifCond .le 41, 3) := by decide +kernel
theorem dX4_tryOrders_69 : decode cX4_tryOrders 69 = .ok (.aload_n 0, 1) := by decide +kernel
theorem dX4_tryOrders_70 : decode cX4_tryOrders 70 = .ok (.getfield 24, 3) := by decide +kernel
theorem dX4_tryOrders_73 : decode cX4_tryOrders 73 = .ok (.iload_n 2, 1) := by decide +kernel
theorem dX4_tryOrders_74 : decode cX4_tryOrders 74 = .ok (.iload 4, 2) := by decide +kernel
theorem dX4_tryOrders_76 : decode cX4_tryOrders 76 = .ok (.iastore, 1) := by decide +kernel
theorem dX4_tryOrders_77 : decode cX4_tryOrders 77 = .ok (.aload_n 0, 1) := by decide +kernel
theorem dX4_tryOrders_78 : decode cX4_tryOrders 78 = .ok (.aload_n 1, 1) := by decide +kernel
theorem dX4_tryOrders_79 : decode cX4_tryOrders 79 = .ok (.iload_n 2, 1) := by decide +kernel
theorem dX4_tryOrders_80 : decode cX4_tryOrders 80 = .ok (.iload 4, 2) := by decide +kernel
theorem dX4_tryOrders_82 : decode cX4_tryOrders 82 = .ok (.iload_n 3, 1) := by decide +kernel
theorem dX4_tryOrders_83 : decode cX4_tryOrders 83 = .ok (.invokevirtual 74, 3) := by decide +kernel
theorem dX4_tryOrders_86 : decode cX4_tryOrders 86 = .ok (.istore 5, 2) := by decide +kernel
theorem dX4_tryOrders_88 : decode cX4_tryOrders 88 = .ok (.iload 5, 2) := by decide +kernel
theorem dX4_tryOrders_90 : decode cX4_tryOrders 90 = .ok (.aload_n 0, 1) := by decide +kernel
theorem dX4_tryOrders_91 : decode cX4_tryOrders 91 = .ok (.getfield 36, 3) := by decide +kernel
theorem dX4_tryOrders_94 : decode cX4_tryOrders 94 = .ok (.if_icmp .ge 13, 3) := by decide +kernel
theorem dX4_tryOrders_97 : decode cX4_tryOrders 97 = .ok (.aload_n 0, 1) := by decide +kernel
theorem dX4_tryOrders_98 : decode cX4_tryOrders 98 = .ok (.aload_n 1, 1) := by decide +kernel
theorem dX4_tryOrders_99 : decode cX4_tryOrders 99 = .ok (.iload_n 2, 1) := by decide +kernel
theorem dX4_tryOrders_100 : decode cX4_tryOrders 100 = .ok (.iconst 1, 1) := by decide +kernel
theorem dX4_tryOrders_101 : decode cX4_tryOrders 101 = .ok (.iadd, 1) := by decide +kernel
theorem dX4_tryOrders_102 : decode cX4_tryOrders 102 = .ok (.iload 5, 2) := by decide +kernel
theorem dX4_tryOrders_104 : decode cX4_tryOrders 104 = .ok (.invokevirtual 64, 3) := by decide +kernel
theorem dX4_tryOrders_107 : decode cX4_tryOrders 107 = .ok (.iinc 4 1, 3) := by decide +kernel
theorem dX4_tryOrders_110 : decode cX4_tryOrders 110 = .ok (.goto (-72), 3) := by decide +kernel
theorem dX4_tryOrders_113 : decode cX4_tryOrders 113 = .ok (.return_, 1) := by decide +kernel
theorem dX4_payOff_0 : decode cX4_payOff 0 = .ok (.aload_n 0, 1) := by decide +kernel
theorem dX4_payOff_1 : decode cX4_payOff 1 = .ok (.getfield 20, 3) := by decide +kernel
theorem dX4_payOff_4 : decode cX4_payOff 4 = .ok (.iload_n 2, 1) := by decide +kernel
theorem dX4_payOff_5 : decode cX4_payOff 5 = .ok (.iconst 1, 1) := by decide +kernel
theorem dX4_payOff_6 : decode cX4_payOff 6 = .ok (.iadd, 1) := by decide +kernel
theorem dX4_payOff_7 : decode cX4_payOff 7 = .ok (.aaload, 1) := by decide +kernel
theorem dX4_payOff_8 : decode cX4_payOff 8 = .ok (.astore 5, 2) := by decide +kernel
theorem dX4_payOff_10 : decode cX4_payOff 10 = .ok (.aload 5, 2) := by decide +kernel
theorem dX4_payOff_12 : decode cX4_payOff 12 = .ok (.aload_n 0, 1) := by decide +kernel
theorem dX4_payOff_13 : decode cX4_payOff 13 = .ok (.getfield 20, 3) := by decide +kernel
theorem dX4_payOff_16 : decode cX4_payOff 16 = .ok (.iload_n 2, 1) := by decide +kernel
theorem dX4_payOff_17 : decode cX4_payOff 17 = .ok (.aaload, 1) := by decide +kernel
theorem dX4_payOff_18 : decode cX4_payOff 18 = .ok (.invokevirtual 42, 3) := by decide +kernel
theorem dX4_payOff_21 : decode cX4_payOff 21 = .ok (.aload 5, 2) := by decide +kernel
theorem dX4_payOff_23 : decode cX4_payOff 23 = .ok (.getfield 51, 3) := by decide +kernel
theorem dX4_payOff_26 : decode cX4_payOff 26 = .ok (.aload_n 0, 1) := by decide +kernel
theorem dX4_payOff_27 : decode cX4_payOff 27 = .ok (.getfield 32, 3) := by decide +kernel
theorem dX4_payOff_30 : decode cX4_payOff 30 = .ok (.iload_n 3, 1) := by decide +kernel
theorem dX4_payOff_31 : decode cX4_payOff 31 = .ok (.iastore, 1) := by decide +kernel
theorem dX4_payOff_32 : decode cX4_payOff 32 = .ok (.iload 4, 2) := by decide +kernel
theorem dX4_payOff_34 : decode cX4_payOff 34 = .ok (.istore 6, 2) := by decide +kernel
theorem dX4_payOff_36 : decode cX4_payOff 36 = .ok (.iload 6, 2) := by decide +kernel
theorem dX4_payOff_38 : decode cX4_payOff 38 = .ok (.aload_n 0, 1) := by decide +kernel
theorem dX4_payOff_39 : decode cX4_payOff 39 = .ok (.getfield 36, 3) := by decide +kernel
theorem dX4_payOff_42 : decode cX4_payOff 42 = .ok (.if_icmp .ge 40, 3) := by decide +kernel
theorem dX4_payOff_45 : decode cX4_payOff 45 = .ok (.aload 5, 2) := by decide +kernel
theorem dX4_payOff_47 : decode cX4_payOff 47 = .ok (.getfield 54, 3) := by decide +kernel
theorem dX4_payOff_50 : decode cX4_payOff 50 = .ok (.aload_n 0, 1) := by decide +kernel
theorem dX4_payOff_51 : decode cX4_payOff 51 = .ok (.getfield 32, 3) := by decide +kernel
theorem dX4_payOff_54 : decode cX4_payOff 54 = .ok (.iload_n 3, 1) := by decide +kernel
theorem dX4_payOff_55 : decode cX4_payOff 55 = .ok (.invokestatic 57, 3) := by decide +kernel
theorem dX4_payOff_58 : decode cX4_payOff 58 = .ok (.iaload, 1) := by decide +kernel
theorem dX4_payOff_59 : decode cX4_payOff 59 = .ok (.ifCond .ne 6, 3) := by decide +kernel
theorem dX4_payOff_62 : decode cX4_payOff 62 = .ok (.iload 6, 2) := by decide +kernel
theorem dX4_payOff_64 : decode cX4_payOff 64 = .ok (.ireturn, 1) := by decide +kernel
theorem dX4_payOff_65 : decode cX4_payOff 65 = .ok (.aload_n 0, 1) := by decide +kernel
theorem dX4_payOff_66 : decode cX4_payOff 66 = .ok (.getfield 12, 3) := by decide +kernel
theorem dX4_payOff_69 : decode cX4_payOff 69 = .ok (.aload_n 1, 1) := by decide +kernel
theorem dX4_payOff_70 : decode cX4_payOff 70 = .ok (.aload 5, 2) := by decide +kernel
theorem dX4_payOff_72 : decode cX4_payOff 72 = .ok (.invokevirtual 78, 3) := by decide +kernel
theorem dX4_payOff_75 : decode cX4_payOff 75 = .ok (.pop, 1) := by decide +kernel
theorem dX4_payOff_76 : decode cX4_payOff 76 = .ok (.iinc 6 1, 3) := by decide +kernel
theorem dX4_payOff_79 : decode cX4_payOff 79 = .ok (.goto (-43), 3) := by decide +kernel
theorem dX4_payOff_82 : decode cX4_payOff 82 = .ok (.aload_n 0, 1) := by decide +kernel
theorem dX4_payOff_83 : decode cX4_payOff 83 = .ok (.getfield 36, 3) := by decide +kernel
theorem dX4_payOff_86 : decode cX4_payOff 86 = .ok (.ireturn, 1) := by decide +kernel
theorem dX5_init_0 : decode cX5_init 0 = .ok (.aload_n 0, 1) := by decide +kernel
theorem dX5_init_1 : decode cX5_init 1 = .ok (.invokespecial 3, 3) := by decide +kernel
theorem dX5_init_4 : decode cX5_init 4 = .ok (.aload_n 0, 1) := by decide +kernel
theorem dX5_init_5 : decode cX5_init 5 = .ok (.new 9, 3) := by decide +kernel
theorem dX5_init_8 : decode cX5_init 8 = .ok (.dup, 1) := by decide +kernel
theorem dX5_init_9 : decode cX5_init 9 = .ok (.invokespecial 11, 3) := by decide +kernel
theorem dX5_init_12 : decode cX5_init 12 = .ok (.putfield 12, 3) := by decide +kernel
theorem dX5_init_15 : decode cX5_init 15 = .ok (.aload_n 0, 1) := by decide +kernel
theorem dX5_init_16 : decode cX5_init 16 = .ok (.bipush 6, 2) := by decide +kernel
theorem dX5_init_18 : decode cX5_init 18 = .ok (.newarray .int, 2) := by decide +kernel
theorem dX5_init_20 : decode cX5_init 20 = .ok (.putfield 18, 3) := by decide +kernel
theorem dX5_init_23 : decode cX5_init 23 = .ok (.aload_n 0, 1) := by decide +kernel
theorem dX5_init_24 : decode cX5_init 24 = .ok (.bipush 6, 2) := by decide +kernel
theorem dX5_init_26 : decode cX5_init 26 = .ok (.newarray .int, 2) := by decide +kernel
theorem dX5_init_28 : decode cX5_init 28 = .ok (.putfield 22, 3) := by decide +kernel
theorem dX5_init_31 : decode cX5_init 31 = .ok (.aload_n 0, 1) := by decide +kernel
theorem dX5_init_32 : decode cX5_init 32 = .ok (.new 25, 3) := by decide +kernel
theorem dX5_init_35 : decode cX5_init 35 = .ok (.dup, 1) := by decide +kernel
theorem dX5_init_36 : decode cX5_init 36 = .ok (.invokespecial 27, 3) := by decide +kernel
theorem dX5_init_39 : decode cX5_init 39 = .ok (.putfield 28, 3) := by decide +kernel
theorem dX5_init_42 : decode cX5_init 42 = .ok (.aload_n 0, 1) := by decide +kernel
theorem dX5_init_43 : decode cX5_init 43 = .ok (.iconst (-1), 1) := by decide +kernel
theorem dX5_init_44 : decode cX5_init 44 = .ok (.putfield 32, 3) := by decide +kernel
theorem dX5_init_47 : decode cX5_init 47 = .ok (.return_, 1) := by decide +kernel
theorem dX5_read_0 : decode cX5_read 0 = .ok (.aload_n 0, 1) := by decide +kernel
theorem dX5_read_1 : decode cX5_read 1 = .ok (.iconst 0, 1) := by decide +kernel
theorem dX5_read_2 : decode cX5_read 2 = .ok (.putfield 36, 3) := by decide +kernel
theorem dX5_read_5 : decode cX5_read 5 = .ok (.aload_n 0, 1) := by decide +kernel
theorem dX5_read_6 : decode cX5_read 6 = .ok (.iconst (-1), 1) := by decide +kernel
theorem dX5_read_7 : decode cX5_read 7 = .ok (.putfield 32, 3) := by decide +kernel
theorem dX5_read_10 : decode cX5_read 10 = .ok (.aload_n 0, 1) := by decide +kernel
theorem dX5_read_11 : decode cX5_read 11 = .ok (.getfield 28, 3) := by decide +kernel
theorem dX5_read_14 : decode cX5_read 14 = .ok (.invokevirtual 39, 3) := by decide +kernel
theorem dX5_read_17 : decode cX5_read 17 = .ok (.aload_n 0, 1) := by decide +kernel
theorem dX5_read_18 : decode cX5_read 18 = .ok (.getfield 12, 3) := by decide +kernel
theorem dX5_read_21 : decode cX5_read 21 = .ok (.aload_n 1, 1) := by decide +kernel
theorem dX5_read_22 : decode cX5_read 22 = .ok (.iload_n 2, 1) := by decide +kernel
theorem dX5_read_23 : decode cX5_read 23 = .ok (.invokevirtual 42, 3) := by decide +kernel
theorem dX5_read_26 : decode cX5_read 26 = .ok (.iconst 0, 1) := by decide +kernel
theorem dX5_read_27 : decode cX5_read 27 = .ok (.istore_n 3, 1) := by decide +kernel
theorem dX5_read_28 : decode cX5_read 28 = .ok (.iload_n 3, 1) := by decide +kernel
theorem dX5_read_29 : decode cX5_read 29 = .ok (.sipush 1600, 3) := by decide +kernel
theorem dX5_read_32 : decode cX5_read 32 = .ok (.if_icmp .ge 181, 3) := by decide +kernel
theorem dX5_read_35 : decode cX5_read 35 = .ok (.aload_n 0, 1) := by decide +kernel
theorem dX5_read_36 : decode cX5_read 36 = .ok (.invokevirtual 46, 3) := by decide +kernel
theorem dX5_read_39 : decode cX5_read 39 = .ok (.ifCond .eq 174, 3) := by decide +kernel
theorem dX5_read_42 : decode cX5_read 42 = .ok (.aload_n 0, 1) := by decide +kernel
theorem dX5_read_43 : decode cX5_read 43 = .ok (.getfield 12, 3) := by decide +kernel
theorem dX5_read_46 : decode cX5_read 46 = .ok (.getfield 50, 3) := by decide +kernel
theorem dX5_read_49 : decode cX5_read 49 = .ok (.ifCond .eq 164, 3) := by decide +kernel
theorem dX5_read_52 : decode cX5_read 52 = .ok (.aload_n 0, 1) := by decide +kernel
theorem dX5_read_53 : decode cX5_read 53 = .ok (.getfield 12, 3) := by decide +kernel
theorem dX5_read_56 : decode cX5_read 56 = .ok (.getfield 50, 3) := by decide +kernel
theorem dX5_read_59 : decode cX5_read 59 = .ok (.tableswitch 137 100 112 #[65, 81, 137, 137, 137, 137, 137, 137, 137, 88, 95, 109, 123], 65) := by decide +kernel
theorem dX5_read_124 : decode cX5_read 124 = .ok (.aload_n 0, 1) := by decide +kernel
theorem dX5_read_125 : decode cX5_read 125 = .ok (.iload_n 3, 1) := by decide +kernel
theorem dX5_read_126 : decode cX5_read 126 = .ok (.ifCond .ne 7, 3) := by decide +kernel
theorem dX5_read_129 : decode cX5_read 129 = .ok (.iconst 1, 1) := by decide +kernel
theorem dX5_read_130 : decode cX5_read 130 = .ok (.goto 4, 3) := by decide +kernel
theorem dX5_read_133 : decode cX5_read 133 = .ok (.iconst 0, 1) := by decide +kernel
theorem dX5_read_134 : decode cX5_read 134 = .ok (.invokevirtual 53, 3) := by decide +kernel
theorem dX5_read_137 : decode cX5_read 137 = .ok (.goto 64, 3) := by decide +kernel
theorem dX5_read_140 : decode cX5_read 140 = .ok (.aload_n 0, 1) := by decide +kernel
theorem dX5_read_141 : decode cX5_read 141 = .ok (.invokevirtual 57, 3) := by decide +kernel
theorem dX5_read_144 : decode cX5_read 144 = .ok (.goto 57, 3) := by decide +kernel
theorem dX5_read_147 : decode cX5_read 147 = .ok (.aload_n 0, 1) := by decide +kernel
theorem dX5_read_148 : decode cX5_read 148 = .ok (.invokevirtual 60, 3) := by decide +kernel
theorem dX5_read_151 : decode cX5_read 151 = .ok (.goto 50, 3) := by decide +kernel
theorem dX5_read_154 : decode cX5_read 154 = .ok (.aload_n 0, 1) := by decide +kernel
theorem dX5_read_155 : decode cX5_read 155 = .ok (.aload_n 0, 1) := by decide +kernel
theorem dX5_read_156 : decode cX5_read 156 = .ok (.getfield 28, 3) := by decide +kernel
theorem dX5_read_159 : decode cX5_read 159 = .ok (.getfield 63, 3) := by decide +kernel
theorem dX5_read_162 : decode cX5_read 162 = .ok (.invokevirtual 67, 3) := by decide +kernel
theorem dX5_read_165 : decode cX5_read 165 = .ok (.goto 36, 3) := by decide +kernel
theorem dX5_read_168 : decode cX5_read 168 = .ok (.aload_n 0, 1) := by decide +kernel
theorem dX5_read_169 : decode cX5_read 169 = .ok (.aload_n 0, 1) := by decide +kernel
theorem dX5_read_170 : decode cX5_read 170 = .ok (.getfield 28, 3) := by decide +kernel
theorem dX5_read_173 : decode cX5_read 173 = .ok (.getfield 71, 3) := by decide +kernel
theorem dX5_read_176 : decode cX5_read 176 = .ok (.invokevirtual 67, 3) := by decide +kernel
theorem dX5_read_179 : decode cX5_read 179 = .ok (.goto 22, 3) := by decide +kernel
theorem dX5_read_182 : decode cX5_read 182 = .ok (.aload_n 0, 1) := by decide +kernel
theorem dX5_read_183 : decode cX5_read 183 = .ok (.aload_n 0, 1) := by decide +kernel
theorem dX5_read_184 : decode cX5_read 184 = .ok (.getfield 28, 3) := by decide +kernel
theorem dX5_read_187 : decode cX5_read 187 = .ok (.getfield 74, 3) := by decide +kernel
theorem dX5_read_190 : decode cX5_read 190 = .ok (.invokevirtual 67, 3) := by decide +kernel
theorem dX5_read_193 : decode cX5_read 193 = .ok (.goto 8, 3) := by decide +kernel
theorem dX5_read_196 : decode cX5_read 196 = .ok (.aload_n 0, 1) := by decide +kernel
theorem dX5_read_197 : decode cX5_read 197 = .ok (.iconst 2, 1) := by decide +kernel
theorem dX5_read_198 : decode cX5_read 198 = .ok (.invokevirtual 77, 3) := by decide +kernel
theorem dX5_read_201 : decode cX5_read 201 = .ok (.aload_n 0, 1) := by decide +kernel
theorem dX5_read_202 : decode cX5_read 202 = .ok (.bipush 59, 2) := by decide +kernel
theorem dX5_read_204 : decode cX5_read 204 = .ok (.invokevirtual 81, 3) := by decide +kernel
theorem dX5_read_207 : decode cX5_read 207 = .ok (.iinc 3 1, 3) := by decide +kernel
theorem dX5_read_210 : decode cX5_read 210 = .ok (.goto (-182), 3) := by decide +kernel
theorem dX5_read_213 : decode cX5_read 213 = .ok (.aload_n 0, 1) := by decide +kernel
theorem dX5_read_214 : decode cX5_read 214 = .ok (.invokevirtual 46, 3) := by decide +kernel
theorem dX5_read_217 : decode cX5_read 217 = .ok (.ireturn, 1) := by decide +kernel
theorem dX5_exchange_0 : decode cX5_exchange 0 = .ok (.aload_n 0, 1) := by decide +kernel
theorem dX5_exchange_1 : decode cX5_exchange 1 = .ok (.getfield 28, 3) := by decide +kernel
theorem dX5_exchange_4 : decode cX5_exchange 4 = .ok (.astore_n 2, 1) := by decide +kernel
theorem dX5_exchange_5 : decode cX5_exchange 5 = .ok (.aload_n 0, 1) := by decide +kernel
theorem dX5_exchange_6 : decode cX5_exchange 6 = .ok (.aload_n 1, 1) := by decide +kernel
theorem dX5_exchange_7 : decode cX5_exchange 7 = .ok (.putfield 28, 3) := by decide +kernel
theorem dX5_exchange_10 : decode cX5_exchange 10 = .ok (.aload_n 2, 1) := by decide +kernel
theorem dX5_exchange_11 : decode cX5_exchange 11 = .ok (.areturn, 1) := by decide +kernel
theorem dX5_isGood_0 : decode cX5_isGood 0 = .ok (.aload_n 0, 1) := by decide +kernel
theorem dX5_isGood_1 : decode cX5_isGood 1 = .ok (.getfield 36, 3) := by decide +kernel
theorem dX5_isGood_4 : decode cX5_isGood 4 = .ok (.ifCond .ne 7, 3) := by decide +kernel
theorem dX5_isGood_7 : decode cX5_isGood 7 = .ok (.iconst 1, 1) := by decide +kernel
theorem dX5_isGood_8 : decode cX5_isGood 8 = .ok (.goto 4, 3) := by decide +kernel
theorem dX5_isGood_11 : decode cX5_isGood 11 = .ok (.iconst 0, 1) := by decide +kernel
theorem dX5_isGood_12 : decode cX5_isGood 12 = .ok (.ireturn, 1) := by decide +kernel
theorem dX5_isAt_0 : decode cX5_isAt 0 = .ok (.aload_n 0, 1) := by decide +kernel
theorem dX5_isAt_1 : decode cX5_isAt 1 = .ok (.invokevirtual 46, 3) := by decide +kernel
theorem dX5_isAt_4 : decode cX5_isAt 4 = .ok (.ifCond .eq 18, 3) := by decide +kernel
theorem dX5_isAt_7 : decode cX5_isAt 7 = .ok (.aload_n 0, 1) := by decide +kernel
theorem dX5_isAt_8 : decode cX5_isAt 8 = .ok (.getfield 12, 3) := by decide +kernel
theorem dX5_isAt_11 : decode cX5_isAt 11 = .ok (.getfield 50, 3) := by decide +kernel
theorem dX5_isAt_14 : decode cX5_isAt 14 = .ok (.iload_n 1, 1) := by decide +kernel
theorem dX5_isAt_15 : decode cX5_isAt 15 = .ok (.if_icmp .ne 7, 3) := by decide +kernel
theorem dX5_isAt_18 : decode cX5_isAt 18 = .ok (.iconst 1, 1) := by decide +kernel
theorem dX5_isAt_19 : decode cX5_isAt 19 = .ok (.goto 4, 3) := by decide +kernel
theorem dX5_isAt_22 : decode cX5_isAt 22 = .ok (.iconst 0, 1) := by decide +kernel
theorem dX5_isAt_23 : decode cX5_isAt 23 = .ok (.ireturn, 1) := by decide +kernel
theorem dX5_fail_0 : decode cX5_fail 0 = .ok (.aload_n 0, 1) := by decide +kernel
theorem dX5_fail_1 : decode cX5_fail 1 = .ok (.invokevirtual 46, 3) := by decide +kernel
theorem dX5_fail_4 : decode cX5_fail 4 = .ok (.ifCond .eq 34, 3) := by decide +kernel
theorem dX5_fail_7 : decode cX5_fail 7 = .ok (.aload_n 0, 1) := by decide +kernel
theorem dX5_fail_8 : decode cX5_fail 8 = .ok (.aload_n 0, 1) := by decide +kernel
theorem dX5_fail_9 : decode cX5_fail 9 = .ok (.getfield 12, 3) := by decide +kernel
theorem dX5_fail_12 : decode cX5_fail 12 = .ok (.getfield 50, 3) := by decide +kernel
theorem dX5_fail_15 : decode cX5_fail 15 = .ok (.iconst 1, 1) := by decide +kernel
theorem dX5_fail_16 : decode cX5_fail 16 = .ok (.if_icmp .ne 7, 3) := by decide +kernel
theorem dX5_fail_19 : decode cX5_fail 19 = .ok (.iconst 1, 1) := by decide +kernel
theorem dX5_fail_20 : decode cX5_fail 20 = .ok (.goto 4, 3) := by decide +kernel
theorem dX5_fail_23 : decode cX5_fail 23 = .ok (.iload_n 1, 1) := by decide +kernel
theorem dX5_fail_24 : decode cX5_fail 24 = .ok (.putfield 36, 3) := by decide +kernel
theorem dX5_fail_27 : decode cX5_fail 27 = .ok (.aload_n 0, 1) := by decide +kernel
theorem dX5_fail_28 : decode cX5_fail 28 = .ok (.aload_n 0, 1) := by decide +kernel
theorem dX5_fail_29 : decode cX5_fail 29 = .ok (.getfield 12, 3) := by decide +kernel
theorem dX5_fail_32 : decode cX5_fail 32 = .ok (.getfield 84, 3) := by decide +kernel
theorem dX5_fail_35 : decode cX5_fail 35 = .ok (.putfield 32, 3) := by decide +kernel
theorem dX5_fail_38 : decode cX5_fail 38 = .ok (.return_, 1) := by decide +kernel
theorem dX5_expect_0 : decode cX5_expect 0 = .ok (.aload_n 0, 1) := by decide +kernel
theorem dX5_expect_1 : decode cX5_expect 1 = .ok (.iload_n 1, 1) := by decide +kernel
theorem dX5_expect_2 : decode cX5_expect 2 = .ok (.invokevirtual 87, 3) := by decide +kernel
theorem dX5_expect_5 : decode cX5_expect 5 = .ok (.ifCond .eq 13, 3) := by decide +kernel
theorem dX5_expect_8 : decode cX5_expect 8 = .ok (.aload_n 0, 1) := by decide +kernel
theorem dX5_expect_9 : decode cX5_expect 9 = .ok (.getfield 12, 3) := by decide +kernel
theorem dX5_expect_12 : decode cX5_expect 12 = .ok (.invokevirtual 91, 3) := by decide +kernel
theorem dX5_expect_15 : decode cX5_expect 15 = .ok (.goto 8, 3) := by decide +kernel
theorem dX5_expect_18 : decode cX5_expect 18 = .ok (.aload_n 0, 1) := by decide +kernel
theorem dX5_expect_19 : decode cX5_expect 19 = .ok (.iconst 2, 1) := by decide +kernel
theorem dX5_expect_20 : decode cX5_expect 20 = .ok (.invokevirtual 77, 3) := by decide +kernel
theorem dX5_expect_23 : decode cX5_expect 23 = .ok (.return_, 1) := by decide +kernel
theorem dX5_expectNumber_0 : decode cX5_expectNumber 0 = .ok (.aload_n 0, 1) := by decide +kernel
theorem dX5_expectNumber_1 : decode cX5_expectNumber 1 = .ok (.iconst 2, 1) := by decide +kernel
theorem dX5_expectNumber_2 : decode cX5_expectNumber 2 = .ok (.invokevirtual 87, 3) := by decide +kernel
theorem dX5_expectNumber_5 : decode cX5_expectNumber 5 = .ok (.ifCond .ne 10, 3) := by decide +kernel
theorem dX5_expectNumber_8 : decode cX5_expectNumber 8 = .ok (.aload_n 0, 1) := by decide +kernel
theorem dX5_expectNumber_9 : decode cX5_expectNumber 9 = .ok (.iconst 2, 1) := by decide +kernel
theorem dX5_expectNumber_10 : decode cX5_expectNumber 10 = .ok (.invokevirtual 77, 3) := by decide +kernel
theorem dX5_expectNumber_13 : decode cX5_expectNumber 13 = .ok (.iconst 0, 1) := by decide +kernel
theorem dX5_expectNumber_14 : decode cX5_expectNumber 14 = .ok (.ireturn, 1) := by decide +kernel
theorem dX5_expectNumber_15 : decode cX5_expectNumber 15 = .ok (.aload_n 0, 1) := by decide +kernel
theorem dX5_expectNumber_16 : decode cX5_expectNumber 16 = .ok (.getfield 12, 3) := by decide +kernel
theorem dX5_expectNumber_19 : decode cX5_expectNumber 19 = .ok (.getfield 94, 3) := by decide +kernel
theorem dX5_expectNumber_22 : decode cX5_expectNumber 22 = .ok (.istore_n 3, 1) := by decide +kernel
theorem dX5_expectNumber_23 : decode cX5_expectNumber 23 = .ok (.iload_n 3, 1) := by decide +kernel
theorem dX5_expectNumber_24 : decode cX5_expectNumber 24 = .ok (.iload_n 1, 1) := by decide +kernel
theorem dX5_expectNumber_25 : decode cX5_expectNumber 25 = .ok (.if_icmp .lt 8, 3) := by decide +kernel
theorem dX5_expectNumber_28 : decode cX5_expectNumber 28 = .ok (.iload_n 3, 1) := by decide +kernel
theorem dX5_expectNumber_29 : decode cX5_expectNumber 29 = .ok (.iload_n 2, 1) := by decide +kernel
theorem dX5_expectNumber_30 : decode cX5_expectNumber 30 = .ok (.if_icmp .le 10, 3) := by decide +kernel
theorem dX5_expectNumber_33 : decode cX5_expectNumber 33 = .ok (.aload_n 0, 1) := by decide +kernel
theorem dX5_expectNumber_34 : decode cX5_expectNumber 34 = .ok (.iconst 4, 1) := by decide +kernel
theorem dX5_expectNumber_35 : decode cX5_expectNumber 35 = .ok (.invokevirtual 77, 3) := by decide +kernel
theorem dX5_expectNumber_38 : decode cX5_expectNumber 38 = .ok (.iconst 0, 1) := by decide +kernel
theorem dX5_expectNumber_39 : decode cX5_expectNumber 39 = .ok (.ireturn, 1) := by decide +kernel
theorem dX5_expectNumber_40 : decode cX5_expectNumber 40 = .ok (.aload_n 0, 1) := by decide +kernel
theorem dX5_expectNumber_41 : decode cX5_expectNumber 41 = .ok (.getfield 12, 3) := by decide +kernel
theorem dX5_expectNumber_44 : decode cX5_expectNumber 44 = .ok (.invokevirtual 91, 3) := by decide +kernel
theorem dX5_expectNumber_47 : decode cX5_expectNumber 47 = .ok (.iload_n 3, 1) := by decide +kernel
theorem dX5_expectNumber_48 : decode cX5_expectNumber 48 = .ok (.ireturn, 1) := by decide +kernel
theorem dX5_numberBehind_0 : decode cX5_numberBehind 0 = .ok (.aload_n 0, 1) := by decide +kernel
theorem dX5_numberBehind_1 : decode cX5_numberBehind 1 = .ok (.iload_n 1, 1) := by decide +kernel
theorem dX5_numberBehind_2 : decode cX5_numberBehind 2 = .ok (.invokevirtual 87, 3) := by decide +kernel
theorem dX5_numberBehind_5 : decode cX5_numberBehind 5 = .ok (.ifCond .ne 5, 3) := by decide +kernel
theorem dX5_numberBehind_8 : decode cX5_numberBehind 8 = .ok (.iconst 0, 1) := by decide +kernel
theorem dX5_numberBehind_9 : decode cX5_numberBehind 9 = .ok (.ireturn, 1) := by decide +kernel
theorem dX5_numberBehind_10 : decode cX5_numberBehind 10 = .ok (.aload_n 0, 1) := by decide +kernel
theorem dX5_numberBehind_11 : decode cX5_numberBehind 11 = .ok (.getfield 12, 3) := by decide +kernel
theorem dX5_numberBehind_14 : decode cX5_numberBehind 14 = .ok (.invokevirtual 91, 3) := by decide +kernel
theorem dX5_numberBehind_17 : decode cX5_numberBehind 17 = .ok (.aload_n 0, 1) := by decide +kernel
theorem dX5_numberBehind_18 : decode cX5_numberBehind 18 = .ok (.iconst 0, 1) := by decide +kernel
theorem dX5_numberBehind_19 : decode cX5_numberBehind 19 = .ok (.iload_n 2, 1) := by decide +kernel
theorem dX5_numberBehind_20 : decode cX5_numberBehind 20 = .ok (.invokevirtual 97, 3) := by decide +kernel
theorem dX5_numberBehind_23 : decode cX5_numberBehind 23 = .ok (.ireturn, 1) := by decide +kernel
theorem dX5_readDay_0 : decode cX5_readDay 0 = .ok (.iload_n 1, 1) := by decide +kernel
theorem dX5_readDay_1 : decode cX5_readDay 1 = .ok (.ifCond .ne 9, 3) := by decide +kernel
theorem dX5_readDay_4 : decode cX5_readDay 4 = .ok (.aload_n 0, 1) := by decide +kernel
theorem dX5_readDay_5 : decode cX5_readDay 5 = .ok (.iconst 2, 1) := by decide +kernel
theorem dX5_readDay_6 : decode cX5_readDay 6 = .ok (.invokevirtual 77, 3) := by decide +kernel
theorem dX5_readDay_9 : decode cX5_readDay 9 = .ok (.return_, 1) := by decide +kernel
theorem dX5_readDay_10 : decode cX5_readDay 10 = .ok (.aload_n 0, 1) := by decide +kernel
theorem dX5_readDay_11 : decode cX5_readDay 11 = .ok (.getfield 12, 3) := by decide +kernel
theorem dX5_readDay_14 : decode cX5_readDay 14 = .ok (.invokevirtual 91, 3) := by decide +kernel
theorem dX5_readDay_17 : decode cX5_readDay 17 = .ok (.aload_n 0, 1) := by decide +kernel
theorem dX5_readDay_18 : decode cX5_readDay 18 = .ok (.getfield 28, 3) := by decide +kernel
theorem dX5_readDay_21 : decode cX5_readDay 21 = .ok (.aload_n 0, 1) := by decide +kernel
theorem dX5_readDay_22 : decode cX5_readDay 22 = .ok (.iconst 2, 1) := by decide +kernel
theorem dX5_readDay_23 : decode cX5_readDay 23 = .ok (.bipush 24, 2) := by decide +kernel
theorem dX5_readDay_25 : decode cX5_readDay 25 = .ok (.invokevirtual 97, 3) := by decide +kernel
theorem dX5_readDay_28 : decode cX5_readDay 28 = .ok (.putfield 101, 3) := by decide +kernel
theorem dX5_readDay_31 : decode cX5_readDay 31 = .ok (.return_, 1) := by decide +kernel
theorem dX5_readPerson_0 : decode cX5_readPerson 0 = .ok (.aload_n 0, 1) := by decide +kernel
theorem dX5_readPerson_1 : decode cX5_readPerson 1 = .ok (.getfield 28, 3) := by decide +kernel
theorem dX5_readPerson_4 : decode cX5_readPerson 4 = .ok (.getfield 104, 3) := by decide +kernel
theorem dX5_readPerson_7 : decode cX5_readPerson 7 = .ok (.istore_n 1, 1) := by decide +kernel
theorem dX5_readPerson_8 : decode cX5_readPerson 8 = .ok (.iload_n 1, 1) := by decide +kernel
theorem dX5_readPerson_9 : decode cX5_readPerson 9 = .ok (.bipush 6, 2) := by decide +kernel
theorem dX5_readPerson_11 : decode cX5_readPerson 11 = .ok (.if_icmp .lt 9, 3) := by decide +kernel
theorem dX5_readPerson_14 : decode cX5_readPerson 14 = .ok (.aload_n 0, 1) := by decide +kernel
theorem dX5_readPerson_15 : decode cX5_readPerson 15 = .ok (.iconst 2, 1) := by decide +kernel
theorem dX5_readPerson_16 : decode cX5_readPerson 16 = .ok (.invokevirtual 77, 3) := by decide +kernel
theorem dX5_readPerson_19 : decode cX5_readPerson 19 = .ok (.return_, 1) := by decide +kernel
theorem dX5_readPerson_20 : decode cX5_readPerson 20 = .ok (.aload_n 0, 1) := by decide +kernel
theorem dX5_readPerson_21 : decode cX5_readPerson 21 = .ok (.getfield 12, 3) := by decide +kernel
theorem dX5_readPerson_24 : decode cX5_readPerson 24 = .ok (.invokevirtual 91, 3) := by decide +kernel
theorem dX5_readPerson_27 : decode cX5_readPerson 27 = .ok (.aload_n 0, 1) := by decide +kernel
theorem dX5_readPerson_28 : decode cX5_readPerson 28 = .ok (.iload_n 1, 1) := by decide +kernel
theorem dX5_readPerson_29 : decode cX5_readPerson 29 = .ok (.invokevirtual 107, 3) := by decide +kernel
theorem dX5_readPerson_32 : decode cX5_readPerson 32 = .ok (.aload_n 0, 1) := by decide +kernel
theorem dX5_readPerson_33 : decode cX5_readPerson 33 = .ok (.bipush 102, 2) := by decide +kernel
theorem dX5_readPerson_35 : decode cX5_readPerson 35 = .ok (.invokevirtual 81, 3) := by decide +kernel
theorem dX5_readPerson_38 : decode cX5_readPerson 38 = .ok (.aload_n 0, 1) := by decide +kernel
theorem dX5_readPerson_39 : decode cX5_readPerson 39 = .ok (.getfield 28, 3) := by decide +kernel
theorem dX5_readPerson_42 : decode cX5_readPerson 42 = .ok (.getfield 110, 3) := by decide +kernel
theorem dX5_readPerson_45 : decode cX5_readPerson 45 = .ok (.iload_n 1, 1) := by decide +kernel
theorem dX5_readPerson_46 : decode cX5_readPerson 46 = .ok (.aload_n 0, 1) := by decide +kernel
theorem dX5_readPerson_47 : decode cX5_readPerson 47 = .ok (.iconst 0, 1) := by decide +kernel
theorem dX5_readPerson_48 : decode cX5_readPerson 48 = .ok (.bipush 20, 2) := by decide +kernel
theorem dX5_readPerson_50 : decode cX5_readPerson 50 = .ok (.invokevirtual 97, 3) := by decide +kernel
theorem dX5_readPerson_53 : decode cX5_readPerson 53 = .ok (.iastore, 1) := by decide +kernel
theorem dX5_readPerson_54 : decode cX5_readPerson 54 = .ok (.aload_n 0, 1) := by decide +kernel
theorem dX5_readPerson_55 : decode cX5_readPerson 55 = .ok (.bipush 103, 2) := by decide +kernel
theorem dX5_readPerson_57 : decode cX5_readPerson 57 = .ok (.invokevirtual 81, 3) := by decide +kernel
theorem dX5_readPerson_60 : decode cX5_readPerson 60 = .ok (.aload_n 0, 1) := by decide +kernel
theorem dX5_readPerson_61 : decode cX5_readPerson 61 = .ok (.iconst 0, 1) := by decide +kernel
theorem dX5_readPerson_62 : decode cX5_readPerson 62 = .ok (.aload_n 0, 1) := by decide +kernel
theorem dX5_readPerson_63 : decode cX5_readPerson 63 = .ok (.getfield 28, 3) := by decide +kernel
theorem dX5_readPerson_66 : decode cX5_readPerson 66 = .ok (.getfield 101, 3) := by decide +kernel
theorem dX5_readPerson_69 : decode cX5_readPerson 69 = .ok (.iconst 1, 1) := by decide +kernel
theorem dX5_readPerson_70 : decode cX5_readPerson 70 = .ok (.isub, 1) := by decide +kernel
theorem dX5_readPerson_71 : decode cX5_readPerson 71 = .ok (.invokevirtual 97, 3) := by decide +kernel
theorem dX5_readPerson_74 : decode cX5_readPerson 74 = .ok (.istore_n 2, 1) := by decide +kernel
theorem dX5_readPerson_75 : decode cX5_readPerson 75 = .ok (.aload_n 0, 1) := by decide +kernel
theorem dX5_readPerson_76 : decode cX5_readPerson 76 = .ok (.bipush 104, 2) := by decide +kernel
theorem dX5_readPerson_78 : decode cX5_readPerson 78 = .ok (.invokevirtual 81, 3) := by decide +kernel
theorem dX5_readPerson_81 : decode cX5_readPerson 81 = .ok (.aload_n 0, 1) := by decide +kernel
theorem dX5_readPerson_82 : decode cX5_readPerson 82 = .ok (.getfield 28, 3) := by decide +kernel
theorem dX5_readPerson_85 : decode cX5_readPerson 85 = .ok (.getfield 113, 3) := by decide +kernel
theorem dX5_readPerson_88 : decode cX5_readPerson 88 = .ok (.iload_n 1, 1) := by decide +kernel
theorem dX5_readPerson_89 : decode cX5_readPerson 89 = .ok (.iload_n 2, 1) := by decide +kernel
theorem dX5_readPerson_90 : decode cX5_readPerson 90 = .ok (.iastore, 1) := by decide +kernel
theorem dX5_readPerson_91 : decode cX5_readPerson 91 = .ok (.aload_n 0, 1) := by decide +kernel
theorem dX5_readPerson_92 : decode cX5_readPerson 92 = .ok (.getfield 28, 3) := by decide +kernel
theorem dX5_readPerson_95 : decode cX5_readPerson 95 = .ok (.getfield 116, 3) := by decide +kernel
theorem dX5_readPerson_98 : decode cX5_readPerson 98 = .ok (.iload_n 1, 1) := by decide +kernel
theorem dX5_readPerson_99 : decode cX5_readPerson 99 = .ok (.aload_n 0, 1) := by decide +kernel
theorem dX5_readPerson_100 : decode cX5_readPerson 100 = .ok (.iload_n 2, 1) := by decide +kernel
theorem dX5_readPerson_101 : decode cX5_readPerson 101 = .ok (.iconst 1, 1) := by decide +kernel
theorem dX5_readPerson_102 : decode cX5_readPerson 102 = .ok (.iadd, 1) := by decide +kernel
theorem dX5_readPerson_103 : decode cX5_readPerson 103 = .ok (.aload_n 0, 1) := by decide +kernel
theorem dX5_readPerson_104 : decode cX5_readPerson 104 = .ok (.getfield 28, 3) := by decide +kernel
theorem dX5_readPerson_107 : decode cX5_readPerson 107 = .ok (.getfield 101, 3) := by decide +kernel
theorem dX5_readPerson_110 : decode cX5_readPerson 110 = .ok (.invokevirtual 97, 3) := by decide +kernel
theorem dX5_readPerson_113 : decode cX5_readPerson 113 = .ok (.iastore, 1) := by decide +kernel
theorem dX5_readPerson_114 : decode cX5_readPerson 114 = .ok (.aload_n 0, 1) := by decide +kernel
theorem dX5_readPerson_115 : decode cX5_readPerson 115 = .ok (.getfield 28, 3) := by decide +kernel
theorem dX5_readPerson_118 : decode cX5_readPerson 118 = .ok (.getfield 119, 3) := by decide +kernel
theorem dX5_readPerson_121 : decode cX5_readPerson 121 = .ok (.iload_n 1, 1) := by decide +kernel
theorem dX5_readPerson_122 : decode cX5_readPerson 122 = .ok (.aload_n 0, 1) := by decide +kernel
theorem dX5_readPerson_123 : decode cX5_readPerson 123 = .ok (.bipush 105, 2) := by decide +kernel
theorem dX5_readPerson_125 : decode cX5_readPerson 125 = .ok (.bipush 9, 2) := by decide +kernel
theorem dX5_readPerson_127 : decode cX5_readPerson 127 = .ok (.invokevirtual 122, 3) := by decide +kernel
theorem dX5_readPerson_130 : decode cX5_readPerson 130 = .ok (.iastore, 1) := by decide +kernel
theorem dX5_readPerson_131 : decode cX5_readPerson 131 = .ok (.aload_n 0, 1) := by decide +kernel
theorem dX5_readPerson_132 : decode cX5_readPerson 132 = .ok (.getfield 28, 3) := by decide +kernel
theorem dX5_readPerson_135 : decode cX5_readPerson 135 = .ok (.getfield 125, 3) := by decide +kernel
theorem dX5_readPerson_138 : decode cX5_readPerson 138 = .ok (.iload_n 1, 1) := by decide +kernel
theorem dX5_readPerson_139 : decode cX5_readPerson 139 = .ok (.aload_n 0, 1) := by decide +kernel
theorem dX5_readPerson_140 : decode cX5_readPerson 140 = .ok (.bipush 106, 2) := by decide +kernel
theorem dX5_readPerson_142 : decode cX5_readPerson 142 = .ok (.aload_n 0, 1) := by decide +kernel
theorem dX5_readPerson_143 : decode cX5_readPerson 143 = .ok (.getfield 28, 3) := by decide +kernel
theorem dX5_readPerson_146 : decode cX5_readPerson 146 = .ok (.getfield 101, 3) := by decide +kernel
theorem dX5_readPerson_149 : decode cX5_readPerson 149 = .ok (.iconst 1, 1) := by decide +kernel
theorem dX5_readPerson_150 : decode cX5_readPerson 150 = .ok (.isub, 1) := by decide +kernel
theorem dX5_readPerson_151 : decode cX5_readPerson 151 = .ok (.invokevirtual 122, 3) := by decide +kernel
theorem dX5_readPerson_154 : decode cX5_readPerson 154 = .ok (.iastore, 1) := by decide +kernel
theorem dX5_readPerson_155 : decode cX5_readPerson 155 = .ok (.aload_n 0, 1) := by decide +kernel
theorem dX5_readPerson_156 : decode cX5_readPerson 156 = .ok (.getfield 28, 3) := by decide +kernel
theorem dX5_readPerson_159 : decode cX5_readPerson 159 = .ok (.getfield 128, 3) := by decide +kernel
theorem dX5_readPerson_162 : decode cX5_readPerson 162 = .ok (.iload_n 1, 1) := by decide +kernel
theorem dX5_readPerson_163 : decode cX5_readPerson 163 = .ok (.aload_n 0, 1) := by decide +kernel
theorem dX5_readPerson_164 : decode cX5_readPerson 164 = .ok (.bipush 107, 2) := by decide +kernel
theorem dX5_readPerson_166 : decode cX5_readPerson 166 = .ok (.bipush 99, 2) := by decide +kernel
theorem dX5_readPerson_168 : decode cX5_readPerson 168 = .ok (.invokevirtual 122, 3) := by decide +kernel
theorem dX5_readPerson_171 : decode cX5_readPerson 171 = .ok (.iastore, 1) := by decide +kernel
theorem dX5_readPerson_172 : decode cX5_readPerson 172 = .ok (.aload_n 0, 1) := by decide +kernel
theorem dX5_readPerson_173 : decode cX5_readPerson 173 = .ok (.getfield 28, 3) := by decide +kernel
theorem dX5_readPerson_176 : decode cX5_readPerson 176 = .ok (.getfield 131, 3) := by decide +kernel
theorem dX5_readPerson_179 : decode cX5_readPerson 179 = .ok (.iload_n 1, 1) := by decide +kernel
theorem dX5_readPerson_180 : decode cX5_readPerson 180 = .ok (.aload_n 0, 1) := by decide +kernel
theorem dX5_readPerson_181 : decode cX5_readPerson 181 = .ok (.bipush 108, 2) := by decide +kernel
theorem dX5_readPerson_183 : decode cX5_readPerson 183 = .ok (.sipush 999, 3) := by decide +kernel
theorem dX5_readPerson_186 : decode cX5_readPerson 186 = .ok (.invokevirtual 122, 3) := by decide +kernel
theorem dX5_readPerson_189 : decode cX5_readPerson 189 = .ok (.iastore, 1) := by decide +kernel
theorem dX5_readPerson_190 : decode cX5_readPerson 190 = .ok (.aload_n 0, 1) := by decide +kernel
theorem dX5_readPerson_191 : decode cX5_readPerson 191 = .ok (.getfield 28, 3) := by decide +kernel
theorem dX5_readPerson_194 : decode cX5_readPerson 194 = .ok (.dup, 1) := by decide +kernel
theorem dX5_readPerson_195 : decode cX5_readPerson 195 = .ok (.getfield 104, 3) := by decide +kernel
theorem dX5_readPerson_198 : decode cX5_readPerson 198 = .ok (.iconst 1, 1) := by decide +kernel
theorem dX5_readPerson_199 : decode cX5_readPerson 199 = .ok (.iadd, 1) := by decide +kernel
theorem dX5_readPerson_200 : decode cX5_readPerson 200 = .ok (.putfield 104, 3) := by decide +kernel
theorem dX5_readPerson_203 : decode cX5_readPerson 203 = .ok (.return_, 1) := by decide +kernel
theorem dX5_readNewName_0 : decode cX5_readNewName 0 = .ok (.aload_n 0, 1) := by decide +kernel
theorem dX5_readNewName_1 : decode cX5_readNewName 1 = .ok (.iconst 3, 1) := by decide +kernel
theorem dX5_readNewName_2 : decode cX5_readNewName 2 = .ok (.invokevirtual 87, 3) := by decide +kernel
theorem dX5_readNewName_5 : decode cX5_readNewName 5 = .ok (.ifCond .ne 11, 3) := by decide +kernel
theorem dX5_readNewName_8 : decode cX5_readNewName 8 = .ok (.aload_n 0, 1) := by decide +kernel
theorem dX5_readNewName_9 : decode cX5_readNewName 9 = .ok (.iconst 2, 1) := by decide +kernel
theorem dX5_readNewName_10 : decode cX5_readNewName 10 = .ok (.invokevirtual 77, 3) := by decide +kernel
theorem dX5_readNewName_13 : decode cX5_readNewName 13 = .ok (.goto 52, 3) := by decide +kernel
theorem dX5_readNewName_16 : decode cX5_readNewName 16 = .ok (.aload_n 0, 1) := by decide +kernel
theorem dX5_readNewName_17 : decode cX5_readNewName 17 = .ok (.invokevirtual 134, 3) := by decide +kernel
theorem dX5_readNewName_20 : decode cX5_readNewName 20 = .ok (.iconst (-1), 1) := by decide +kernel
theorem dX5_readNewName_21 : decode cX5_readNewName 21 = .ok (.if_icmp .eq 11, 3) := by decide +kernel
theorem dX5_readNewName_24 : decode cX5_readNewName 24 = .ok (.aload_n 0, 1) := by decide +kernel
theorem dX5_readNewName_25 : decode cX5_readNewName 25 = .ok (.iconst 3, 1) := by decide +kernel
theorem dX5_readNewName_26 : decode cX5_readNewName 26 = .ok (.invokevirtual 77, 3) := by decide +kernel
theorem dX5_readNewName_29 : decode cX5_readNewName 29 = .ok (.goto 36, 3) := by decide +kernel
theorem dX5_readNewName_32 : decode cX5_readNewName 32 = .ok (.aload_n 0, 1) := by decide +kernel
theorem dX5_readNewName_33 : decode cX5_readNewName 33 = .ok (.getfield 18, 3) := by decide +kernel
theorem dX5_readNewName_36 : decode cX5_readNewName 36 = .ok (.iload_n 1, 1) := by decide +kernel
theorem dX5_readNewName_37 : decode cX5_readNewName 37 = .ok (.aload_n 0, 1) := by decide +kernel
theorem dX5_readNewName_38 : decode cX5_readNewName 38 = .ok (.getfield 12, 3) := by decide +kernel
theorem dX5_readNewName_41 : decode cX5_readNewName 41 = .ok (.getfield 84, 3) := by decide +kernel
theorem dX5_readNewName_44 : decode cX5_readNewName 44 = .ok (.iastore, 1) := by decide +kernel
theorem dX5_readNewName_45 : decode cX5_readNewName 45 = .ok (.aload_n 0, 1) := by decide +kernel
theorem dX5_readNewName_46 : decode cX5_readNewName 46 = .ok (.getfield 22, 3) := by decide +kernel
theorem dX5_readNewName_49 : decode cX5_readNewName 49 = .ok (.iload_n 1, 1) := by decide +kernel
theorem dX5_readNewName_50 : decode cX5_readNewName 50 = .ok (.aload_n 0, 1) := by decide +kernel
theorem dX5_readNewName_51 : decode cX5_readNewName 51 = .ok (.getfield 12, 3) := by decide +kernel
theorem dX5_readNewName_54 : decode cX5_readNewName 54 = .ok (.getfield 138, 3) := by decide +kernel
theorem dX5_readNewName_57 : decode cX5_readNewName 57 = .ok (.iastore, 1) := by decide +kernel
theorem dX5_readNewName_58 : decode cX5_readNewName 58 = .ok (.aload_n 0, 1) := by decide +kernel
theorem dX5_readNewName_59 : decode cX5_readNewName 59 = .ok (.getfield 12, 3) := by decide +kernel
theorem dX5_readNewName_62 : decode cX5_readNewName 62 = .ok (.invokevirtual 91, 3) := by decide +kernel
theorem dX5_readNewName_65 : decode cX5_readNewName 65 = .ok (.return_, 1) := by decide +kernel
theorem dX5_personHere_0 : decode cX5_personHere 0 = .ok (.iconst 0, 1) := by decide +kernel
theorem dX5_personHere_1 : decode cX5_personHere 1 = .ok (.istore_n 1, 1) := by decide +kernel
theorem dX5_personHere_2 : decode cX5_personHere 2 = .ok (.iload_n 1, 1) := by decide +kernel
theorem dX5_personHere_3 : decode cX5_personHere 3 = .ok (.aload_n 0, 1) := by decide +kernel
theorem dX5_personHere_4 : decode cX5_personHere 4 = .ok (.getfield 28, 3) := by decide +kernel
theorem dX5_personHere_7 : decode cX5_personHere 7 = .ok (.getfield 104, 3) := by decide +kernel
theorem dX5_personHere_10 : decode cX5_personHere 10 = .ok (.if_icmp .ge 33, 3) := by decide +kernel
theorem dX5_personHere_13 : decode cX5_personHere 13 = .ok (.aload_n 0, 1) := by decide +kernel
theorem dX5_personHere_14 : decode cX5_personHere 14 = .ok (.getfield 12, 3) := by decide +kernel
theorem dX5_personHere_17 : decode cX5_personHere 17 = .ok (.aload_n 0, 1) := by decide +kernel
theorem dX5_personHere_18 : decode cX5_personHere 18 = .ok (.getfield 18, 3) := by decide +kernel
theorem dX5_personHere_21 : decode cX5_personHere 21 = .ok (.iload_n 1, 1) := by decide +kernel
theorem dX5_personHere_22 : decode cX5_personHere 22 = .ok (.iaload, 1) := by decide +kernel
theorem dX5_personHere_23 : decode cX5_personHere 23 = .ok (.aload_n 0, 1) := by decide +kernel
theorem dX5_personHere_24 : decode cX5_personHere 24 = .ok (.getfield 22, 3) := by decide +kernel
theorem dX5_personHere_27 : decode cX5_personHere 27 = .ok (.iload_n 1, 1) := by decide +kernel
theorem dX5_personHere_28 : decode cX5_personHere 28 = .ok (.iaload, 1) := by decide +kernel
theorem dX5_personHere_29 : decode cX5_personHere 29 = .ok (.invokevirtual 141, 3) := by decide +kernel
theorem dX5_personHere_32 : decode cX5_personHere 32 = .ok (.ifCond .eq 5, 3) := by decide +kernel
theorem dX5_personHere_35 : decode cX5_personHere 35 = .ok (.iload_n 1, 1) := by decide +kernel
theorem dX5_personHere_36 : decode cX5_personHere 36 = .ok (.ireturn, 1) := by decide +kernel
theorem dX5_personHere_37 : decode cX5_personHere 37 = .ok (.iinc 1 1, 3) := by decide +kernel
theorem dX5_personHere_40 : decode cX5_personHere 40 = .ok (.goto (-38), 3) := by decide +kernel
theorem dX5_personHere_43 : decode cX5_personHere 43 = .ok (.iconst (-1), 1) := by decide +kernel
theorem dX5_personHere_44 : decode cX5_personHere 44 = .ok (.ireturn, 1) := by decide +kernel
theorem dX5_knownPersonHere_0 : decode cX5_knownPersonHere 0 = .ok (.aload_n 0, 1) := by decide +kernel
theorem dX5_knownPersonHere_1 : decode cX5_knownPersonHere 1 = .ok (.iconst 3, 1) := by decide +kernel
theorem dX5_knownPersonHere_2 : decode cX5_knownPersonHere 2 = .ok (.invokevirtual 87, 3) := by decide +kernel
theorem dX5_knownPersonHere_5 : decode cX5_knownPersonHere 5 = .ok (.ifCond .ne 10, 3) := by decide +kernel
theorem dX5_knownPersonHere_8 : decode cX5_knownPersonHere 8 = .ok (.aload_n 0, 1) := by decide +kernel
theorem dX5_knownPersonHere_9 : decode cX5_knownPersonHere 9 = .ok (.iconst 2, 1) := by decide +kernel
theorem dX5_knownPersonHere_10 : decode cX5_knownPersonHere 10 = .ok (.invokevirtual 77, 3) := by decide +kernel
theorem dX5_knownPersonHere_13 : decode cX5_knownPersonHere 13 = .ok (.iconst (-1), 1) := by decide +kernel
theorem dX5_knownPersonHere_14 : decode cX5_knownPersonHere 14 = .ok (.ireturn, 1) := by decide +kernel
theorem dX5_knownPersonHere_15 : decode cX5_knownPersonHere 15 = .ok (.aload_n 0, 1) := by decide +kernel
theorem dX5_knownPersonHere_16 : decode cX5_knownPersonHere 16 = .ok (.invokevirtual 134, 3) := by decide +kernel
theorem dX5_knownPersonHere_19 : decode cX5_knownPersonHere 19 = .ok (.istore_n 1, 1) := by decide +kernel
theorem dX5_knownPersonHere_20 : decode cX5_knownPersonHere 20 = .ok (.iload_n 1, 1) := by decide +kernel
theorem dX5_knownPersonHere_21 : decode cX5_knownPersonHere 21 = .ok (.iconst (-1), 1) := by decide +kernel
theorem dX5_knownPersonHere_22 : decode cX5_knownPersonHere 22 = .ok (.if_icmp .ne 8, 3) := by decide +kernel
theorem dX5_knownPersonHere_25 : decode cX5_knownPersonHere 25 = .ok (.aload_n 0, 1) := by decide +kernel
theorem dX5_knownPersonHere_26 : decode cX5_knownPersonHere 26 = .ok (.iconst 5, 1) := by decide +kernel
theorem dX5_knownPersonHere_27 : decode cX5_knownPersonHere 27 = .ok (.invokevirtual 77, 3) := by decide +kernel
theorem dX5_knownPersonHere_30 : decode cX5_knownPersonHere 30 = .ok (.iload_n 1, 1) := by decide +kernel
theorem dX5_knownPersonHere_31 : decode cX5_knownPersonHere 31 = .ok (.ireturn, 1) := by decide +kernel
theorem dX5_readDebt_0 : decode cX5_readDebt 0 = .ok (.aload_n 0, 1) := by decide +kernel
theorem dX5_readDebt_1 : decode cX5_readDebt 1 = .ok (.getfield 28, 3) := by decide +kernel
theorem dX5_readDebt_4 : decode cX5_readDebt 4 = .ok (.getfield 145, 3) := by decide +kernel
theorem dX5_readDebt_7 : decode cX5_readDebt 7 = .ok (.bipush 20, 2) := by decide +kernel
theorem dX5_readDebt_9 : decode cX5_readDebt 9 = .ok (.if_icmp .lt 9, 3) := by decide +kernel
theorem dX5_readDebt_12 : decode cX5_readDebt 12 = .ok (.aload_n 0, 1) := by decide +kernel
theorem dX5_readDebt_13 : decode cX5_readDebt 13 = .ok (.iconst 2, 1) := by decide +kernel
theorem dX5_readDebt_14 : decode cX5_readDebt 14 = .ok (.invokevirtual 77, 3) := by decide +kernel
theorem dX5_readDebt_17 : decode cX5_readDebt 17 = .ok (.return_, 1) := by decide +kernel
theorem dX5_readDebt_18 : decode cX5_readDebt 18 = .ok (.aload_n 0, 1) := by decide +kernel
theorem dX5_readDebt_19 : decode cX5_readDebt 19 = .ok (.getfield 12, 3) := by decide +kernel
theorem dX5_readDebt_22 : decode cX5_readDebt 22 = .ok (.invokevirtual 91, 3) := by decide +kernel
theorem dX5_readDebt_25 : decode cX5_readDebt 25 = .ok (.aload_n 0, 1) := by decide +kernel
theorem dX5_readDebt_26 : decode cX5_readDebt 26 = .ok (.invokevirtual 148, 3) := by decide +kernel
theorem dX5_readDebt_29 : decode cX5_readDebt 29 = .ok (.istore_n 1, 1) := by decide +kernel
theorem dX5_readDebt_30 : decode cX5_readDebt 30 = .ok (.aload_n 0, 1) := by decide +kernel
theorem dX5_readDebt_31 : decode cX5_readDebt 31 = .ok (.iconst 3, 1) := by decide +kernel
theorem dX5_readDebt_32 : decode cX5_readDebt 32 = .ok (.invokevirtual 81, 3) := by decide +kernel
theorem dX5_readDebt_35 : decode cX5_readDebt 35 = .ok (.aload_n 0, 1) := by decide +kernel
theorem dX5_readDebt_36 : decode cX5_readDebt 36 = .ok (.bipush 104, 2) := by decide +kernel
theorem dX5_readDebt_38 : decode cX5_readDebt 38 = .ok (.invokevirtual 81, 3) := by decide +kernel
theorem dX5_readDebt_41 : decode cX5_readDebt 41 = .ok (.aload_n 0, 1) := by decide +kernel
theorem dX5_readDebt_42 : decode cX5_readDebt 42 = .ok (.invokevirtual 148, 3) := by decide +kernel
theorem dX5_readDebt_45 : decode cX5_readDebt 45 = .ok (.istore_n 2, 1) := by decide +kernel
theorem dX5_readDebt_46 : decode cX5_readDebt 46 = .ok (.iload_n 1, 1) := by decide +kernel
theorem dX5_readDebt_47 : decode cX5_readDebt 47 = .ok (.iconst (-1), 1) := by decide +kernel
theorem dX5_readDebt_48 : decode cX5_readDebt 48 = .ok (.if_icmp .eq 8, 3) := by decide +kernel
theorem dX5_readDebt_51 : decode cX5_readDebt 51 = .ok (.iload_n 2, 1) := by decide +kernel
theorem dX5_readDebt_52 : decode cX5_readDebt 52 = .ok (.iconst (-1), 1) := by decide +kernel
theorem dX5_readDebt_53 : decode cX5_readDebt 53 = .ok (.if_icmp .ne 4, 3) := by decide +kernel
theorem dX5_readDebt_56 : decode cX5_readDebt 56 = .ok (.return_, 1) := by decide +kernel
theorem dX5_readDebt_57 : decode cX5_readDebt 57 = .ok (.iload_n 1, 1) := by decide +kernel
theorem dX5_readDebt_58 : decode cX5_readDebt 58 = .ok (.iload_n 2, 1) := by decide +kernel
theorem dX5_readDebt_59 : decode cX5_readDebt 59 = .ok (.if_icmp .eq 19, 3) := by decide +kernel
theorem dX5_readDebt_62 : decode cX5_readDebt 62 = .ok (.aload_n 0, 1) := by decide +kernel
theorem dX5_readDebt_63 : decode cX5_readDebt 63 = .ok (.getfield 28, 3) := by decide +kernel
theorem dX5_readDebt_66 : decode cX5_readDebt 66 = .ok (.getfield 151, 3) := by decide +kernel
theorem dX5_readDebt_69 : decode cX5_readDebt 69 = .ok (.iload_n 1, 1) := by decide +kernel
theorem dX5_readDebt_70 : decode cX5_readDebt 70 = .ok (.iload_n 2, 1) := by decide +kernel
theorem dX5_readDebt_71 : decode cX5_readDebt 71 = .ok (.invokestatic 154, 3) := by decide +kernel
theorem dX5_readDebt_74 : decode cX5_readDebt 74 = .ok (.iaload, 1) := by decide +kernel
theorem dX5_readDebt_75 : decode cX5_readDebt 75 = .ok (.ifCond .eq 9, 3) := by decide +kernel
theorem dX5_readDebt_78 : decode cX5_readDebt 78 = .ok (.aload_n 0, 1) := by decide +kernel
theorem dX5_readDebt_79 : decode cX5_readDebt 79 = .ok (.iconst 3, 1) := by decide +kernel
theorem dX5_readDebt_80 : decode cX5_readDebt 80 = .ok (.invokevirtual 77, 3) := by decide +kernel
theorem dX5_readDebt_83 : decode cX5_readDebt 83 = .ok (.return_, 1) := by decide +kernel
theorem dX5_readDebt_84 : decode cX5_readDebt 84 = .ok (.aload_n 0, 1) := by decide +kernel
theorem dX5_readDebt_85 : decode cX5_readDebt 85 = .ok (.iconst 3, 1) := by decide +kernel
theorem dX5_readDebt_86 : decode cX5_readDebt 86 = .ok (.invokevirtual 81, 3) := by decide +kernel
theorem dX5_readDebt_89 : decode cX5_readDebt 89 = .ok (.aload_n 0, 1) := by decide +kernel
theorem dX5_readDebt_90 : decode cX5_readDebt 90 = .ok (.getfield 28, 3) := by decide +kernel
theorem dX5_readDebt_93 : decode cX5_readDebt 93 = .ok (.getfield 151, 3) := by decide +kernel
theorem dX5_readDebt_96 : decode cX5_readDebt 96 = .ok (.iload_n 1, 1) := by decide +kernel
theorem dX5_readDebt_97 : decode cX5_readDebt 97 = .ok (.iload_n 2, 1) := by decide +kernel
theorem dX5_readDebt_98 : decode cX5_readDebt 98 = .ok (.invokestatic 154, 3) := by decide +kernel
theorem dX5_readDebt_101 : decode cX5_readDebt 101 = .ok (.aload_n 0, 1) := by decide +kernel
theorem dX5_readDebt_102 : decode cX5_readDebt 102 = .ok (.iconst 1, 1) := by decide +kernel
theorem dX5_readDebt_103 : decode cX5_readDebt 103 = .ok (.sipush 9999, 3) := by decide +kernel
theorem dX5_readDebt_106 : decode cX5_readDebt 106 = .ok (.invokevirtual 97, 3) := by decide +kernel
theorem dX5_readDebt_109 : decode cX5_readDebt 109 = .ok (.iastore, 1) := by decide +kernel
theorem dX5_readDebt_110 : decode cX5_readDebt 110 = .ok (.aload_n 0, 1) := by decide +kernel
theorem dX5_readDebt_111 : decode cX5_readDebt 111 = .ok (.getfield 28, 3) := by decide +kernel
theorem dX5_readDebt_114 : decode cX5_readDebt 114 = .ok (.dup, 1) := by decide +kernel
theorem dX5_readDebt_115 : decode cX5_readDebt 115 = .ok (.getfield 145, 3) := by decide +kernel
theorem dX5_readDebt_118 : decode cX5_readDebt 118 = .ok (.iconst 1, 1) := by decide +kernel
theorem dX5_readDebt_119 : decode cX5_readDebt 119 = .ok (.iadd, 1) := by decide +kernel
theorem dX5_readDebt_120 : decode cX5_readDebt 120 = .ok (.putfield 145, 3) := by decide +kernel
theorem dX5_readDebt_123 : decode cX5_readDebt 123 = .ok (.return_, 1) := by decide +kernel
theorem dX5_readFormula_0 : decode cX5_readFormula 0 = .ok (.aload_n 1, 1) := by decide +kernel
theorem dX5_readFormula_1 : decode cX5_readFormula 1 = .ok (.getfield 157, 3) := by decide +kernel
theorem dX5_readFormula_4 : decode cX5_readFormula 4 = .ok (.ifCond .eq 9, 3) := by decide +kernel
theorem dX5_readFormula_7 : decode cX5_readFormula 7 = .ok (.aload_n 0, 1) := by decide +kernel
theorem dX5_readFormula_8 : decode cX5_readFormula 8 = .ok (.iconst 2, 1) := by decide +kernel
theorem dX5_readFormula_9 : decode cX5_readFormula 9 = .ok (.invokevirtual 77, 3) := by decide +kernel
theorem dX5_readFormula_12 : decode cX5_readFormula 12 = .ok (.return_, 1) := by decide +kernel
theorem dX5_readFormula_13 : decode cX5_readFormula 13 = .ok (.aload_n 1, 1) := by decide +kernel
theorem dX5_readFormula_14 : decode cX5_readFormula 14 = .ok (.iconst 1, 1) := by decide +kernel
theorem dX5_readFormula_15 : decode cX5_readFormula 15 = .ok (.putfield 157, 3) := by decide +kernel
theorem dX5_readFormula_18 : decode cX5_readFormula 18 = .ok (.aload_n 0, 1) := by decide +kernel
theorem dX5_readFormula_19 : decode cX5_readFormula 19 = .ok (.iconst 0, 1) := by decide +kernel
theorem dX5_readFormula_20 : decode cX5_readFormula 20 = .ok (.putfield 163, 3) := by decide +kernel
theorem dX5_readFormula_23 : decode cX5_readFormula 23 = .ok (.aload_n 0, 1) := by decide +kernel
theorem dX5_readFormula_24 : decode cX5_readFormula 24 = .ok (.getfield 12, 3) := by decide +kernel
theorem dX5_readFormula_27 : decode cX5_readFormula 27 = .ok (.invokevirtual 91, 3) := by decide +kernel
theorem dX5_readFormula_30 : decode cX5_readFormula 30 = .ok (.aload_n 0, 1) := by decide +kernel
theorem dX5_readFormula_31 : decode cX5_readFormula 31 = .ok (.aload_n 1, 1) := by decide +kernel
theorem dX5_readFormula_32 : decode cX5_readFormula 32 = .ok (.iconst 0, 1) := by decide +kernel
theorem dX5_readFormula_33 : decode cX5_readFormula 33 = .ok (.invokevirtual 166, 3) := by decide +kernel
theorem dX5_readFormula_36 : decode cX5_readFormula 36 = .ok (.return_, 1) := by decide +kernel
theorem dX5_readWhole_0 : decode cX5_readWhole 0 = .ok (.aload_n 0, 1) := by decide +kernel
theorem dX5_readWhole_1 : decode cX5_readWhole 1 = .ok (.aload_n 1, 1) := by decide +kernel
theorem dX5_readWhole_2 : decode cX5_readWhole 2 = .ok (.iload_n 2, 1) := by decide +kernel
theorem dX5_readWhole_3 : decode cX5_readWhole 3 = .ok (.invokevirtual 170, 3) := by decide +kernel
theorem dX5_readWhole_6 : decode cX5_readWhole 6 = .ok (.iconst 0, 1) := by decide +kernel
theorem dX5_readWhole_7 : decode cX5_readWhole 7 = .ok (.istore_n 3, 1) := by decide +kernel
theorem dX5_readWhole_8 : decode cX5_readWhole 8 = .ok (.iload_n 3, 1) := by decide +kernel
theorem dX5_readWhole_9 : decode cX5_readWhole 9 = .ok (.sipush 1600, 3) := by decide +kernel
theorem dX5_readWhole_12 : decode cX5_readWhole 12 = .ok (.if_icmp .ge 37, 3) := by decide +kernel
theorem dX5_readWhole_15 : decode cX5_readWhole 15 = .ok (.aload_n 0, 1) := by decide +kernel
theorem dX5_readWhole_16 : decode cX5_readWhole 16 = .ok (.bipush 113, 2) := by decide +kernel
theorem dX5_readWhole_18 : decode cX5_readWhole 18 = .ok (.invokevirtual 87, 3) := by decide +kernel
theorem dX5_readWhole_21 : decode cX5_readWhole 21 = .ok (.ifCond .eq 28, 3) := by decide +kernel
theorem dX5_readWhole_24 : decode cX5_readWhole 24 = .ok (.aload_n 0, 1) := by decide +kernel
theorem dX5_readWhole_25 : decode cX5_readWhole 25 = .ok (.getfield 12, 3) := by decide +kernel
theorem dX5_readWhole_28 : decode cX5_readWhole 28 = .ok (.invokevirtual 91, 3) := by decide +kernel
theorem dX5_readWhole_31 : decode cX5_readWhole 31 = .ok (.aload_n 0, 1) := by decide +kernel
theorem dX5_readWhole_32 : decode cX5_readWhole 32 = .ok (.aload_n 1, 1) := by decide +kernel
theorem dX5_readWhole_33 : decode cX5_readWhole 33 = .ok (.iload_n 2, 1) := by decide +kernel
theorem dX5_readWhole_34 : decode cX5_readWhole 34 = .ok (.invokevirtual 170, 3) := by decide +kernel
theorem dX5_readWhole_37 : decode cX5_readWhole 37 = .ok (.aload_n 1, 1) := by decide +kernel
theorem dX5_readWhole_38 : decode cX5_readWhole 38 = .ok (.bipush 113, 2) := by decide +kernel
theorem dX5_readWhole_40 : decode cX5_readWhole 40 = .ok (.invokevirtual 173, 3) := by decide +kernel
theorem dX5_readWhole_43 : decode cX5_readWhole 43 = .ok (.iinc 3 1, 3) := by decide +kernel
theorem dX5_readWhole_46 : decode cX5_readWhole 46 = .ok (.goto (-38), 3) := by decide +kernel
theorem dX5_readWhole_49 : decode cX5_readWhole 49 = .ok (.return_, 1) := by decide +kernel
theorem dX5_readBoth_0 : decode cX5_readBoth 0 = .ok (.aload_n 0, 1) := by decide +kernel
theorem dX5_readBoth_1 : decode cX5_readBoth 1 = .ok (.aload_n 1, 1) := by decide +kernel
theorem dX5_readBoth_2 : decode cX5_readBoth 2 = .ok (.iload_n 2, 1) := by decide +kernel
theorem dX5_readBoth_3 : decode cX5_readBoth 3 = .ok (.invokevirtual 176, 3) := by decide +kernel
theorem dX5_readBoth_6 : decode cX5_readBoth 6 = .ok (.iconst 0, 1) := by decide +kernel
theorem dX5_readBoth_7 : decode cX5_readBoth 7 = .ok (.istore_n 3, 1) := by decide +kernel
theorem dX5_readBoth_8 : decode cX5_readBoth 8 = .ok (.iload_n 3, 1) := by decide +kernel
theorem dX5_readBoth_9 : decode cX5_readBoth 9 = .ok (.sipush 1600, 3) := by decide +kernel
theorem dX5_readBoth_12 : decode cX5_readBoth 12 = .ok (.if_icmp .ge 37, 3) := by decide +kernel
theorem dX5_readBoth_15 : decode cX5_readBoth 15 = .ok (.aload_n 0, 1) := by decide +kernel
theorem dX5_readBoth_16 : decode cX5_readBoth 16 = .ok (.bipush 114, 2) := by decide +kernel
theorem dX5_readBoth_18 : decode cX5_readBoth 18 = .ok (.invokevirtual 87, 3) := by decide +kernel
theorem dX5_readBoth_21 : decode cX5_readBoth 21 = .ok (.ifCond .eq 28, 3) := by decide +kernel
theorem dX5_readBoth_24 : decode cX5_readBoth 24 = .ok (.aload_n 0, 1) := by decide +kernel
theorem dX5_readBoth_25 : decode cX5_readBoth 25 = .ok (.getfield 12, 3) := by decide +kernel
theorem dX5_readBoth_28 : decode cX5_readBoth 28 = .ok (.invokevirtual 91, 3) := by decide +kernel
theorem dX5_readBoth_31 : decode cX5_readBoth 31 = .ok (.aload_n 0, 1) := by decide +kernel
theorem dX5_readBoth_32 : decode cX5_readBoth 32 = .ok (.aload_n 1, 1) := by decide +kernel
theorem dX5_readBoth_33 : decode cX5_readBoth 33 = .ok (.iload_n 2, 1) := by decide +kernel
theorem dX5_readBoth_34 : decode cX5_readBoth 34 = .ok (.invokevirtual 176, 3) := by decide +kernel
theorem dX5_readBoth_37 : decode cX5_readBoth 37 = .ok (.aload_n 1, 1) := by decide +kernel
theorem dX5_readBoth_38 : decode cX5_readBoth 38 = .ok (.bipush 114, 2) := by decide +kernel
theorem dX5_readBoth_40 : decode cX5_readBoth 40 = .ok (.invokevirtual 173, 3) := by decide +kernel
theorem dX5_readBoth_43 : decode cX5_readBoth 43 = .ok (.iinc 3 1, 3) := by decide +kernel
theorem dX5_readBoth_46 : decode cX5_readBoth 46 = .ok (.goto (-38), 3) := by decide +kernel
theorem dX5_readBoth_49 : decode cX5_readBoth 49 = .ok (.return_, 1) := by decide +kernel
theorem dX5_readOne_0 : decode cX5_readOne 0 = .ok (.aload_n 0, 1) := by decide +kernel
theorem dX5_readOne_1 : decode cX5_readOne 1 = .ok (.bipush 115, 2) := by decide +kernel
theorem dX5_readOne_3 : decode cX5_readOne 3 = .ok (.invokevirtual 87, 3) := by decide +kernel
theorem dX5_readOne_6 : decode cX5_readOne 6 = .ok (.ifCond .eq 37, 3) := by decide +kernel
theorem dX5_readOne_9 : decode cX5_readOne 9 = .ok (.iload_n 2, 1) := by decide +kernel
theorem dX5_readOne_10 : decode cX5_readOne 10 = .ok (.bipush 6, 2) := by decide +kernel
theorem dX5_readOne_12 : decode cX5_readOne 12 = .ok (.if_icmp .le 9, 3) := by decide +kernel
theorem dX5_readOne_15 : decode cX5_readOne 15 = .ok (.aload_n 0, 1) := by decide +kernel
theorem dX5_readOne_16 : decode cX5_readOne 16 = .ok (.iconst 2, 1) := by decide +kernel
theorem dX5_readOne_17 : decode cX5_readOne 17 = .ok (.invokevirtual 77, 3) := by decide +kernel
theorem dX5_readOne_20 : decode cX5_readOne 20 = .ok (.return_, 1) := by decide +kernel
theorem dX5_readOne_21 : decode cX5_readOne 21 = .ok (.aload_n 0, 1) := by decide +kernel
theorem dX5_readOne_22 : decode cX5_readOne 22 = .ok (.getfield 12, 3) := by decide +kernel
theorem dX5_readOne_25 : decode cX5_readOne 25 = .ok (.invokevirtual 91, 3) := by decide +kernel
theorem dX5_readOne_28 : decode cX5_readOne 28 = .ok (.aload_n 0, 1) := by decide +kernel
theorem dX5_readOne_29 : decode cX5_readOne 29 = .ok (.aload_n 1, 1) := by decide +kernel
theorem dX5_readOne_30 : decode cX5_readOne 30 = .ok (.iload_n 2, 1) := by decide +kernel
theorem dX5_readOne_31 : decode cX5_readOne 31 = .ok (.iconst 1, 1) := by decide +kernel
theorem dX5_readOne_32 : decode cX5_readOne 32 = .ok (.iadd, 1) := by decide +kernel
theorem dX5_readOne_33 : decode cX5_readOne 33 = .ok (.invokevirtual 176, 3) := by decide +kernel
theorem dX5_readOne_36 : decode cX5_readOne 36 = .ok (.aload_n 1, 1) := by decide +kernel
theorem dX5_readOne_37 : decode cX5_readOne 37 = .ok (.bipush 115, 2) := by decide +kernel
theorem dX5_readOne_39 : decode cX5_readOne 39 = .ok (.invokevirtual 173, 3) := by decide +kernel
theorem dX5_readOne_42 : decode cX5_readOne 42 = .ok (.return_, 1) := by decide +kernel
theorem dX5_readOne_43 : decode cX5_readOne 43 = .ok (.aload_n 0, 1) := by decide +kernel
theorem dX5_readOne_44 : decode cX5_readOne 44 = .ok (.aload_n 1, 1) := by decide +kernel
theorem dX5_readOne_45 : decode cX5_readOne 45 = .ok (.iload_n 2, 1) := by decide +kernel
theorem dX5_readOne_46 : decode cX5_readOne 46 = .ok (.invokevirtual 179, 3) := by decide +kernel
theorem dX5_readOne_49 : decode cX5_readOne 49 = .ok (.aload_n 0, 1) := by decide +kernel
theorem dX5_readOne_50 : decode cX5_readOne 50 = .ok (.bipush 60, 2) := by decide +kernel
theorem dX5_readOne_52 : decode cX5_readOne 52 = .ok (.invokevirtual 87, 3) := by decide +kernel
theorem dX5_readOne_55 : decode cX5_readOne 55 = .ok (.ifCond .ne 21, 3) := by decide +kernel
theorem dX5_readOne_58 : decode cX5_readOne 58 = .ok (.aload_n 0, 1) := by decide +kernel
theorem dX5_readOne_59 : decode cX5_readOne 59 = .ok (.bipush 62, 2) := by decide +kernel
theorem dX5_readOne_61 : decode cX5_readOne 61 = .ok (.invokevirtual 87, 3) := by decide +kernel
theorem dX5_readOne_64 : decode cX5_readOne 64 = .ok (.ifCond .ne 12, 3) := by decide +kernel
theorem dX5_readOne_67 : decode cX5_readOne 67 = .ok (.aload_n 0, 1) := by decide +kernel
theorem dX5_readOne_68 : decode cX5_readOne 68 = .ok (.bipush 61, 2) := by decide +kernel
theorem dX5_readOne_70 : decode cX5_readOne 70 = .ok (.invokevirtual 87, 3) := by decide +kernel
theorem dX5_readOne_73 : decode cX5_readOne 73 = .ok (.ifCond .eq 29, 3) := by decide +kernel
theorem dX5_readOne_76 : decode cX5_readOne 76 = .ok (.aload_n 0, 1) := by decide +kernel
theorem dX5_readOne_77 : decode cX5_readOne 77 = .ok (.getfield 12, 3) := by decide +kernel
theorem dX5_readOne_80 : decode cX5_readOne 80 = .ok (.getfield 50, 3) := by decide +kernel
theorem dX5_readOne_83 : decode cX5_readOne 83 = .ok (.istore_n 3, 1) := by decide +kernel
theorem dX5_readOne_84 : decode cX5_readOne 84 = .ok (.aload_n 0, 1) := by decide +kernel
theorem dX5_readOne_85 : decode cX5_readOne 85 = .ok (.getfield 12, 3) := by decide +kernel
theorem dX5_readOne_88 : decode cX5_readOne 88 = .ok (.invokevirtual 91, 3) := by decide +kernel
theorem dX5_readOne_91 : decode cX5_readOne 91 = .ok (.aload_n 0, 1) := by decide +kernel
theorem dX5_readOne_92 : decode cX5_readOne 92 = .ok (.aload_n 1, 1) := by decide +kernel
theorem dX5_readOne_93 : decode cX5_readOne 93 = .ok (.iload_n 2, 1) := by decide +kernel
theorem dX5_readOne_94 : decode cX5_readOne 94 = .ok (.invokevirtual 179, 3) := by decide +kernel
theorem dX5_readOne_97 : decode cX5_readOne 97 = .ok (.aload_n 1, 1) := by decide +kernel
theorem dX5_readOne_98 : decode cX5_readOne 98 = .ok (.iload_n 3, 1) := by decide +kernel
theorem dX5_readOne_99 : decode cX5_readOne 99 = .ok (.invokevirtual 173, 3) := by decide +kernel
theorem dX5_readOne_102 : decode cX5_readOne 102 = .ok (.return_, 1) := by decide +kernel
theorem dX5_readSum_0 : decode cX5_readSum 0 = .ok (.aload_n 0, 1) := by decide +kernel
theorem dX5_readSum_1 : decode cX5_readSum 1 = .ok (.aload_n 1, 1) := by decide +kernel
theorem dX5_readSum_2 : decode cX5_readSum 2 = .ok (.iload_n 2, 1) := by decide +kernel
theorem dX5_readSum_3 : decode cX5_readSum 3 = .ok (.invokevirtual 182, 3) := by decide +kernel
theorem dX5_readSum_6 : decode cX5_readSum 6 = .ok (.iconst 0, 1) := by decide +kernel
theorem dX5_readSum_7 : decode cX5_readSum 7 = .ok (.istore_n 3, 1) := by decide +kernel
theorem dX5_readSum_8 : decode cX5_readSum 8 = .ok (.iload_n 3, 1) := by decide +kernel
theorem dX5_readSum_9 : decode cX5_readSum 9 = .ok (.sipush 1600, 3) := by decide +kernel
theorem dX5_readSum_12 : decode cX5_readSum 12 = .ok (.if_icmp .ge 55, 3) := by decide +kernel
theorem dX5_readSum_15 : decode cX5_readSum 15 = .ok (.aload_n 0, 1) := by decide +kernel
theorem dX5_readSum_16 : decode cX5_readSum 16 = .ok (.bipush 43, 2) := by decide +kernel
theorem dX5_readSum_18 : decode cX5_readSum 18 = .ok (.invokevirtual 87, 3) := by decide +kernel
theorem dX5_readSum_21 : decode cX5_readSum 21 = .ok (.ifCond .ne 12, 3) := by decide +kernel
theorem dX5_readSum_24 : decode cX5_readSum 24 = .ok (.aload_n 0, 1) := by decide +kernel
theorem dX5_readSum_25 : decode cX5_readSum 25 = .ok (.bipush 45, 2) := by decide +kernel
theorem dX5_readSum_27 : decode cX5_readSum 27 = .ok (.invokevirtual 87, 3) := by decide +kernel
theorem dX5_readSum_30 : decode cX5_readSum 30 = .ok (.ifCond .eq 37, 3) := by decide +kernel
theorem dX5_readSum_33 : decode cX5_readSum 33 = .ok (.aload_n 0, 1) := by decide +kernel
theorem dX5_readSum_34 : decode cX5_readSum 34 = .ok (.getfield 12, 3) := by decide +kernel
theorem dX5_readSum_37 : decode cX5_readSum 37 = .ok (.getfield 50, 3) := by decide +kernel
theorem dX5_readSum_40 : decode cX5_readSum 40 = .ok (.istore 4, 2) := by decide +kernel
theorem dX5_readSum_42 : decode cX5_readSum 42 = .ok (.aload_n 0, 1) := by decide +kernel
theorem dX5_readSum_43 : decode cX5_readSum 43 = .ok (.getfield 12, 3) := by decide +kernel
theorem dX5_readSum_46 : decode cX5_readSum 46 = .ok (.invokevirtual 91, 3) := by decide +kernel
theorem dX5_readSum_49 : decode cX5_readSum 49 = .ok (.aload_n 0, 1) := by decide +kernel
theorem dX5_readSum_50 : decode cX5_readSum 50 = .ok (.aload_n 1, 1) := by decide +kernel
theorem dX5_readSum_51 : decode cX5_readSum 51 = .ok (.iload_n 2, 1) := by decide +kernel
theorem dX5_readSum_52 : decode cX5_readSum 52 = .ok (.invokevirtual 182, 3) := by decide +kernel
theorem dX5_readSum_55 : decode cX5_readSum 55 = .ok (.aload_n 1, 1) := by decide +kernel
theorem dX5_readSum_56 : decode cX5_readSum 56 = .ok (.iload 4, 2) := by decide +kernel
theorem dX5_readSum_58 : decode cX5_readSum 58 = .ok (.invokevirtual 173, 3) := by decide +kernel
theorem dX5_readSum_61 : decode cX5_readSum 61 = .ok (.iinc 3 1, 3) := by decide +kernel
theorem dX5_readSum_64 : decode cX5_readSum 64 = .ok (.goto (-56), 3) := by decide +kernel
theorem dX5_readSum_67 : decode cX5_readSum 67 = .ok (.return_, 1) := by decide +kernel
theorem dX5_readTerm_0 : decode cX5_readTerm 0 = .ok (.aload_n 0, 1) := by decide +kernel
theorem dX5_readTerm_1 : decode cX5_readTerm 1 = .ok (.aload_n 1, 1) := by decide +kernel
theorem dX5_readTerm_2 : decode cX5_readTerm 2 = .ok (.iload_n 2, 1) := by decide +kernel
theorem dX5_readTerm_3 : decode cX5_readTerm 3 = .ok (.invokevirtual 185, 3) := by decide +kernel
theorem dX5_readTerm_6 : decode cX5_readTerm 6 = .ok (.iconst 0, 1) := by decide +kernel
theorem dX5_readTerm_7 : decode cX5_readTerm 7 = .ok (.istore_n 3, 1) := by decide +kernel
theorem dX5_readTerm_8 : decode cX5_readTerm 8 = .ok (.iload_n 3, 1) := by decide +kernel
theorem dX5_readTerm_9 : decode cX5_readTerm 9 = .ok (.sipush 1600, 3) := by decide +kernel
theorem dX5_readTerm_12 : decode cX5_readTerm 12 = .ok (.if_icmp .ge 64, 3) := by decide +kernel
theorem dX5_readTerm_15 : decode cX5_readTerm 15 = .ok (.aload_n 0, 1) := by decide +kernel
theorem dX5_readTerm_16 : decode cX5_readTerm 16 = .ok (.bipush 42, 2) := by decide +kernel
theorem dX5_readTerm_18 : decode cX5_readTerm 18 = .ok (.invokevirtual 87, 3) := by decide +kernel
theorem dX5_readTerm_21 : decode cX5_readTerm 21 = .ok (.ifCond .ne 21, 3) := by decide +kernel
theorem dX5_readTerm_24 : decode cX5_readTerm 24 = .ok (.aload_n 0, 1) := by decide +kernel
theorem dX5_readTerm_25 : decode cX5_readTerm 25 = .ok (.bipush 47, 2) := by decide +kernel
theorem dX5_readTerm_27 : decode cX5_readTerm 27 = .ok (.invokevirtual 87, 3) := by decide +kernel
theorem dX5_readTerm_30 : decode cX5_readTerm 30 = .ok (.ifCond .ne 12, 3) := by decide +kernel
theorem dX5_readTerm_33 : decode cX5_readTerm 33 = .ok (.aload_n 0, 1) := by decide +kernel
theorem dX5_readTerm_34 : decode cX5_readTerm 34 = .ok (.bipush 37, 2) := by decide +kernel
theorem dX5_readTerm_36 : decode cX5_readTerm 36 = .ok (.invokevirtual 87, 3) := by decide +kernel
theorem dX5_readTerm_39 : decode cX5_readTerm 39 = .ok (.ifCond .eq 37, 3) := by decide +kernel
theorem dX5_readTerm_42 : decode cX5_readTerm 42 = .ok (.aload_n 0, 1) := by decide +kernel
theorem dX5_readTerm_43 : decode cX5_readTerm 43 = .ok (.getfield 12, 3) := by decide +kernel
theorem dX5_readTerm_46 : decode cX5_readTerm 46 = .ok (.getfield 50, 3) := by decide +kernel
theorem dX5_readTerm_49 : decode cX5_readTerm 49 = .ok (.istore 4, 2) := by decide +kernel
theorem dX5_readTerm_51 : decode cX5_readTerm 51 = .ok (.aload_n 0, 1) := by decide +kernel
theorem dX5_readTerm_52 : decode cX5_readTerm 52 = .ok (.getfield 12, 3) := by decide +kernel
theorem dX5_readTerm_55 : decode cX5_readTerm 55 = .ok (.invokevirtual 91, 3) := by decide +kernel
theorem dX5_readTerm_58 : decode cX5_readTerm 58 = .ok (.aload_n 0, 1) := by decide +kernel
theorem dX5_readTerm_59 : decode cX5_readTerm 59 = .ok (.aload_n 1, 1) := by decide +kernel
theorem dX5_readTerm_60 : decode cX5_readTerm 60 = .ok (.iload_n 2, 1) := by decide +kernel
theorem dX5_readTerm_61 : decode cX5_readTerm 61 = .ok (.invokevirtual 185, 3) := by decide +kernel
theorem dX5_readTerm_64 : decode cX5_readTerm 64 = .ok (.aload_n 1, 1) := by decide +kernel
theorem dX5_readTerm_65 : decode cX5_readTerm 65 = .ok (.iload 4, 2) := by decide +kernel
theorem dX5_readTerm_67 : decode cX5_readTerm 67 = .ok (.invokevirtual 173, 3) := by decide +kernel
theorem dX5_readTerm_70 : decode cX5_readTerm 70 = .ok (.iinc 3 1, 3) := by decide +kernel
theorem dX5_readTerm_73 : decode cX5_readTerm 73 = .ok (.goto (-65), 3) := by decide +kernel
theorem dX5_readTerm_76 : decode cX5_readTerm 76 = .ok (.return_, 1) := by decide +kernel
theorem dX5_readUnit_0 : decode cX5_readUnit 0 = .ok (.aload_n 0, 1) := by decide +kernel
theorem dX5_readUnit_1 : decode cX5_readUnit 1 = .ok (.invokevirtual 46, 3) := by decide +kernel
theorem dX5_readUnit_4 : decode cX5_readUnit 4 = .ok (.ifCond .eq 31, 3) := by decide +kernel
theorem dX5_readUnit_7 : decode cX5_readUnit 7 = .ok (.aload_n 0, 1) := by decide +kernel
theorem dX5_readUnit_8 : decode cX5_readUnit 8 = .ok (.getfield 12, 3) := by decide +kernel
theorem dX5_readUnit_11 : decode cX5_readUnit 11 = .ok (.getfield 50, 3) := by decide +kernel
theorem dX5_readUnit_14 : decode cX5_readUnit 14 = .ok (.bipush 116, 2) := by decide +kernel
theorem dX5_readUnit_16 : decode cX5_readUnit 16 = .ok (.if_icmp .lt 19, 3) := by decide +kernel
theorem dX5_readUnit_19 : decode cX5_readUnit 19 = .ok (.aload_n 0, 1) := by decide +kernel
theorem dX5_readUnit_20 : decode cX5_readUnit 20 = .ok (.getfield 12, 3) := by decide +kernel
theorem dX5_readUnit_23 : decode cX5_readUnit 23 = .ok (.getfield 50, 3) := by decide +kernel
theorem dX5_readUnit_26 : decode cX5_readUnit 26 = .ok (.bipush 123, 2) := by decide +kernel
theorem dX5_readUnit_28 : decode cX5_readUnit 28 = .ok (.if_icmp .ge 7, 3) := by decide +kernel
theorem dX5_readUnit_31 : decode cX5_readUnit 31 = .ok (.iconst 1, 1) := by decide +kernel
theorem dX5_readUnit_32 : decode cX5_readUnit 32 = .ok (.goto 4, 3) := by decide +kernel
theorem dX5_readUnit_35 : decode cX5_readUnit 35 = .ok (.iconst 0, 1) := by decide +kernel
theorem dX5_readUnit_36 : decode cX5_readUnit 36 = .ok (.istore_n 3, 1) := by decide +kernel
theorem dX5_readUnit_37 : decode cX5_readUnit 37 = .ok (.iload_n 3, 1) := by decide +kernel
theorem dX5_readUnit_38 : decode cX5_readUnit 38 = .ok (.ifCond .ne 26, 3) := by decide +kernel
theorem dX5_readUnit_41 : decode cX5_readUnit 41 = .ok (.aload_n 0, 1) := by decide +kernel
theorem dX5_readUnit_42 : decode cX5_readUnit 42 = .ok (.iconst 2, 1) := by decide +kernel
theorem dX5_readUnit_43 : decode cX5_readUnit 43 = .ok (.invokevirtual 87, 3) := by decide +kernel
theorem dX5_readUnit_46 : decode cX5_readUnit 46 = .ok (.ifCond .ne 18, 3) := by decide +kernel
theorem dX5_readUnit_49 : decode cX5_readUnit 49 = .ok (.aload_n 0, 1) := by decide +kernel
theorem dX5_readUnit_50 : decode cX5_readUnit 50 = .ok (.bipush 40, 2) := by decide +kernel
theorem dX5_readUnit_52 : decode cX5_readUnit 52 = .ok (.invokevirtual 87, 3) := by decide +kernel
theorem dX5_readUnit_55 : decode cX5_readUnit 55 = .ok (.ifCond .eq 13, 3) := by decide +kernel
theorem dX5_readUnit_58 : decode cX5_readUnit 58 = .ok (.iload_n 2, 1) := by decide +kernel
theorem dX5_readUnit_59 : decode cX5_readUnit 59 = .ok (.bipush 6, 2) := by decide +kernel
theorem dX5_readUnit_61 : decode cX5_readUnit 61 = .ok (.if_icmp .gt 7, 3) := by decide +kernel
theorem dX5_readUnit_64 : decode cX5_readUnit 64 = .ok (.iconst 1, 1) := by decide +kernel
theorem dX5_readUnit_65 : decode cX5_readUnit 65 = .ok (.goto 4, 3) := by decide +kernel
theorem dX5_readUnit_68 : decode cX5_readUnit 68 = .ok (.iconst 0, 1) := by decide +kernel
theorem dX5_readUnit_69 : decode cX5_readUnit 69 = .ok (.istore 4, 2) := by decide +kernel
theorem dX5_readUnit_71 : decode cX5_readUnit 71 = .ok (.iload 4, 2) := by decide +kernel
theorem dX5_readUnit_73 : decode cX5_readUnit 73 = .ok (.ifCond .eq 24, 3) := by decide +kernel
theorem dX5_readUnit_76 : decode cX5_readUnit 76 = .ok (.aload_n 0, 1) := by decide +kernel
theorem dX5_readUnit_77 : decode cX5_readUnit 77 = .ok (.getfield 163, 3) := by decide +kernel
theorem dX5_readUnit_80 : decode cX5_readUnit 80 = .ok (.bipush 30, 2) := by decide +kernel
theorem dX5_readUnit_82 : decode cX5_readUnit 82 = .ok (.if_icmp .ge 15, 3) := by decide +kernel
theorem dX5_readUnit_85 : decode cX5_readUnit 85 = .ok (.aload_n 0, 1) := by decide +kernel
theorem dX5_readUnit_86 : decode cX5_readUnit 86 = .ok (.getfield 28, 3) := by decide +kernel
theorem dX5_readUnit_89 : decode cX5_readUnit 89 = .ok (.getfield 188, 3) := by decide +kernel
theorem dX5_readUnit_92 : decode cX5_readUnit 92 = .ok (.bipush 80, 2) := by decide +kernel
theorem dX5_readUnit_94 : decode cX5_readUnit 94 = .ok (.if_icmp .lt 9, 3) := by decide +kernel
theorem dX5_readUnit_97 : decode cX5_readUnit 97 = .ok (.aload_n 0, 1) := by decide +kernel
theorem dX5_readUnit_98 : decode cX5_readUnit 98 = .ok (.iconst 2, 1) := by decide +kernel
theorem dX5_readUnit_99 : decode cX5_readUnit 99 = .ok (.invokevirtual 77, 3) := by decide +kernel
theorem dX5_readUnit_102 : decode cX5_readUnit 102 = .ok (.return_, 1) := by decide +kernel
theorem dX5_readUnit_103 : decode cX5_readUnit 103 = .ok (.aload_n 0, 1) := by decide +kernel
theorem dX5_readUnit_104 : decode cX5_readUnit 104 = .ok (.dup, 1) := by decide +kernel
theorem dX5_readUnit_105 : decode cX5_readUnit 105 = .ok (.getfield 163, 3) := by decide +kernel
theorem dX5_readUnit_108 : decode cX5_readUnit 108 = .ok (.iconst 1, 1) := by decide +kernel
theorem dX5_readUnit_109 : decode cX5_readUnit 109 = .ok (.iadd, 1) := by decide +kernel
theorem dX5_readUnit_110 : decode cX5_readUnit 110 = .ok (.putfield 163, 3) := by decide +kernel
theorem dX5_readUnit_113 : decode cX5_readUnit 113 = .ok (.aload_n 0, 1) := by decide +kernel
theorem dX5_readUnit_114 : decode cX5_readUnit 114 = .ok (.getfield 28, 3) := by decide +kernel
theorem dX5_readUnit_117 : decode cX5_readUnit 117 = .ok (.dup, 1) := by decide +kernel
theorem dX5_readUnit_118 : decode cX5_readUnit 118 = .ok (.getfield 188, 3) := by decide +kernel
theorem dX5_readUnit_121 : decode cX5_readUnit 121 = .ok (.iconst 1, 1) := by decide +kernel
theorem dX5_readUnit_122 : decode cX5_readUnit 122 = .ok (.iadd, 1) := by decide +kernel
theorem dX5_readUnit_123 : decode cX5_readUnit 123 = .ok (.putfield 188, 3) := by decide +kernel
theorem dX5_readUnit_126 : decode cX5_readUnit 126 = .ok (.aload_n 0, 1) := by decide +kernel
theorem dX5_readUnit_127 : decode cX5_readUnit 127 = .ok (.bipush 40, 2) := by decide +kernel
theorem dX5_readUnit_129 : decode cX5_readUnit 129 = .ok (.invokevirtual 87, 3) := by decide +kernel
theorem dX5_readUnit_132 : decode cX5_readUnit 132 = .ok (.ifCond .eq 25, 3) := by decide +kernel
theorem dX5_readUnit_135 : decode cX5_readUnit 135 = .ok (.aload_n 0, 1) := by decide +kernel
theorem dX5_readUnit_136 : decode cX5_readUnit 136 = .ok (.getfield 12, 3) := by decide +kernel
theorem dX5_readUnit_139 : decode cX5_readUnit 139 = .ok (.invokevirtual 91, 3) := by decide +kernel
theorem dX5_readUnit_142 : decode cX5_readUnit 142 = .ok (.aload_n 0, 1) := by decide +kernel
theorem dX5_readUnit_143 : decode cX5_readUnit 143 = .ok (.aload_n 1, 1) := by decide +kernel
theorem dX5_readUnit_144 : decode cX5_readUnit 144 = .ok (.iload_n 2, 1) := by decide +kernel
theorem dX5_readUnit_145 : decode cX5_readUnit 145 = .ok (.iconst 1, 1) := by decide +kernel
theorem dX5_readUnit_146 : decode cX5_readUnit 146 = .ok (.iadd, 1) := by decide +kernel
theorem dX5_readUnit_147 : decode cX5_readUnit 147 = .ok (.invokevirtual 166, 3) := by decide +kernel
theorem dX5_readUnit_150 : decode cX5_readUnit 150 = .ok (.aload_n 0, 1) := by decide +kernel
theorem dX5_readUnit_151 : decode cX5_readUnit 151 = .ok (.bipush 41, 2) := by decide +kernel
theorem dX5_readUnit_153 : decode cX5_readUnit 153 = .ok (.invokevirtual 81, 3) := by decide +kernel
theorem dX5_readUnit_156 : decode cX5_readUnit 156 = .ok (.return_, 1) := by decide +kernel
theorem dX5_readUnit_157 : decode cX5_readUnit 157 = .ok (.iload_n 3, 1) := by decide +kernel
theorem dX5_readUnit_158 : decode cX5_readUnit 158 = .ok (.ifCond .eq 20, 3) := by decide +kernel
theorem dX5_readUnit_161 : decode cX5_readUnit 161 = .ok (.aload_n 1, 1) := by decide +kernel
theorem dX5_readUnit_162 : decode cX5_readUnit 162 = .ok (.aload_n 0, 1) := by decide +kernel
theorem dX5_readUnit_163 : decode cX5_readUnit 163 = .ok (.getfield 12, 3) := by decide +kernel
theorem dX5_readUnit_166 : decode cX5_readUnit 166 = .ok (.getfield 50, 3) := by decide +kernel
theorem dX5_readUnit_169 : decode cX5_readUnit 169 = .ok (.bipush 116, 2) := by decide +kernel
theorem dX5_readUnit_171 : decode cX5_readUnit 171 = .ok (.isub, 1) := by decide +kernel
theorem dX5_readUnit_172 : decode cX5_readUnit 172 = .ok (.invokevirtual 191, 3) := by decide +kernel
theorem dX5_readUnit_175 : decode cX5_readUnit 175 = .ok (.goto 14, 3) := by decide +kernel
theorem dX5_readUnit_178 : decode cX5_readUnit 178 = .ok (.aload_n 1, 1) := by decide +kernel
theorem dX5_readUnit_179 : decode cX5_readUnit 179 = .ok (.aload_n 0, 1) := by decide +kernel
theorem dX5_readUnit_180 : decode cX5_readUnit 180 = .ok (.getfield 12, 3) := by decide +kernel
theorem dX5_readUnit_183 : decode cX5_readUnit 183 = .ok (.getfield 94, 3) := by decide +kernel
theorem dX5_readUnit_186 : decode cX5_readUnit 186 = .ok (.invokevirtual 194, 3) := by decide +kernel
theorem dX5_readUnit_189 : decode cX5_readUnit 189 = .ok (.aload_n 0, 1) := by decide +kernel
theorem dX5_readUnit_190 : decode cX5_readUnit 190 = .ok (.getfield 12, 3) := by decide +kernel
theorem dX5_readUnit_193 : decode cX5_readUnit 193 = .ok (.invokevirtual 91, 3) := by decide +kernel
theorem dX5_readUnit_196 : decode cX5_readUnit 196 = .ok (.return_, 1) := by decide +kernel
theorem dX6_init_0 : decode cX6_init 0 = .ok (.aload_n 0, 1) := by decide +kernel
theorem dX6_init_1 : decode cX6_init 1 = .ok (.invokespecial 3, 3) := by decide +kernel
theorem dX6_init_4 : decode cX6_init 4 = .ok (.aload_n 0, 1) := by decide +kernel
theorem dX6_init_5 : decode cX6_init 5 = .ok (.bipush 6, 2) := by decide +kernel
theorem dX6_init_7 : decode cX6_init 7 = .ok (.newarray .int, 2) := by decide +kernel
theorem dX6_init_9 : decode cX6_init 9 = .ok (.putfield 9, 3) := by decide +kernel
theorem dX6_init_12 : decode cX6_init 12 = .ok (.aload_n 0, 1) := by decide +kernel
theorem dX6_init_13 : decode cX6_init 13 = .ok (.bipush 6, 2) := by decide +kernel
theorem dX6_init_15 : decode cX6_init 15 = .ok (.newarray .int, 2) := by decide +kernel
theorem dX6_init_17 : decode cX6_init 17 = .ok (.putfield 15, 3) := by decide +kernel
theorem dX6_init_20 : decode cX6_init 20 = .ok (.return_, 1) := by decide +kernel
theorem dX6_find_0 : decode cX6_find 0 = .ok (.aload_n 0, 1) := by decide +kernel
theorem dX6_find_1 : decode cX6_find 1 = .ok (.iconst 0, 1) := by decide +kernel
theorem dX6_find_2 : decode cX6_find 2 = .ok (.putfield 18, 3) := by decide +kernel
theorem dX6_find_5 : decode cX6_find 5 = .ok (.aload_n 0, 1) := by decide +kernel
theorem dX6_find_6 : decode cX6_find 6 = .ok (.iconst 0, 1) := by decide +kernel
theorem dX6_find_7 : decode cX6_find 7 = .ok (.putfield 22, 3) := by decide +kernel
theorem dX6_find_10 : decode cX6_find 10 = .ok (.aload_n 0, 1) := by decide +kernel
theorem dX6_find_11 : decode cX6_find 11 = .ok (.iconst 0, 1) := by decide +kernel
theorem dX6_find_12 : decode cX6_find 12 = .ok (.putfield 25, 3) := by decide +kernel
theorem dX6_find_15 : decode cX6_find 15 = .ok (.aload_n 0, 1) := by decide +kernel
theorem dX6_find_16 : decode cX6_find 16 = .ok (.iconst 0, 1) := by decide +kernel
theorem dX6_find_17 : decode cX6_find 17 = .ok (.putfield 28, 3) := by decide +kernel
theorem dX6_find_20 : decode cX6_find 20 = .ok (.iconst 0, 1) := by decide +kernel
theorem dX6_find_21 : decode cX6_find 21 = .ok (.istore_n 3, 1) := by decide +kernel
theorem dX6_find_22 : decode cX6_find 22 = .ok (.iload_n 3, 1) := by decide +kernel
theorem dX6_find_23 : decode cX6_find 23 = .ok (.iload_n 1, 1) := by decide +kernel
theorem dX6_find_24 : decode cX6_find 24 = .ok (.if_icmp .ge 26, 3) := by decide +kernel
theorem dX6_find_27 : decode cX6_find 27 = .ok (.aload_n 0, 1) := by decide +kernel
theorem dX6_find_28 : decode cX6_find 28 = .ok (.getfield 9, 3) := by decide +kernel
theorem dX6_find_31 : decode cX6_find 31 = .ok (.iconst 0, 1) := by decide +kernel
theorem dX6_find_32 : decode cX6_find 32 = .ok (.iload_n 3, 1) := by decide +kernel
theorem dX6_find_33 : decode cX6_find 33 = .ok (.iastore, 1) := by decide +kernel
theorem dX6_find_34 : decode cX6_find 34 = .ok (.aload_n 0, 1) := by decide +kernel
theorem dX6_find_35 : decode cX6_find 35 = .ok (.iload_n 1, 1) := by decide +kernel
theorem dX6_find_36 : decode cX6_find 36 = .ok (.aload_n 2, 1) := by decide +kernel
theorem dX6_find_37 : decode cX6_find 37 = .ok (.iconst 1, 1) := by decide +kernel
theorem dX6_find_38 : decode cX6_find 38 = .ok (.sipush 9999, 3) := by decide +kernel
theorem dX6_find_41 : decode cX6_find 41 = .ok (.invokevirtual 31, 3) := by decide +kernel
theorem dX6_find_44 : decode cX6_find 44 = .ok (.iinc 3 1, 3) := by decide +kernel
theorem dX6_find_47 : decode cX6_find 47 = .ok (.goto (-25), 3) := by decide +kernel
theorem dX6_find_50 : decode cX6_find 50 = .ok (.return_, 1) := by decide +kernel
theorem dX6_goOn_0 : decode cX6_goOn 0 = .ok (.aload_n 0, 1) := by decide +kernel
theorem dX6_goOn_1 : decode cX6_goOn 1 = .ok (.getfield 9, 3) := by decide +kernel
theorem dX6_goOn_4 : decode cX6_goOn 4 = .ok (.iload_n 3, 1) := by decide +kernel
theorem dX6_goOn_5 : decode cX6_goOn 5 = .ok (.iconst 1, 1) := by decide +kernel
theorem dX6_goOn_6 : decode cX6_goOn 6 = .ok (.isub, 1) := by decide +kernel
theorem dX6_goOn_7 : decode cX6_goOn 7 = .ok (.iaload, 1) := by decide +kernel
theorem dX6_goOn_8 : decode cX6_goOn 8 = .ok (.istore 5, 2) := by decide +kernel
theorem dX6_goOn_10 : decode cX6_goOn 10 = .ok (.aload_n 2, 1) := by decide +kernel
theorem dX6_goOn_11 : decode cX6_goOn 11 = .ok (.iload 5, 2) := by decide +kernel
theorem dX6_goOn_13 : decode cX6_goOn 13 = .ok (.aload_n 0, 1) := by decide +kernel
theorem dX6_goOn_14 : decode cX6_goOn 14 = .ok (.getfield 9, 3) := by decide +kernel
theorem dX6_goOn_17 : decode cX6_goOn 17 = .ok (.iconst 0, 1) := by decide +kernel
theorem dX6_goOn_18 : decode cX6_goOn 18 = .ok (.iaload, 1) := by decide +kernel
theorem dX6_goOn_19 : decode cX6_goOn 19 = .ok (.invokestatic 35, 3) := by decide +kernel
theorem dX6_goOn_22 : decode cX6_goOn 22 = .ok (.iaload, 1) := by decide +kernel
theorem dX6_goOn_23 : decode cX6_goOn 23 = .ok (.istore 6, 2) := by decide +kernel
theorem dX6_goOn_25 : decode cX6_goOn 25 = .ok (.iload 6, 2) := by decide +kernel
theorem dX6_goOn_27 : decode cX6_goOn 27 = .ok (.ifCond .le 15, 3) := by decide +kernel
theorem dX6_goOn_30 : decode cX6_goOn 30 = .ok (.aload_n 0, 1) := by decide +kernel
theorem dX6_goOn_31 : decode cX6_goOn 31 = .ok (.iload_n 3, 1) := by decide +kernel
theorem dX6_goOn_32 : decode cX6_goOn 32 = .ok (.iload 4, 2) := by decide +kernel
theorem dX6_goOn_34 : decode cX6_goOn 34 = .ok (.iload 6, 2) := by decide +kernel
theorem dX6_goOn_36 : decode cX6_goOn 36 = .ok (.invokestatic 39, 3) := by decide +kernel
theorem dX6_goOn_39 : decode cX6_goOn 39 = .ok (.invokevirtual 44, 3) := by decide +kernel
theorem dX6_goOn_42 : decode cX6_goOn 42 = .ok (.iload_n 3, 1) := by decide +kernel
theorem dX6_goOn_43 : decode cX6_goOn 43 = .ok (.bipush 6, 2) := by decide +kernel
theorem dX6_goOn_45 : decode cX6_goOn 45 = .ok (.if_icmp .lt 4, 3) := by decide +kernel
theorem dX6_goOn_48 : decode cX6_goOn 48 = .ok (.return_, 1) := by decide +kernel
theorem dX6_goOn_49 : decode cX6_goOn 49 = .ok (.aload_n 0, 1) := by decide +kernel
theorem dX6_goOn_50 : decode cX6_goOn 50 = .ok (.getfield 9, 3) := by decide +kernel
theorem dX6_goOn_53 : decode cX6_goOn 53 = .ok (.iconst 0, 1) := by decide +kernel
theorem dX6_goOn_54 : decode cX6_goOn 54 = .ok (.iaload, 1) := by decide +kernel
theorem dX6_goOn_55 : decode cX6_goOn 55 = .ok (.iconst 1, 1) := by decide +kernel
theorem dX6_goOn_56 : decode cX6_goOn 56 = .ok (.iadd, 1) := by decide +kernel
theorem dX6_goOn_57 : decode cX6_goOn 57 = .ok (.istore 7, 2) := by decide +kernel
theorem dX6_goOn_59 : decode cX6_goOn 59 = .ok (.iload 7, 2) := by decide +kernel
theorem dX6_goOn_61 : decode cX6_goOn 61 = .ok (.iload_n 1, 1) := by decide +kernel
theorem dX6_goOn_62 : decode cX6_goOn 62 = .ok (.if_icmp .ge 59, 3) := by decide +kernel
theorem dX6_goOn_65 : decode cX6_goOn 65 = .ok (.aload_n 2, 1) := by decide +kernel
theorem dX6_goOn_66 : decode cX6_goOn 66 = .ok (.iload 5, 2) := by decide +kernel
theorem dX6_goOn_68 : decode cX6_goOn 68 = .ok (.iload 7, 2) := by decide +kernel
theorem dX6_goOn_70 : decode cX6_goOn 70 = .ok (.invokestatic 35, 3) := by decide +kernel
theorem dX6_goOn_73 : decode cX6_goOn 73 = .ok (.iaload, 1) := by decide +kernel
theorem dX6_goOn_74 : decode cX6_goOn 74 = .ok (.istore 8, 2) := by decide +kernel
theorem dX6_goOn_76 : decode cX6_goOn 76 = .ok (.iload 8, 2) := by decide +kernel
theorem dX6_goOn_78 : decode cX6_goOn 78 = .ok (.ifCond .le 37, 3) := by decide +kernel
theorem dX6_goOn_81 : decode cX6_goOn 81 = .ok (.aload_n 0, 1) := by decide +kernel
theorem dX6_goOn_82 : decode cX6_goOn 82 = .ok (.iload 7, 2) := by decide +kernel
theorem dX6_goOn_84 : decode cX6_goOn 84 = .ok (.iload_n 3, 1) := by decide +kernel
theorem dX6_goOn_85 : decode cX6_goOn 85 = .ok (.invokevirtual 48, 3) := by decide +kernel
theorem dX6_goOn_88 : decode cX6_goOn 88 = .ok (.ifCond .ne 27, 3) := by decide +kernel
theorem dX6_goOn_91 : decode cX6_goOn 91 = .ok (.aload_n 0, 1) := by decide +kernel
theorem dX6_goOn_92 : decode cX6_goOn 92 = .ok (.getfield 9, 3) := by decide +kernel
theorem dX6_goOn_95 : decode cX6_goOn 95 = .ok (.iload_n 3, 1) := by decide +kernel
theorem dX6_goOn_96 : decode cX6_goOn 96 = .ok (.iload 7, 2) := by decide +kernel
theorem dX6_goOn_98 : decode cX6_goOn 98 = .ok (.iastore, 1) := by decide +kernel
theorem dX6_goOn_99 : decode cX6_goOn 99 = .ok (.aload_n 0, 1) := by decide +kernel
theorem dX6_goOn_100 : decode cX6_goOn 100 = .ok (.iload_n 1, 1) := by decide +kernel
theorem dX6_goOn_101 : decode cX6_goOn 101 = .ok (.aload_n 2, 1) := by decide +kernel
theorem dX6_goOn_102 : decode cX6_goOn 102 = .ok (.iload_n 3, 1) := by decide +kernel
theorem dX6_goOn_103 : decode cX6_goOn 103 = .ok (.iconst 1, 1) := by decide +kernel
theorem dX6_goOn_104 : decode cX6_goOn 104 = .ok (.iadd, 1) := by decide +kernel
theorem dX6_goOn_105 : decode cX6_goOn 105 = .ok (.iload 4, 2) := by decide +kernel
theorem dX6_goOn_107 : decode cX6_goOn 107 = .ok (.iload 8, 2) := by decide +kernel
theorem dX6_goOn_109 : decode cX6_goOn 109 = .ok (.invokestatic 39, 3) := by decide +kernel
theorem dX6_goOn_112 : decode cX6_goOn 112 = .ok (.invokevirtual 31, 3) := by decide +kernel
theorem dX6_goOn_115 : decode cX6_goOn 115 = .ok (.iinc 7 1, 3) := by decide +kernel
theorem dX6_goOn_118 : decode cX6_goOn 118 = .ok (.goto (-59), 3) := by decide +kernel
theorem dX6_goOn_121 : decode cX6_goOn 121 = .ok (.return_, 1) := by decide +kernel
theorem dX6_isInRow_0 : decode cX6_isInRow 0 = .ok (.iconst 0, 1) := by decide +kernel
theorem dX6_isInRow_1 : decode cX6_isInRow 1 = .ok (.istore_n 3, 1) := by decide +kernel
theorem dX6_isInRow_2 : decode cX6_isInRow 2 = .ok (.iload_n 3, 1) := by decide +kernel
theorem dX6_isInRow_3 : decode cX6_isInRow 3 = .ok (.iload_n 2, 1) := by decide +kernel
theorem dX6_isInRow_4 : decode cX6_isInRow 4 = .ok (.if_icmp .ge 21, 3) := by decide +kernel
theorem dX6_isInRow_7 : decode cX6_isInRow 7 = .ok (.aload_n 0, 1) := by decide +kernel
theorem dX6_isInRow_8 : decode cX6_isInRow 8 = .ok (.getfield 9, 3) := by decide +kernel
theorem dX6_isInRow_11 : decode cX6_isInRow 11 = .ok (.iload_n 3, 1) := by decide +kernel
theorem dX6_isInRow_12 : decode cX6_isInRow 12 = .ok (.iaload, 1) := by decide +kernel
theorem dX6_isInRow_13 : decode cX6_isInRow 13 = .ok (.iload_n 1, 1) := by decide +kernel
theorem dX6_isInRow_14 : decode cX6_isInRow 14 = .ok (.if_icmp .ne 5, 3) := by decide +kernel
theorem dX6_isInRow_17 : decode cX6_isInRow 17 = .ok (.iconst 1, 1) := by decide +kernel
theorem dX6_isInRow_18 : decode cX6_isInRow 18 = .ok (.ireturn, 1) := by decide +kernel
theorem dX6_isInRow_19 : decode cX6_isInRow 19 = .ok (.iinc 3 1, 3) := by decide +kernel
theorem dX6_isInRow_22 : decode cX6_isInRow 22 = .ok (.goto (-20), 3) := by decide +kernel
theorem dX6_isInRow_25 : decode cX6_isInRow 25 = .ok (.iconst 0, 1) := by decide +kernel
theorem dX6_isInRow_26 : decode cX6_isInRow 26 = .ok (.ireturn, 1) := by decide +kernel
theorem dX6_keep_0 : decode cX6_keep 0 = .ok (.aload_n 0, 1) := by decide +kernel
theorem dX6_keep_1 : decode cX6_keep 1 = .ok (.dup, 1) := by decide +kernel
theorem dX6_keep_2 : decode cX6_keep 2 = .ok (.getfield 28, 3) := by decide +kernel
theorem dX6_keep_5 : decode cX6_keep 5 = .ok (.iconst 1, 1) := by decide +kernel
theorem dX6_keep_6 : decode cX6_keep 6 = .ok (.iadd, 1) := by decide +kernel
theorem dX6_keep_7 : decode cX6_keep 7 = .ok (.putfield 28, 3) := by decide +kernel
theorem dX6_keep_10 : decode cX6_keep 10 = .ok (.iload_n 2, 1) := by decide +kernel
theorem dX6_keep_11 : decode cX6_keep 11 = .ok (.iload_n 1, 1) := by decide +kernel
theorem dX6_keep_12 : decode cX6_keep 12 = .ok (.imul, 1) := by decide +kernel
theorem dX6_keep_13 : decode cX6_keep 13 = .ok (.aload_n 0, 1) := by decide +kernel
theorem dX6_keep_14 : decode cX6_keep 14 = .ok (.getfield 25, 3) := by decide +kernel
theorem dX6_keep_17 : decode cX6_keep 17 = .ok (.if_icmp .le 34, 3) := by decide +kernel
theorem dX6_keep_20 : decode cX6_keep 20 = .ok (.aload_n 0, 1) := by decide +kernel
theorem dX6_keep_21 : decode cX6_keep 21 = .ok (.iload_n 2, 1) := by decide +kernel
theorem dX6_keep_22 : decode cX6_keep 22 = .ok (.iload_n 1, 1) := by decide +kernel
theorem dX6_keep_23 : decode cX6_keep 23 = .ok (.imul, 1) := by decide +kernel
theorem dX6_keep_24 : decode cX6_keep 24 = .ok (.putfield 25, 3) := by decide +kernel
theorem dX6_keep_27 : decode cX6_keep 27 = .ok (.aload_n 0, 1) := by decide +kernel
theorem dX6_keep_28 : decode cX6_keep 28 = .ok (.iload_n 2, 1) := by decide +kernel
theorem dX6_keep_29 : decode cX6_keep 29 = .ok (.putfield 18, 3) := by decide +kernel
theorem dX6_keep_32 : decode cX6_keep 32 = .ok (.aload_n 0, 1) := by decide +kernel
theorem dX6_keep_33 : decode cX6_keep 33 = .ok (.iload_n 1, 1) := by decide +kernel
theorem dX6_keep_34 : decode cX6_keep 34 = .ok (.putfield 22, 3) := by decide +kernel
theorem dX6_keep_37 : decode cX6_keep 37 = .ok (.aload_n 0, 1) := by decide +kernel
theorem dX6_keep_38 : decode cX6_keep 38 = .ok (.getfield 9, 3) := by decide +kernel
theorem dX6_keep_41 : decode cX6_keep 41 = .ok (.iconst 0, 1) := by decide +kernel
theorem dX6_keep_42 : decode cX6_keep 42 = .ok (.aload_n 0, 1) := by decide +kernel
theorem dX6_keep_43 : decode cX6_keep 43 = .ok (.getfield 15, 3) := by decide +kernel
theorem dX6_keep_46 : decode cX6_keep 46 = .ok (.iconst 0, 1) := by decide +kernel
theorem dX6_keep_47 : decode cX6_keep 47 = .ok (.iload_n 1, 1) := by decide +kernel
theorem dX6_keep_48 : decode cX6_keep 48 = .ok (.invokestatic 52, 3) := by decide +kernel
theorem dX6_keep_51 : decode cX6_keep 51 = .ok (.return_, 1) := by decide +kernel
theorem dX6_takeBestFrom_0 : decode cX6_takeBestFrom 0 = .ok (.iconst 0, 1) := by decide +kernel
theorem dX6_takeBestFrom_1 : decode cX6_takeBestFrom 1 = .ok (.istore_n 2, 1) := by decide +kernel
theorem dX6_takeBestFrom_2 : decode cX6_takeBestFrom 2 = .ok (.iload_n 2, 1) := by decide +kernel
theorem dX6_takeBestFrom_3 : decode cX6_takeBestFrom 3 = .ok (.aload_n 0, 1) := by decide +kernel
theorem dX6_takeBestFrom_4 : decode cX6_takeBestFrom 4 = .ok (.getfield 22, 3) := by decide +kernel
theorem dX6_takeBestFrom_7 : decode cX6_takeBestFrom 7 = .ok (.if_icmp .ge 56, 3) := by decide +kernel
theorem dX6_takeBestFrom_10 : decode cX6_takeBestFrom 10 = .ok (.iload_n 2, 1) := by decide +kernel
theorem dX6_takeBestFrom_11 : decode cX6_takeBestFrom 11 = .ok (.iconst 1, 1) := by decide +kernel
theorem dX6_takeBestFrom_12 : decode cX6_takeBestFrom 12 = .ok (.iadd, 1) := by decide +kernel
theorem dX6_takeBestFrom_13 : decode cX6_takeBestFrom 13 = .ok (.aload_n 0, 1) := by decide +kernel
theorem dX6_takeBestFrom_14 : decode cX6_takeBestFrom 14 = .ok (.getfield 22, 3) := by decide +kernel
theorem dX6_takeBestFrom_17 : decode cX6_takeBestFrom 17 = .ok (.if_icmp .ge 14, 3) := by decide +kernel
theorem dX6_takeBestFrom_20 : decode cX6_takeBestFrom 20 = .ok (.aload_n 0, 1) := by decide +kernel
theorem dX6_takeBestFrom_21 : decode cX6_takeBestFrom 21 = .ok (.getfield 15, 3) := by decide +kernel
theorem dX6_takeBestFrom_24 : decode cX6_takeBestFrom 24 = .ok (.iload_n 2, 1) := by decide +kernel
theorem dX6_takeBestFrom_25 : decode cX6_takeBestFrom 25 = .ok (.iconst 1, 1) := by decide +kernel
theorem dX6_takeBestFrom_26 : decode cX6_takeBestFrom 26 = .ok (.iadd, 1) := by decide +kernel
theorem dX6_takeBestFrom_27 : decode cX6_takeBestFrom 27 = .ok (.iaload, 1) := by decide +kernel
theorem dX6_takeBestFrom_28 : decode cX6_takeBestFrom 28 = .ok (.goto 9, 3) := by decide +kernel
theorem dX6_takeBestFrom_31 : decode cX6_takeBestFrom 31 = .ok (.aload_n 0, 1) := by decide +kernel
theorem dX6_takeBestFrom_32 : decode cX6_takeBestFrom 32 = .ok (.getfield 15, 3) := by decide +kernel
theorem dX6_takeBestFrom_35 : decode cX6_takeBestFrom 35 = .ok (.iconst 0, 1) := by decide +kernel
theorem dX6_takeBestFrom_36 : decode cX6_takeBestFrom 36 = .ok (.iaload, 1) := by decide +kernel
theorem dX6_takeBestFrom_37 : decode cX6_takeBestFrom 37 = .ok (.istore_n 3, 1) := by decide +kernel
theorem dX6_takeBestFrom_38 : decode cX6_takeBestFrom 38 = .ok (.aload_n 1, 1) := by decide +kernel
theorem dX6_takeBestFrom_39 : decode cX6_takeBestFrom 39 = .ok (.aload_n 0, 1) := by decide +kernel
theorem dX6_takeBestFrom_40 : decode cX6_takeBestFrom 40 = .ok (.getfield 15, 3) := by decide +kernel
theorem dX6_takeBestFrom_43 : decode cX6_takeBestFrom 43 = .ok (.iload_n 2, 1) := by decide +kernel
theorem dX6_takeBestFrom_44 : decode cX6_takeBestFrom 44 = .ok (.iaload, 1) := by decide +kernel
theorem dX6_takeBestFrom_45 : decode cX6_takeBestFrom 45 = .ok (.iload_n 3, 1) := by decide +kernel
theorem dX6_takeBestFrom_46 : decode cX6_takeBestFrom 46 = .ok (.invokestatic 35, 3) := by decide +kernel
theorem dX6_takeBestFrom_49 : decode cX6_takeBestFrom 49 = .ok (.dup2, 1) := by decide +kernel
theorem dX6_takeBestFrom_50 : decode cX6_takeBestFrom 50 = .ok (.iaload, 1) := by decide +kernel
theorem dX6_takeBestFrom_51 : decode cX6_takeBestFrom 51 = .ok (.aload_n 0, 1) := by decide +kernel
theorem dX6_takeBestFrom_52 : decode cX6_takeBestFrom 52 = .ok (.getfield 18, 3) := by decide +kernel
theorem dX6_takeBestFrom_55 : decode cX6_takeBestFrom 55 = .ok (.isub, 1) := by decide +kernel
theorem dX6_takeBestFrom_56 : decode cX6_takeBestFrom 56 = .ok (.iastore, 1) := by decide +kernel
theorem dX6_takeBestFrom_57 : decode cX6_takeBestFrom 57 = .ok (.iinc 2 1, 3) := by decide +kernel
theorem dX6_takeBestFrom_60 : decode cX6_takeBestFrom 60 = .ok (.goto (-58), 3) := by decide +kernel
theorem dX6_takeBestFrom_63 : decode cX6_takeBestFrom 63 = .ok (.return_, 1) := by decide +kernel
theorem dX7_init_0 : decode cX7_init 0 = .ok (.aload_n 0, 1) := by decide +kernel
theorem dX7_init_1 : decode cX7_init 1 = .ok (.invokespecial 3, 3) := by decide +kernel
theorem dX7_init_4 : decode cX7_init 4 = .ok (.aload_n 0, 1) := by decide +kernel
theorem dX7_init_5 : decode cX7_init 5 = .ok (.bipush 6, 2) := by decide +kernel
theorem dX7_init_7 : decode cX7_init 7 = .ok (.newarray .int, 2) := by decide +kernel
theorem dX7_init_9 : decode cX7_init 9 = .ok (.putfield 9, 3) := by decide +kernel
theorem dX7_init_12 : decode cX7_init 12 = .ok (.aload_n 0, 1) := by decide +kernel
theorem dX7_init_13 : decode cX7_init 13 = .ok (.bipush 6, 2) := by decide +kernel
theorem dX7_init_15 : decode cX7_init 15 = .ok (.newarray .int, 2) := by decide +kernel
theorem dX7_init_17 : decode cX7_init 17 = .ok (.putfield 15, 3) := by decide +kernel
theorem dX7_init_20 : decode cX7_init 20 = .ok (.aload_n 0, 1) := by decide +kernel
theorem dX7_init_21 : decode cX7_init 21 = .ok (.bipush 6, 2) := by decide +kernel
theorem dX7_init_23 : decode cX7_init 23 = .ok (.newarray .int, 2) := by decide +kernel
theorem dX7_init_25 : decode cX7_init 25 = .ok (.putfield 18, 3) := by decide +kernel
theorem dX7_init_28 : decode cX7_init 28 = .ok (.aload_n 0, 1) := by decide +kernel
theorem dX7_init_29 : decode cX7_init 29 = .ok (.bipush 6, 2) := by decide +kernel
theorem dX7_init_31 : decode cX7_init 31 = .ok (.newarray .int, 2) := by decide +kernel
theorem dX7_init_33 : decode cX7_init 33 = .ok (.putfield 21, 3) := by decide +kernel
theorem dX7_init_36 : decode cX7_init 36 = .ok (.aload_n 0, 1) := by decide +kernel
theorem dX7_init_37 : decode cX7_init 37 = .ok (.bipush 36, 2) := by decide +kernel
theorem dX7_init_39 : decode cX7_init 39 = .ok (.newarray .int, 2) := by decide +kernel
theorem dX7_init_41 : decode cX7_init 41 = .ok (.putfield 24, 3) := by decide +kernel
theorem dX7_init_44 : decode cX7_init 44 = .ok (.return_, 1) := by decide +kernel
theorem dX7_begin_0 : decode cX7_begin 0 = .ok (.aload_n 1, 1) := by decide +kernel
theorem dX7_begin_1 : decode cX7_begin 1 = .ok (.getfield 27, 3) := by decide +kernel
theorem dX7_begin_4 : decode cX7_begin 4 = .ok (.iconst 0, 1) := by decide +kernel
theorem dX7_begin_5 : decode cX7_begin 5 = .ok (.aload_n 0, 1) := by decide +kernel
theorem dX7_begin_6 : decode cX7_begin 6 = .ok (.getfield 9, 3) := by decide +kernel
theorem dX7_begin_9 : decode cX7_begin 9 = .ok (.iconst 0, 1) := by decide +kernel
theorem dX7_begin_10 : decode cX7_begin 10 = .ok (.bipush 6, 2) := by decide +kernel
theorem dX7_begin_12 : decode cX7_begin 12 = .ok (.invokestatic 32, 3) := by decide +kernel
theorem dX7_begin_15 : decode cX7_begin 15 = .ok (.aload_n 1, 1) := by decide +kernel
theorem dX7_begin_16 : decode cX7_begin 16 = .ok (.getfield 38, 3) := by decide +kernel
theorem dX7_begin_19 : decode cX7_begin 19 = .ok (.iconst 0, 1) := by decide +kernel
theorem dX7_begin_20 : decode cX7_begin 20 = .ok (.aload_n 0, 1) := by decide +kernel
theorem dX7_begin_21 : decode cX7_begin 21 = .ok (.getfield 21, 3) := by decide +kernel
theorem dX7_begin_24 : decode cX7_begin 24 = .ok (.iconst 0, 1) := by decide +kernel
theorem dX7_begin_25 : decode cX7_begin 25 = .ok (.bipush 6, 2) := by decide +kernel
theorem dX7_begin_27 : decode cX7_begin 27 = .ok (.invokestatic 32, 3) := by decide +kernel
theorem dX7_begin_30 : decode cX7_begin 30 = .ok (.aload_n 1, 1) := by decide +kernel
theorem dX7_begin_31 : decode cX7_begin 31 = .ok (.getfield 39, 3) := by decide +kernel
theorem dX7_begin_34 : decode cX7_begin 34 = .ok (.iconst 0, 1) := by decide +kernel
theorem dX7_begin_35 : decode cX7_begin 35 = .ok (.aload_n 0, 1) := by decide +kernel
theorem dX7_begin_36 : decode cX7_begin 36 = .ok (.getfield 24, 3) := by decide +kernel
theorem dX7_begin_39 : decode cX7_begin 39 = .ok (.iconst 0, 1) := by decide +kernel
theorem dX7_begin_40 : decode cX7_begin 40 = .ok (.aload_n 0, 1) := by decide +kernel
theorem dX7_begin_41 : decode cX7_begin 41 = .ok (.getfield 24, 3) := by decide +kernel
theorem dX7_begin_44 : decode cX7_begin 44 = .ok (.arraylength, 1) := by decide +kernel
theorem dX7_begin_45 : decode cX7_begin 45 = .ok (.invokestatic 32, 3) := by decide +kernel
theorem dX7_begin_48 : decode cX7_begin 48 = .ok (.iconst 0, 1) := by decide +kernel
theorem dX7_begin_49 : decode cX7_begin 49 = .ok (.istore_n 2, 1) := by decide +kernel
theorem dX7_begin_50 : decode cX7_begin 50 = .ok (.iload_n 2, 1) := by decide +kernel
theorem dX7_begin_51 : decode cX7_begin 51 = .ok (.bipush 6, 2) := by decide +kernel
theorem dX7_begin_53 : decode cX7_begin 53 = .ok (.if_icmp .ge 23, 3) := by decide +kernel
theorem dX7_begin_56 : decode cX7_begin 56 = .ok (.aload_n 0, 1) := by decide +kernel
theorem dX7_begin_57 : decode cX7_begin 57 = .ok (.getfield 15, 3) := by decide +kernel
theorem dX7_begin_60 : decode cX7_begin 60 = .ok (.iload_n 2, 1) := by decide +kernel
theorem dX7_begin_61 : decode cX7_begin 61 = .ok (.iconst (-1), 1) := by decide +kernel
theorem dX7_begin_62 : decode cX7_begin 62 = .ok (.iastore, 1) := by decide +kernel
theorem dX7_begin_63 : decode cX7_begin 63 = .ok (.aload_n 0, 1) := by decide +kernel
theorem dX7_begin_64 : decode cX7_begin 64 = .ok (.getfield 18, 3) := by decide +kernel
theorem dX7_begin_67 : decode cX7_begin 67 = .ok (.iload_n 2, 1) := by decide +kernel
theorem dX7_begin_68 : decode cX7_begin 68 = .ok (.iload_n 2, 1) := by decide +kernel
theorem dX7_begin_69 : decode cX7_begin 69 = .ok (.iastore, 1) := by decide +kernel
theorem dX7_begin_70 : decode cX7_begin 70 = .ok (.iinc 2 1, 3) := by decide +kernel
theorem dX7_begin_73 : decode cX7_begin 73 = .ok (.goto (-23), 3) := by decide +kernel
theorem dX7_begin_76 : decode cX7_begin 76 = .ok (.aload_n 0, 1) := by decide +kernel
theorem dX7_begin_77 : decode cX7_begin 77 = .ok (.iconst 0, 1) := by decide +kernel
theorem dX7_begin_78 : decode cX7_begin 78 = .ok (.putfield 40, 3) := by decide +kernel
theorem dX7_begin_81 : decode cX7_begin 81 = .ok (.aload_n 0, 1) := by decide +kernel
theorem dX7_begin_82 : decode cX7_begin 82 = .ok (.iconst 0, 1) := by decide +kernel
theorem dX7_begin_83 : decode cX7_begin 83 = .ok (.putfield 44, 3) := by decide +kernel
theorem dX7_begin_86 : decode cX7_begin 86 = .ok (.aload_n 0, 1) := by decide +kernel
theorem dX7_begin_87 : decode cX7_begin 87 = .ok (.iconst 0, 1) := by decide +kernel
theorem dX7_begin_88 : decode cX7_begin 88 = .ok (.putfield 47, 3) := by decide +kernel
theorem dX7_begin_91 : decode cX7_begin 91 = .ok (.return_, 1) := by decide +kernel
theorem dX7_copy_0 : decode cX7_copy 0 = .ok (.aload_n 1, 1) := by decide +kernel
theorem dX7_copy_1 : decode cX7_copy 1 = .ok (.getfield 9, 3) := by decide +kernel
theorem dX7_copy_4 : decode cX7_copy 4 = .ok (.iconst 0, 1) := by decide +kernel
theorem dX7_copy_5 : decode cX7_copy 5 = .ok (.aload_n 0, 1) := by decide +kernel
theorem dX7_copy_6 : decode cX7_copy 6 = .ok (.getfield 9, 3) := by decide +kernel
theorem dX7_copy_9 : decode cX7_copy 9 = .ok (.iconst 0, 1) := by decide +kernel
theorem dX7_copy_10 : decode cX7_copy 10 = .ok (.bipush 6, 2) := by decide +kernel
theorem dX7_copy_12 : decode cX7_copy 12 = .ok (.invokestatic 32, 3) := by decide +kernel
theorem dX7_copy_15 : decode cX7_copy 15 = .ok (.aload_n 1, 1) := by decide +kernel
theorem dX7_copy_16 : decode cX7_copy 16 = .ok (.getfield 15, 3) := by decide +kernel
theorem dX7_copy_19 : decode cX7_copy 19 = .ok (.iconst 0, 1) := by decide +kernel
theorem dX7_copy_20 : decode cX7_copy 20 = .ok (.aload_n 0, 1) := by decide +kernel
theorem dX7_copy_21 : decode cX7_copy 21 = .ok (.getfield 15, 3) := by decide +kernel
theorem dX7_copy_24 : decode cX7_copy 24 = .ok (.iconst 0, 1) := by decide +kernel
theorem dX7_copy_25 : decode cX7_copy 25 = .ok (.bipush 6, 2) := by decide +kernel
theorem dX7_copy_27 : decode cX7_copy 27 = .ok (.invokestatic 32, 3) := by decide +kernel
theorem dX7_copy_30 : decode cX7_copy 30 = .ok (.aload_n 1, 1) := by decide +kernel
theorem dX7_copy_31 : decode cX7_copy 31 = .ok (.getfield 18, 3) := by decide +kernel
theorem dX7_copy_34 : decode cX7_copy 34 = .ok (.iconst 0, 1) := by decide +kernel
theorem dX7_copy_35 : decode cX7_copy 35 = .ok (.aload_n 0, 1) := by decide +kernel
theorem dX7_copy_36 : decode cX7_copy 36 = .ok (.getfield 18, 3) := by decide +kernel
theorem dX7_copy_39 : decode cX7_copy 39 = .ok (.iconst 0, 1) := by decide +kernel
theorem dX7_copy_40 : decode cX7_copy 40 = .ok (.bipush 6, 2) := by decide +kernel
theorem dX7_copy_42 : decode cX7_copy 42 = .ok (.invokestatic 32, 3) := by decide +kernel
theorem dX7_copy_45 : decode cX7_copy 45 = .ok (.aload_n 1, 1) := by decide +kernel
theorem dX7_copy_46 : decode cX7_copy 46 = .ok (.getfield 21, 3) := by decide +kernel
theorem dX7_copy_49 : decode cX7_copy 49 = .ok (.iconst 0, 1) := by decide +kernel
theorem dX7_copy_50 : decode cX7_copy 50 = .ok (.aload_n 0, 1) := by decide +kernel
theorem dX7_copy_51 : decode cX7_copy 51 = .ok (.getfield 21, 3) := by decide +kernel
theorem dX7_copy_54 : decode cX7_copy 54 = .ok (.iconst 0, 1) := by decide +kernel
theorem dX7_copy_55 : decode cX7_copy 55 = .ok (.bipush 6, 2) := by decide +kernel
theorem dX7_copy_57 : decode cX7_copy 57 = .ok (.invokestatic 32, 3) := by decide +kernel
theorem dX7_copy_60 : decode cX7_copy 60 = .ok (.aload_n 1, 1) := by decide +kernel
theorem dX7_copy_61 : decode cX7_copy 61 = .ok (.getfield 24, 3) := by decide +kernel
theorem dX7_copy_64 : decode cX7_copy 64 = .ok (.iconst 0, 1) := by decide +kernel
theorem dX7_copy_65 : decode cX7_copy 65 = .ok (.aload_n 0, 1) := by decide +kernel
theorem dX7_copy_66 : decode cX7_copy 66 = .ok (.getfield 24, 3) := by decide +kernel
theorem dX7_copy_69 : decode cX7_copy 69 = .ok (.iconst 0, 1) := by decide +kernel
theorem dX7_copy_70 : decode cX7_copy 70 = .ok (.aload_n 0, 1) := by decide +kernel
theorem dX7_copy_71 : decode cX7_copy 71 = .ok (.getfield 24, 3) := by decide +kernel
theorem dX7_copy_74 : decode cX7_copy 74 = .ok (.arraylength, 1) := by decide +kernel
theorem dX7_copy_75 : decode cX7_copy 75 = .ok (.invokestatic 32, 3) := by decide +kernel
theorem dX7_copy_78 : decode cX7_copy 78 = .ok (.aload_n 0, 1) := by decide +kernel
theorem dX7_copy_79 : decode cX7_copy 79 = .ok (.aload_n 1, 1) := by decide +kernel
theorem dX7_copy_80 : decode cX7_copy 80 = .ok (.getfield 40, 3) := by decide +kernel
theorem dX7_copy_83 : decode cX7_copy 83 = .ok (.putfield 40, 3) := by decide +kernel
theorem dX7_copy_86 : decode cX7_copy 86 = .ok (.aload_n 0, 1) := by decide +kernel
theorem dX7_copy_87 : decode cX7_copy 87 = .ok (.aload_n 1, 1) := by decide +kernel
theorem dX7_copy_88 : decode cX7_copy 88 = .ok (.getfield 44, 3) := by decide +kernel
theorem dX7_copy_91 : decode cX7_copy 91 = .ok (.putfield 44, 3) := by decide +kernel
theorem dX7_copy_94 : decode cX7_copy 94 = .ok (.aload_n 0, 1) := by decide +kernel
theorem dX7_copy_95 : decode cX7_copy 95 = .ok (.aload_n 1, 1) := by decide +kernel
theorem dX7_copy_96 : decode cX7_copy 96 = .ok (.getfield 47, 3) := by decide +kernel
theorem dX7_copy_99 : decode cX7_copy 99 = .ok (.putfield 47, 3) := by decide +kernel
theorem dX7_copy_102 : decode cX7_copy 102 = .ok (.return_, 1) := by decide +kernel
theorem dX7_store_0 : decode cX7_store 0 = .ok (.aload_n 0, 1) := by decide +kernel
theorem dX7_store_1 : decode cX7_store 1 = .ok (.getfield 9, 3) := by decide +kernel
theorem dX7_store_4 : decode cX7_store 4 = .ok (.iconst 0, 1) := by decide +kernel
theorem dX7_store_5 : decode cX7_store 5 = .ok (.aload_n 1, 1) := by decide +kernel
theorem dX7_store_6 : decode cX7_store 6 = .ok (.iload_n 2, 1) := by decide +kernel
theorem dX7_store_7 : decode cX7_store 7 = .ok (.bipush 6, 2) := by decide +kernel
theorem dX7_store_9 : decode cX7_store 9 = .ok (.invokestatic 32, 3) := by decide +kernel
theorem dX7_store_12 : decode cX7_store 12 = .ok (.aload_n 0, 1) := by decide +kernel
theorem dX7_store_13 : decode cX7_store 13 = .ok (.getfield 15, 3) := by decide +kernel
theorem dX7_store_16 : decode cX7_store 16 = .ok (.iconst 0, 1) := by decide +kernel
theorem dX7_store_17 : decode cX7_store 17 = .ok (.aload_n 1, 1) := by decide +kernel
theorem dX7_store_18 : decode cX7_store 18 = .ok (.iload_n 2, 1) := by decide +kernel
theorem dX7_store_19 : decode cX7_store 19 = .ok (.bipush 6, 2) := by decide +kernel
theorem dX7_store_21 : decode cX7_store 21 = .ok (.iadd, 1) := by decide +kernel
theorem dX7_store_22 : decode cX7_store 22 = .ok (.bipush 6, 2) := by decide +kernel
theorem dX7_store_24 : decode cX7_store 24 = .ok (.invokestatic 32, 3) := by decide +kernel
theorem dX7_store_27 : decode cX7_store 27 = .ok (.aload_n 0, 1) := by decide +kernel
theorem dX7_store_28 : decode cX7_store 28 = .ok (.getfield 18, 3) := by decide +kernel
theorem dX7_store_31 : decode cX7_store 31 = .ok (.iconst 0, 1) := by decide +kernel
theorem dX7_store_32 : decode cX7_store 32 = .ok (.aload_n 1, 1) := by decide +kernel
theorem dX7_store_33 : decode cX7_store 33 = .ok (.iload_n 2, 1) := by decide +kernel
theorem dX7_store_34 : decode cX7_store 34 = .ok (.bipush 12, 2) := by decide +kernel
theorem dX7_store_36 : decode cX7_store 36 = .ok (.iadd, 1) := by decide +kernel
theorem dX7_store_37 : decode cX7_store 37 = .ok (.bipush 6, 2) := by decide +kernel
theorem dX7_store_39 : decode cX7_store 39 = .ok (.invokestatic 32, 3) := by decide +kernel
theorem dX7_store_42 : decode cX7_store 42 = .ok (.aload_n 0, 1) := by decide +kernel
theorem dX7_store_43 : decode cX7_store 43 = .ok (.getfield 21, 3) := by decide +kernel
theorem dX7_store_46 : decode cX7_store 46 = .ok (.iconst 0, 1) := by decide +kernel
theorem dX7_store_47 : decode cX7_store 47 = .ok (.aload_n 1, 1) := by decide +kernel
theorem dX7_store_48 : decode cX7_store 48 = .ok (.iload_n 2, 1) := by decide +kernel
theorem dX7_store_49 : decode cX7_store 49 = .ok (.bipush 18, 2) := by decide +kernel
theorem dX7_store_51 : decode cX7_store 51 = .ok (.iadd, 1) := by decide +kernel
theorem dX7_store_52 : decode cX7_store 52 = .ok (.bipush 6, 2) := by decide +kernel
theorem dX7_store_54 : decode cX7_store 54 = .ok (.invokestatic 32, 3) := by decide +kernel
theorem dX7_store_57 : decode cX7_store 57 = .ok (.aload_n 0, 1) := by decide +kernel
theorem dX7_store_58 : decode cX7_store 58 = .ok (.getfield 24, 3) := by decide +kernel
theorem dX7_store_61 : decode cX7_store 61 = .ok (.iconst 0, 1) := by decide +kernel
theorem dX7_store_62 : decode cX7_store 62 = .ok (.aload_n 1, 1) := by decide +kernel
theorem dX7_store_63 : decode cX7_store 63 = .ok (.iload_n 2, 1) := by decide +kernel
theorem dX7_store_64 : decode cX7_store 64 = .ok (.bipush 24, 2) := by decide +kernel
theorem dX7_store_66 : decode cX7_store 66 = .ok (.iadd, 1) := by decide +kernel
theorem dX7_store_67 : decode cX7_store 67 = .ok (.aload_n 0, 1) := by decide +kernel
theorem dX7_store_68 : decode cX7_store 68 = .ok (.getfield 24, 3) := by decide +kernel
theorem dX7_store_71 : decode cX7_store 71 = .ok (.arraylength, 1) := by decide +kernel
theorem dX7_store_72 : decode cX7_store 72 = .ok (.invokestatic 32, 3) := by decide +kernel
theorem dX7_store_75 : decode cX7_store 75 = .ok (.aload_n 1, 1) := by decide +kernel
theorem dX7_store_76 : decode cX7_store 76 = .ok (.iload_n 2, 1) := by decide +kernel
theorem dX7_store_77 : decode cX7_store 77 = .ok (.bipush 63, 2) := by decide +kernel
theorem dX7_store_79 : decode cX7_store 79 = .ok (.iadd, 1) := by decide +kernel
theorem dX7_store_80 : decode cX7_store 80 = .ok (.iconst 3, 1) := by decide +kernel
theorem dX7_store_81 : decode cX7_store 81 = .ok (.isub, 1) := by decide +kernel
theorem dX7_store_82 : decode cX7_store 82 = .ok (.aload_n 0, 1) := by decide +kernel
theorem dX7_store_83 : decode cX7_store 83 = .ok (.getfield 40, 3) := by decide +kernel
theorem dX7_store_86 : decode cX7_store 86 = .ok (.iastore, 1) := by decide +kernel
theorem dX7_store_87 : decode cX7_store 87 = .ok (.aload_n 1, 1) := by decide +kernel
theorem dX7_store_88 : decode cX7_store 88 = .ok (.iload_n 2, 1) := by decide +kernel
theorem dX7_store_89 : decode cX7_store 89 = .ok (.bipush 63, 2) := by decide +kernel
theorem dX7_store_91 : decode cX7_store 91 = .ok (.iadd, 1) := by decide +kernel
theorem dX7_store_92 : decode cX7_store 92 = .ok (.iconst 2, 1) := by decide +kernel
theorem dX7_store_93 : decode cX7_store 93 = .ok (.isub, 1) := by decide +kernel
theorem dX7_store_94 : decode cX7_store 94 = .ok (.aload_n 0, 1) := by decide +kernel
theorem dX7_store_95 : decode cX7_store 95 = .ok (.getfield 44, 3) := by decide +kernel
theorem dX7_store_98 : decode cX7_store 98 = .ok (.iastore, 1) := by decide +kernel
theorem dX7_store_99 : decode cX7_store 99 = .ok (.aload_n 1, 1) := by decide +kernel
theorem dX7_store_100 : decode cX7_store 100 = .ok (.iload_n 2, 1) := by decide +kernel
theorem dX7_store_101 : decode cX7_store 101 = .ok (.bipush 63, 2) := by decide +kernel
theorem dX7_store_103 : decode cX7_store 103 = .ok (.iadd, 1) := by decide +kernel
theorem dX7_store_104 : decode cX7_store 104 = .ok (.iconst 1, 1) := by decide +kernel
theorem dX7_store_105 : decode cX7_store 105 = .ok (.isub, 1) := by decide +kernel
theorem dX7_store_106 : decode cX7_store 106 = .ok (.aload_n 0, 1) := by decide +kernel
theorem dX7_store_107 : decode cX7_store 107 = .ok (.getfield 47, 3) := by decide +kernel
theorem dX7_store_110 : decode cX7_store 110 = .ok (.iastore, 1) := by decide +kernel
theorem dX7_store_111 : decode cX7_store 111 = .ok (.return_, 1) := by decide +kernel
theorem dX7_load_0 : decode cX7_load 0 = .ok (.aload_n 1, 1) := by decide +kernel
theorem dX7_load_1 : decode cX7_load 1 = .ok (.iload_n 2, 1) := by decide +kernel
theorem dX7_load_2 : decode cX7_load 2 = .ok (.aload_n 0, 1) := by decide +kernel
theorem dX7_load_3 : decode cX7_load 3 = .ok (.getfield 9, 3) := by decide +kernel
theorem dX7_load_6 : decode cX7_load 6 = .ok (.iconst 0, 1) := by decide +kernel
theorem dX7_load_7 : decode cX7_load 7 = .ok (.bipush 6, 2) := by decide +kernel
theorem dX7_load_9 : decode cX7_load 9 = .ok (.invokestatic 32, 3) := by decide +kernel
theorem dX7_load_12 : decode cX7_load 12 = .ok (.aload_n 1, 1) := by decide +kernel
theorem dX7_load_13 : decode cX7_load 13 = .ok (.iload_n 2, 1) := by decide +kernel
theorem dX7_load_14 : decode cX7_load 14 = .ok (.bipush 6, 2) := by decide +kernel
theorem dX7_load_16 : decode cX7_load 16 = .ok (.iadd, 1) := by decide +kernel
theorem dX7_load_17 : decode cX7_load 17 = .ok (.aload_n 0, 1) := by decide +kernel
theorem dX7_load_18 : decode cX7_load 18 = .ok (.getfield 15, 3) := by decide +kernel
theorem dX7_load_21 : decode cX7_load 21 = .ok (.iconst 0, 1) := by decide +kernel
theorem dX7_load_22 : decode cX7_load 22 = .ok (.bipush 6, 2) := by decide +kernel
theorem dX7_load_24 : decode cX7_load 24 = .ok (.invokestatic 32, 3) := by decide +kernel
theorem dX7_load_27 : decode cX7_load 27 = .ok (.aload_n 1, 1) := by decide +kernel
theorem dX7_load_28 : decode cX7_load 28 = .ok (.iload_n 2, 1) := by decide +kernel
theorem dX7_load_29 : decode cX7_load 29 = .ok (.bipush 12, 2) := by decide +kernel
theorem dX7_load_31 : decode cX7_load 31 = .ok (.iadd, 1) := by decide +kernel
theorem dX7_load_32 : decode cX7_load 32 = .ok (.aload_n 0, 1) := by decide +kernel
theorem dX7_load_33 : decode cX7_load 33 = .ok (.getfield 18, 3) := by decide +kernel
theorem dX7_load_36 : decode cX7_load 36 = .ok (.iconst 0, 1) := by decide +kernel
theorem dX7_load_37 : decode cX7_load 37 = .ok (.bipush 6, 2) := by decide +kernel
theorem dX7_load_39 : decode cX7_load 39 = .ok (.invokestatic 32, 3) := by decide +kernel
theorem dX7_load_42 : decode cX7_load 42 = .ok (.aload_n 1, 1) := by decide +kernel
theorem dX7_load_43 : decode cX7_load 43 = .ok (.iload_n 2, 1) := by decide +kernel
theorem dX7_load_44 : decode cX7_load 44 = .ok (.bipush 18, 2) := by decide +kernel
theorem dX7_load_46 : decode cX7_load 46 = .ok (.iadd, 1) := by decide +kernel
theorem dX7_load_47 : decode cX7_load 47 = .ok (.aload_n 0, 1) := by decide +kernel
theorem dX7_load_48 : decode cX7_load 48 = .ok (.getfield 21, 3) := by decide +kernel
theorem dX7_load_51 : decode cX7_load 51 = .ok (.iconst 0, 1) := by decide +kernel
theorem dX7_load_52 : decode cX7_load 52 = .ok (.bipush 6, 2) := by decide +kernel
theorem dX7_load_54 : decode cX7_load 54 = .ok (.invokestatic 32, 3) := by decide +kernel
theorem dX7_load_57 : decode cX7_load 57 = .ok (.aload_n 1, 1) := by decide +kernel
theorem dX7_load_58 : decode cX7_load 58 = .ok (.iload_n 2, 1) := by decide +kernel
theorem dX7_load_59 : decode cX7_load 59 = .ok (.bipush 24, 2) := by decide +kernel
theorem dX7_load_61 : decode cX7_load 61 = .ok (.iadd, 1) := by decide +kernel
theorem dX7_load_62 : decode cX7_load 62 = .ok (.aload_n 0, 1) := by decide +kernel
theorem dX7_load_63 : decode cX7_load 63 = .ok (.getfield 24, 3) := by decide +kernel
theorem dX7_load_66 : decode cX7_load 66 = .ok (.iconst 0, 1) := by decide +kernel
theorem dX7_load_67 : decode cX7_load 67 = .ok (.aload_n 0, 1) := by decide +kernel
theorem dX7_load_68 : decode cX7_load 68 = .ok (.getfield 24, 3) := by decide +kernel
theorem dX7_load_71 : decode cX7_load 71 = .ok (.arraylength, 1) := by decide +kernel
theorem dX7_load_72 : decode cX7_load 72 = .ok (.invokestatic 32, 3) := by decide +kernel
theorem dX7_load_75 : decode cX7_load 75 = .ok (.aload_n 0, 1) := by decide +kernel
theorem dX7_load_76 : decode cX7_load 76 = .ok (.aload_n 1, 1) := by decide +kernel
theorem dX7_load_77 : decode cX7_load 77 = .ok (.iload_n 2, 1) := by decide +kernel
theorem dX7_load_78 : decode cX7_load 78 = .ok (.bipush 63, 2) := by decide +kernel
theorem dX7_load_80 : decode cX7_load 80 = .ok (.iadd, 1) := by decide +kernel
theorem dX7_load_81 : decode cX7_load 81 = .ok (.iconst 3, 1) := by decide +kernel
theorem dX7_load_82 : decode cX7_load 82 = .ok (.isub, 1) := by decide +kernel
theorem dX7_load_83 : decode cX7_load 83 = .ok (.iaload, 1) := by decide +kernel
theorem dX7_load_84 : decode cX7_load 84 = .ok (.putfield 40, 3) := by decide +kernel
theorem dX7_load_87 : decode cX7_load 87 = .ok (.aload_n 0, 1) := by decide +kernel
theorem dX7_load_88 : decode cX7_load 88 = .ok (.aload_n 1, 1) := by decide +kernel
theorem dX7_load_89 : decode cX7_load 89 = .ok (.iload_n 2, 1) := by decide +kernel
theorem dX7_load_90 : decode cX7_load 90 = .ok (.bipush 63, 2) := by decide +kernel
theorem dX7_load_92 : decode cX7_load 92 = .ok (.iadd, 1) := by decide +kernel
theorem dX7_load_93 : decode cX7_load 93 = .ok (.iconst 2, 1) := by decide +kernel
theorem dX7_load_94 : decode cX7_load 94 = .ok (.isub, 1) := by decide +kernel
theorem dX7_load_95 : decode cX7_load 95 = .ok (.iaload, 1) := by decide +kernel
theorem dX7_load_96 : decode cX7_load 96 = .ok (.putfield 44, 3) := by decide +kernel
theorem dX7_load_99 : decode cX7_load 99 = .ok (.aload_n 0, 1) := by decide +kernel
theorem dX7_load_100 : decode cX7_load 100 = .ok (.aload_n 1, 1) := by decide +kernel
theorem dX7_load_101 : decode cX7_load 101 = .ok (.iload_n 2, 1) := by decide +kernel
theorem dX7_load_102 : decode cX7_load 102 = .ok (.bipush 63, 2) := by decide +kernel
theorem dX7_load_104 : decode cX7_load 104 = .ok (.iadd, 1) := by decide +kernel
theorem dX7_load_105 : decode cX7_load 105 = .ok (.iconst 1, 1) := by decide +kernel
theorem dX7_load_106 : decode cX7_load 106 = .ok (.isub, 1) := by decide +kernel
theorem dX7_load_107 : decode cX7_load 107 = .ok (.iaload, 1) := by decide +kernel
theorem dX7_load_108 : decode cX7_load 108 = .ok (.putfield 47, 3) := by decide +kernel
theorem dX7_load_111 : decode cX7_load 111 = .ok (.return_, 1) := by decide +kernel
theorem dX7_owedBy_0 : decode cX7_owedBy 0 = .ok (.iconst 0, 1) := by decide +kernel
theorem dX7_owedBy_1 : decode cX7_owedBy 1 = .ok (.istore_n 2, 1) := by decide +kernel
theorem dX7_owedBy_2 : decode cX7_owedBy 2 = .ok (.iconst 0, 1) := by decide +kernel
theorem dX7_owedBy_3 : decode cX7_owedBy 3 = .ok (.istore_n 3, 1) := by decide +kernel
theorem dX7_owedBy_4 : decode cX7_owedBy 4 = .ok (.iload_n 3, 1) := by decide +kernel
theorem dX7_owedBy_5 : decode cX7_owedBy 5 = .ok (.bipush 6, 2) := by decide +kernel
theorem dX7_owedBy_7 : decode cX7_owedBy 7 = .ok (.if_icmp .ge 22, 3) := by decide +kernel
theorem dX7_owedBy_10 : decode cX7_owedBy 10 = .ok (.iload_n 2, 1) := by decide +kernel
theorem dX7_owedBy_11 : decode cX7_owedBy 11 = .ok (.aload_n 0, 1) := by decide +kernel
theorem dX7_owedBy_12 : decode cX7_owedBy 12 = .ok (.getfield 24, 3) := by decide +kernel
theorem dX7_owedBy_15 : decode cX7_owedBy 15 = .ok (.iload_n 1, 1) := by decide +kernel
theorem dX7_owedBy_16 : decode cX7_owedBy 16 = .ok (.iload_n 3, 1) := by decide +kernel
theorem dX7_owedBy_17 : decode cX7_owedBy 17 = .ok (.invokestatic 50, 3) := by decide +kernel
theorem dX7_owedBy_20 : decode cX7_owedBy 20 = .ok (.iaload, 1) := by decide +kernel
theorem dX7_owedBy_21 : decode cX7_owedBy 21 = .ok (.iadd, 1) := by decide +kernel
theorem dX7_owedBy_22 : decode cX7_owedBy 22 = .ok (.istore_n 2, 1) := by decide +kernel
theorem dX7_owedBy_23 : decode cX7_owedBy 23 = .ok (.iinc 3 1, 3) := by decide +kernel
theorem dX7_owedBy_26 : decode cX7_owedBy 26 = .ok (.goto (-22), 3) := by decide +kernel
theorem dX7_owedBy_29 : decode cX7_owedBy 29 = .ok (.iload_n 2, 1) := by decide +kernel
theorem dX7_owedBy_30 : decode cX7_owedBy 30 = .ok (.ireturn, 1) := by decide +kernel
theorem dX7_owedTo_0 : decode cX7_owedTo 0 = .ok (.iconst 0, 1) := by decide +kernel
theorem dX7_owedTo_1 : decode cX7_owedTo 1 = .ok (.istore_n 2, 1) := by decide +kernel
theorem dX7_owedTo_2 : decode cX7_owedTo 2 = .ok (.iconst 0, 1) := by decide +kernel
theorem dX7_owedTo_3 : decode cX7_owedTo 3 = .ok (.istore_n 3, 1) := by decide +kernel
theorem dX7_owedTo_4 : decode cX7_owedTo 4 = .ok (.iload_n 3, 1) := by decide +kernel
theorem dX7_owedTo_5 : decode cX7_owedTo 5 = .ok (.bipush 6, 2) := by decide +kernel
theorem dX7_owedTo_7 : decode cX7_owedTo 7 = .ok (.if_icmp .ge 22, 3) := by decide +kernel
theorem dX7_owedTo_10 : decode cX7_owedTo 10 = .ok (.iload_n 2, 1) := by decide +kernel
theorem dX7_owedTo_11 : decode cX7_owedTo 11 = .ok (.aload_n 0, 1) := by decide +kernel
theorem dX7_owedTo_12 : decode cX7_owedTo 12 = .ok (.getfield 24, 3) := by decide +kernel
theorem dX7_owedTo_15 : decode cX7_owedTo 15 = .ok (.iload_n 3, 1) := by decide +kernel
theorem dX7_owedTo_16 : decode cX7_owedTo 16 = .ok (.iload_n 1, 1) := by decide +kernel
theorem dX7_owedTo_17 : decode cX7_owedTo 17 = .ok (.invokestatic 50, 3) := by decide +kernel
theorem dX7_owedTo_20 : decode cX7_owedTo 20 = .ok (.iaload, 1) := by decide +kernel
theorem dX7_owedTo_21 : decode cX7_owedTo 21 = .ok (.iadd, 1) := by decide +kernel
theorem dX7_owedTo_22 : decode cX7_owedTo 22 = .ok (.istore_n 2, 1) := by decide +kernel
theorem dX7_owedTo_23 : decode cX7_owedTo 23 = .ok (.iinc 3 1, 3) := by decide +kernel
theorem dX7_owedTo_26 : decode cX7_owedTo 26 = .ok (.goto (-22), 3) := by decide +kernel
theorem dX7_owedTo_29 : decode cX7_owedTo 29 = .ok (.iload_n 2, 1) := by decide +kernel
theorem dX7_owedTo_30 : decode cX7_owedTo 30 = .ok (.ireturn, 1) := by decide +kernel
theorem dX7_debtsLeft_0 : decode cX7_debtsLeft 0 = .ok (.iconst 0, 1) := by decide +kernel
theorem dX7_debtsLeft_1 : decode cX7_debtsLeft 1 = .ok (.istore_n 1, 1) := by decide +kernel
theorem dX7_debtsLeft_2 : decode cX7_debtsLeft 2 = .ok (.iconst 0, 1) := by decide +kernel
theorem dX7_debtsLeft_3 : decode cX7_debtsLeft 3 = .ok (.istore_n 2, 1) := by decide +kernel
theorem dX7_debtsLeft_4 : decode cX7_debtsLeft 4 = .ok (.iload_n 2, 1) := by decide +kernel
theorem dX7_debtsLeft_5 : decode cX7_debtsLeft 5 = .ok (.aload_n 0, 1) := by decide +kernel
theorem dX7_debtsLeft_6 : decode cX7_debtsLeft 6 = .ok (.getfield 24, 3) := by decide +kernel
theorem dX7_debtsLeft_9 : decode cX7_debtsLeft 9 = .ok (.arraylength, 1) := by decide +kernel
theorem dX7_debtsLeft_10 : decode cX7_debtsLeft 10 = .ok (.if_icmp .ge 21, 3) := by decide +kernel
theorem dX7_debtsLeft_13 : decode cX7_debtsLeft 13 = .ok (.aload_n 0, 1) := by decide +kernel
theorem dX7_debtsLeft_14 : decode cX7_debtsLeft 14 = .ok (.getfield 24, 3) := by decide +kernel
theorem dX7_debtsLeft_17 : decode cX7_debtsLeft 17 = .ok (.iload_n 2, 1) := by decide +kernel
theorem dX7_debtsLeft_18 : decode cX7_debtsLeft 18 = .ok (.iaload, 1) := by decide +kernel
theorem dX7_debtsLeft_19 : decode cX7_debtsLeft 19 = .ok (.ifCond .le 6, 3) := by decide +kernel
theorem dX7_debtsLeft_22 : decode cX7_debtsLeft 22 = .ok (.iinc 1 1, 3) := by decide +kernel
theorem dX7_debtsLeft_25 : decode cX7_debtsLeft 25 = .ok (.iinc 2 1, 3) := by decide +kernel
theorem dX7_debtsLeft_28 : decode cX7_debtsLeft 28 = .ok (.goto (-24), 3) := by decide +kernel
theorem dX7_debtsLeft_31 : decode cX7_debtsLeft 31 = .ok (.iload_n 1, 1) := by decide +kernel
theorem dX7_debtsLeft_32 : decode cX7_debtsLeft 32 = .ok (.ireturn, 1) := by decide +kernel
theorem dX8_init_0 : decode cX8_init 0 = .ok (.aload_n 0, 1) := by decide +kernel
theorem dX8_init_1 : decode cX8_init 1 = .ok (.invokespecial 3, 3) := by decide +kernel
theorem dX8_init_4 : decode cX8_init 4 = .ok (.aload_n 0, 1) := by decide +kernel
theorem dX8_init_5 : decode cX8_init 5 = .ok (.bipush 30, 2) := by decide +kernel
theorem dX8_init_7 : decode cX8_init 7 = .ok (.newarray .int, 2) := by decide +kernel
theorem dX8_init_9 : decode cX8_init 9 = .ok (.putfield 11, 3) := by decide +kernel
theorem dX8_init_12 : decode cX8_init 12 = .ok (.aload_n 0, 1) := by decide +kernel
theorem dX8_init_13 : decode cX8_init 13 = .ok (.bipush 30, 2) := by decide +kernel
theorem dX8_init_15 : decode cX8_init 15 = .ok (.newarray .int, 2) := by decide +kernel
theorem dX8_init_17 : decode cX8_init 17 = .ok (.putfield 15, 3) := by decide +kernel
theorem dX8_init_20 : decode cX8_init 20 = .ok (.aload_n 0, 1) := by decide +kernel
theorem dX8_init_21 : decode cX8_init 21 = .ok (.bipush 30, 2) := by decide +kernel
theorem dX8_init_23 : decode cX8_init 23 = .ok (.newarray .int, 2) := by decide +kernel
theorem dX8_init_25 : decode cX8_init 25 = .ok (.putfield 18, 3) := by decide +kernel
theorem dX8_init_28 : decode cX8_init 28 = .ok (.aload_n 0, 1) := by decide +kernel
theorem dX8_init_29 : decode cX8_init 29 = .ok (.bipush 30, 2) := by decide +kernel
theorem dX8_init_31 : decode cX8_init 31 = .ok (.newarray .int, 2) := by decide +kernel
theorem dX8_init_33 : decode cX8_init 33 = .ok (.putfield 21, 3) := by decide +kernel
theorem dX8_init_36 : decode cX8_init 36 = .ok (.aload_n 0, 1) := by decide +kernel
theorem dX8_init_37 : decode cX8_init 37 = .ok (.bipush 30, 2) := by decide +kernel
theorem dX8_init_39 : decode cX8_init 39 = .ok (.newarray .int, 2) := by decide +kernel
theorem dX8_init_41 : decode cX8_init 41 = .ok (.putfield 24, 3) := by decide +kernel
theorem dX8_init_44 : decode cX8_init 44 = .ok (.aload_n 0, 1) := by decide +kernel
theorem dX8_init_45 : decode cX8_init 45 = .ok (.sipush 144, 3) := by decide +kernel
theorem dX8_init_48 : decode cX8_init 48 = .ok (.newarray .int, 2) := by decide +kernel
theorem dX8_init_50 : decode cX8_init 50 = .ok (.putfield 27, 3) := by decide +kernel
theorem dX8_init_53 : decode cX8_init 53 = .ok (.return_, 1) := by decide +kernel
theorem dX8_forget_0 : decode cX8_forget 0 = .ok (.aload_n 0, 1) := by decide +kernel
theorem dX8_forget_1 : decode cX8_forget 1 = .ok (.iconst 0, 1) := by decide +kernel
theorem dX8_forget_2 : decode cX8_forget 2 = .ok (.putfield 30, 3) := by decide +kernel
theorem dX8_forget_5 : decode cX8_forget 5 = .ok (.return_, 1) := by decide +kernel
theorem dX8_tell_0 : decode cX8_tell 0 = .ok (.aload_n 0, 1) := by decide +kernel
theorem dX8_tell_1 : decode cX8_tell 1 = .ok (.getfield 30, 3) := by decide +kernel
theorem dX8_tell_4 : decode cX8_tell 4 = .ok (.bipush 30, 2) := by decide +kernel
theorem dX8_tell_6 : decode cX8_tell 6 = .ok (.if_icmp .lt 5, 3) := by decide +kernel
theorem dX8_tell_9 : decode cX8_tell 9 = .ok (.iconst (-1), 1) := by decide +kernel
theorem dX8_tell_10 : decode cX8_tell 10 = .ok (.ireturn, 1) := by decide +kernel
theorem dX8_tell_11 : decode cX8_tell 11 = .ok (.aload_n 0, 1) := by decide +kernel
theorem dX8_tell_12 : decode cX8_tell 12 = .ok (.getfield 11, 3) := by decide +kernel
theorem dX8_tell_15 : decode cX8_tell 15 = .ok (.aload_n 0, 1) := by decide +kernel
theorem dX8_tell_16 : decode cX8_tell 16 = .ok (.getfield 30, 3) := by decide +kernel
theorem dX8_tell_19 : decode cX8_tell 19 = .ok (.iload_n 1, 1) := by decide +kernel
theorem dX8_tell_20 : decode cX8_tell 20 = .ok (.iastore, 1) := by decide +kernel
theorem dX8_tell_21 : decode cX8_tell 21 = .ok (.aload_n 0, 1) := by decide +kernel
theorem dX8_tell_22 : decode cX8_tell 22 = .ok (.getfield 15, 3) := by decide +kernel
theorem dX8_tell_25 : decode cX8_tell 25 = .ok (.aload_n 0, 1) := by decide +kernel
theorem dX8_tell_26 : decode cX8_tell 26 = .ok (.getfield 30, 3) := by decide +kernel
theorem dX8_tell_29 : decode cX8_tell 29 = .ok (.iload_n 2, 1) := by decide +kernel
theorem dX8_tell_30 : decode cX8_tell 30 = .ok (.iastore, 1) := by decide +kernel
theorem dX8_tell_31 : decode cX8_tell 31 = .ok (.aload_n 0, 1) := by decide +kernel
theorem dX8_tell_32 : decode cX8_tell 32 = .ok (.getfield 18, 3) := by decide +kernel
theorem dX8_tell_35 : decode cX8_tell 35 = .ok (.aload_n 0, 1) := by decide +kernel
theorem dX8_tell_36 : decode cX8_tell 36 = .ok (.getfield 30, 3) := by decide +kernel
theorem dX8_tell_39 : decode cX8_tell 39 = .ok (.iload_n 3, 1) := by decide +kernel
theorem dX8_tell_40 : decode cX8_tell 40 = .ok (.iastore, 1) := by decide +kernel
theorem dX8_tell_41 : decode cX8_tell 41 = .ok (.aload_n 0, 1) := by decide +kernel
theorem dX8_tell_42 : decode cX8_tell 42 = .ok (.getfield 21, 3) := by decide +kernel
theorem dX8_tell_45 : decode cX8_tell 45 = .ok (.aload_n 0, 1) := by decide +kernel
theorem dX8_tell_46 : decode cX8_tell 46 = .ok (.getfield 30, 3) := by decide +kernel
theorem dX8_tell_49 : decode cX8_tell 49 = .ok (.aload_n 0, 1) := by decide +kernel
theorem dX8_tell_50 : decode cX8_tell 50 = .ok (.getfield 34, 3) := by decide +kernel
theorem dX8_tell_53 : decode cX8_tell 53 = .ok (.iastore, 1) := by decide +kernel
theorem dX8_tell_54 : decode cX8_tell 54 = .ok (.aload_n 0, 1) := by decide +kernel
theorem dX8_tell_55 : decode cX8_tell 55 = .ok (.getfield 24, 3) := by decide +kernel
theorem dX8_tell_58 : decode cX8_tell 58 = .ok (.aload_n 0, 1) := by decide +kernel
theorem dX8_tell_59 : decode cX8_tell 59 = .ok (.getfield 30, 3) := by decide +kernel
theorem dX8_tell_62 : decode cX8_tell 62 = .ok (.iconst (-1), 1) := by decide +kernel
theorem dX8_tell_63 : decode cX8_tell 63 = .ok (.iastore, 1) := by decide +kernel
theorem dX8_tell_64 : decode cX8_tell 64 = .ok (.aload_n 0, 1) := by decide +kernel
theorem dX8_tell_65 : decode cX8_tell 65 = .ok (.dup, 1) := by decide +kernel
theorem dX8_tell_66 : decode cX8_tell 66 = .ok (.getfield 30, 3) := by decide +kernel
theorem dX8_tell_69 : decode cX8_tell 69 = .ok (.iconst 1, 1) := by decide +kernel
theorem dX8_tell_70 : decode cX8_tell 70 = .ok (.iadd, 1) := by decide +kernel
theorem dX8_tell_71 : decode cX8_tell 71 = .ok (.putfield 30, 3) := by decide +kernel
theorem dX8_tell_74 : decode cX8_tell 74 = .ok (.aload_n 0, 1) := by decide +kernel
theorem dX8_tell_75 : decode cX8_tell 75 = .ok (.getfield 30, 3) := by decide +kernel
theorem dX8_tell_78 : decode cX8_tell 78 = .ok (.iconst 1, 1) := by decide +kernel
theorem dX8_tell_79 : decode cX8_tell 79 = .ok (.isub, 1) := by decide +kernel
theorem dX8_tell_80 : decode cX8_tell 80 = .ok (.ireturn, 1) := by decide +kernel
theorem dX8_takeBack_0 : decode cX8_takeBack 0 = .ok (.iload_n 1, 1) := by decide +kernel
theorem dX8_takeBack_1 : decode cX8_takeBack 1 = .ok (.ifCond .lt 21, 3) := by decide +kernel
theorem dX8_takeBack_4 : decode cX8_takeBack 4 = .ok (.iload_n 1, 1) := by decide +kernel
theorem dX8_takeBack_5 : decode cX8_takeBack 5 = .ok (.aload_n 0, 1) := by decide +kernel
theorem dX8_takeBack_6 : decode cX8_takeBack 6 = .ok (.getfield 30, 3) := by decide +kernel
theorem dX8_takeBack_9 : decode cX8_takeBack 9 = .ok (.if_icmp .ge 13, 3) := by decide +kernel
theorem dX8_takeBack_12 : decode cX8_takeBack 12 = .ok (.aload_n 0, 1) := by decide +kernel
theorem dX8_takeBack_13 : decode cX8_takeBack 13 = .ok (.getfield 24, 3) := by decide +kernel
theorem dX8_takeBack_16 : decode cX8_takeBack 16 = .ok (.iload_n 1, 1) := by decide +kernel
theorem dX8_takeBack_17 : decode cX8_takeBack 17 = .ok (.iaload, 1) := by decide +kernel
theorem dX8_takeBack_18 : decode cX8_takeBack 18 = .ok (.iconst (-1), 1) := by decide +kernel
theorem dX8_takeBack_19 : decode cX8_takeBack 19 = .ok (.if_icmp .eq 5, 3) := by decide +kernel
theorem dX8_takeBack_22 : decode cX8_takeBack 22 = .ok (.iconst 0, 1) := by decide +kernel
theorem dX8_takeBack_23 : decode cX8_takeBack 23 = .ok (.ireturn, 1) := by decide +kernel
theorem dX8_takeBack_24 : decode cX8_takeBack 24 = .ok (.aload_n 0, 1) := by decide +kernel
theorem dX8_takeBack_25 : decode cX8_takeBack 25 = .ok (.getfield 24, 3) := by decide +kernel
theorem dX8_takeBack_28 : decode cX8_takeBack 28 = .ok (.iload_n 1, 1) := by decide +kernel
theorem dX8_takeBack_29 : decode cX8_takeBack 29 = .ok (.aload_n 0, 1) := by decide +kernel
theorem dX8_takeBack_30 : decode cX8_takeBack 30 = .ok (.getfield 34, 3) := by decide +kernel
theorem dX8_takeBack_33 : decode cX8_takeBack 33 = .ok (.iastore, 1) := by decide +kernel
theorem dX8_takeBack_34 : decode cX8_takeBack 34 = .ok (.iconst 1, 1) := by decide +kernel
theorem dX8_takeBack_35 : decode cX8_takeBack 35 = .ok (.ireturn, 1) := by decide +kernel
theorem dX8_goOn_0 : decode cX8_goOn 0 = .ok (.iload_n 1, 1) := by decide +kernel
theorem dX8_goOn_1 : decode cX8_goOn 1 = .ok (.ifCond .lt 21, 3) := by decide +kernel
theorem dX8_goOn_4 : decode cX8_goOn 4 = .ok (.iload_n 1, 1) := by decide +kernel
theorem dX8_goOn_5 : decode cX8_goOn 5 = .ok (.sipush 1000, 3) := by decide +kernel
theorem dX8_goOn_8 : decode cX8_goOn 8 = .ok (.if_icmp .gt 14, 3) := by decide +kernel
theorem dX8_goOn_11 : decode cX8_goOn 11 = .ok (.aload_n 0, 1) := by decide +kernel
theorem dX8_goOn_12 : decode cX8_goOn 12 = .ok (.getfield 34, 3) := by decide +kernel
theorem dX8_goOn_15 : decode cX8_goOn 15 = .ok (.iload_n 1, 1) := by decide +kernel
theorem dX8_goOn_16 : decode cX8_goOn 16 = .ok (.iadd, 1) := by decide +kernel
theorem dX8_goOn_17 : decode cX8_goOn 17 = .ok (.ldc 37, 2) := by decide +kernel
theorem dX8_goOn_19 : decode cX8_goOn 19 = .ok (.if_icmp .le 5, 3) := by decide +kernel
theorem dX8_goOn_22 : decode cX8_goOn 22 = .ok (.iconst (-1), 1) := by decide +kernel
theorem dX8_goOn_23 : decode cX8_goOn 23 = .ok (.ireturn, 1) := by decide +kernel
theorem dX8_goOn_24 : decode cX8_goOn 24 = .ok (.aload_n 0, 1) := by decide +kernel
theorem dX8_goOn_25 : decode cX8_goOn 25 = .ok (.dup, 1) := by decide +kernel
theorem dX8_goOn_26 : decode cX8_goOn 26 = .ok (.getfield 34, 3) := by decide +kernel
theorem dX8_goOn_29 : decode cX8_goOn 29 = .ok (.iload_n 1, 1) := by decide +kernel
theorem dX8_goOn_30 : decode cX8_goOn 30 = .ok (.iadd, 1) := by decide +kernel
theorem dX8_goOn_31 : decode cX8_goOn 31 = .ok (.putfield 34, 3) := by decide +kernel
theorem dX8_goOn_34 : decode cX8_goOn 34 = .ok (.aload_n 0, 1) := by decide +kernel
theorem dX8_goOn_35 : decode cX8_goOn 35 = .ok (.getfield 34, 3) := by decide +kernel
theorem dX8_goOn_38 : decode cX8_goOn 38 = .ok (.ireturn, 1) := by decide +kernel
theorem dX8_fittingAims_0 : decode cX8_fittingAims 0 = .ok (.iconst 0, 1) := by decide +kernel
theorem dX8_fittingAims_1 : decode cX8_fittingAims 1 = .ok (.istore 4, 2) := by decide +kernel
theorem dX8_fittingAims_3 : decode cX8_fittingAims 3 = .ok (.iconst 0, 1) := by decide +kernel
theorem dX8_fittingAims_4 : decode cX8_fittingAims 4 = .ok (.istore 5, 2) := by decide +kernel
theorem dX8_fittingAims_6 : decode cX8_fittingAims 6 = .ok (.iload 5, 2) := by decide +kernel
theorem dX8_fittingAims_8 : decode cX8_fittingAims 8 = .ok (.aload_n 1, 1) := by decide +kernel
theorem dX8_fittingAims_9 : decode cX8_fittingAims 9 = .ok (.getfield 38, 3) := by decide +kernel
theorem dX8_fittingAims_12 : decode cX8_fittingAims 12 = .ok (.if_icmp .ge 37, 3) := by decide +kernel
theorem dX8_fittingAims_15 : decode cX8_fittingAims 15 = .ok (.aload_n 0, 1) := by decide +kernel
theorem dX8_fittingAims_16 : decode cX8_fittingAims 16 = .ok (.aload_n 1, 1) := by decide +kernel
theorem dX8_fittingAims_17 : decode cX8_fittingAims 17 = .ok (.iload_n 2, 1) := by decide +kernel
theorem dX8_fittingAims_18 : decode cX8_fittingAims 18 = .ok (.iload 5, 2) := by decide +kernel
theorem dX8_fittingAims_20 : decode cX8_fittingAims 20 = .ok (.invokevirtual 43, 3) := by decide +kernel
theorem dX8_fittingAims_23 : decode cX8_fittingAims 23 = .ok (.aload_n 0, 1) := by decide +kernel
theorem dX8_fittingAims_24 : decode cX8_fittingAims 24 = .ok (.iload_n 2, 1) := by decide +kernel
theorem dX8_fittingAims_25 : decode cX8_fittingAims 25 = .ok (.iload 5, 2) := by decide +kernel
theorem dX8_fittingAims_27 : decode cX8_fittingAims 27 = .ok (.iload_n 3, 1) := by decide +kernel
theorem dX8_fittingAims_28 : decode cX8_fittingAims 28 = .ok (.invokevirtual 47, 3) := by decide +kernel
theorem dX8_fittingAims_31 : decode cX8_fittingAims 31 = .ok (.ifCond .eq 12, 3) := by decide +kernel
theorem dX8_fittingAims_34 : decode cX8_fittingAims 34 = .ok (.iload 4, 2) := by decide +kernel
theorem dX8_fittingAims_36 : decode cX8_fittingAims 36 = .ok (.iconst 1, 1) := by decide +kernel
theorem dX8_fittingAims_37 : decode cX8_fittingAims 37 = .ok (.iload 5, 2) := by decide +kernel
theorem dX8_fittingAims_39 : decode cX8_fittingAims 39 = .ok (.ishl, 1) := by decide +kernel
theorem dX8_fittingAims_40 : decode cX8_fittingAims 40 = .ok (.ior, 1) := by decide +kernel
theorem dX8_fittingAims_41 : decode cX8_fittingAims 41 = .ok (.istore 4, 2) := by decide +kernel
theorem dX8_fittingAims_43 : decode cX8_fittingAims 43 = .ok (.iinc 5 1, 3) := by decide +kernel
theorem dX8_fittingAims_46 : decode cX8_fittingAims 46 = .ok (.goto (-40), 3) := by decide +kernel
theorem dX8_fittingAims_49 : decode cX8_fittingAims 49 = .ok (.iload 4, 2) := by decide +kernel
theorem dX8_fittingAims_51 : decode cX8_fittingAims 51 = .ok (.ireturn, 1) := by decide +kernel
theorem dX8_layWay_0 : decode cX8_layWay 0 = .ok (.aload_n 1, 1) := by decide +kernel
theorem dX8_layWay_1 : decode cX8_layWay 1 = .ok (.getfield 51, 3) := by decide +kernel
theorem dX8_layWay_4 : decode cX8_layWay 4 = .ok (.iload_n 2, 1) := by decide +kernel
theorem dX8_layWay_5 : decode cX8_layWay 5 = .ok (.iaload, 1) := by decide +kernel
theorem dX8_layWay_6 : decode cX8_layWay 6 = .ok (.istore 4, 2) := by decide +kernel
theorem dX8_layWay_8 : decode cX8_layWay 8 = .ok (.iconst 0, 1) := by decide +kernel
theorem dX8_layWay_9 : decode cX8_layWay 9 = .ok (.istore 5, 2) := by decide +kernel
theorem dX8_layWay_11 : decode cX8_layWay 11 = .ok (.iload 5, 2) := by decide +kernel
theorem dX8_layWay_13 : decode cX8_layWay 13 = .ok (.aload_n 1, 1) := by decide +kernel
theorem dX8_layWay_14 : decode cX8_layWay 14 = .ok (.getfield 54, 3) := by decide +kernel
theorem dX8_layWay_17 : decode cX8_layWay 17 = .ok (.if_icmp .ge 74, 3) := by decide +kernel
theorem dX8_layWay_20 : decode cX8_layWay 20 = .ok (.aload_n 1, 1) := by decide +kernel
theorem dX8_layWay_21 : decode cX8_layWay 21 = .ok (.iload_n 2, 1) := by decide +kernel
theorem dX8_layWay_22 : decode cX8_layWay 22 = .ok (.iload 5, 2) := by decide +kernel
theorem dX8_layWay_24 : decode cX8_layWay 24 = .ok (.invokevirtual 57, 3) := by decide +kernel
theorem dX8_layWay_27 : decode cX8_layWay 27 = .ok (.ifCond .eq 12, 3) := by decide +kernel
theorem dX8_layWay_30 : decode cX8_layWay 30 = .ok (.aload_n 1, 1) := by decide +kernel
theorem dX8_layWay_31 : decode cX8_layWay 31 = .ok (.getfield 51, 3) := by decide +kernel
theorem dX8_layWay_34 : decode cX8_layWay 34 = .ok (.iload_n 2, 1) := by decide +kernel
theorem dX8_layWay_35 : decode cX8_layWay 35 = .ok (.iaload, 1) := by decide +kernel
theorem dX8_layWay_36 : decode cX8_layWay 36 = .ok (.goto 9, 3) := by decide +kernel
theorem dX8_layWay_39 : decode cX8_layWay 39 = .ok (.aload_n 1, 1) := by decide +kernel
theorem dX8_layWay_40 : decode cX8_layWay 40 = .ok (.getfield 51, 3) := by decide +kernel
theorem dX8_layWay_43 : decode cX8_layWay 43 = .ok (.iload_n 3, 1) := by decide +kernel
theorem dX8_layWay_44 : decode cX8_layWay 44 = .ok (.iaload, 1) := by decide +kernel
theorem dX8_layWay_45 : decode cX8_layWay 45 = .ok (.istore 6, 2) := by decide +kernel
theorem dX8_layWay_47 : decode cX8_layWay 47 = .ok (.iload 4, 2) := by decide +kernel
theorem dX8_layWay_49 : decode cX8_layWay 49 = .ok (.iload 6, 2) := by decide +kernel
theorem dX8_layWay_51 : decode cX8_layWay 51 = .ok (.if_icmp .eq 20, 3) := by decide +kernel
theorem dX8_layWay_54 : decode cX8_layWay 54 = .ok (.iload 4, 2) := by decide +kernel
theorem dX8_layWay_56 : decode cX8_layWay 56 = .ok (.iload 4, 2) := by decide +kernel
theorem dX8_layWay_58 : decode cX8_layWay 58 = .ok (.iload 6, 2) := by decide +kernel
theorem dX8_layWay_60 : decode cX8_layWay 60 = .ok (.if_icmp .ge 7, 3) := by decide +kernel
theorem dX8_layWay_63 : decode cX8_layWay 63 = .ok (.iconst 1, 1) := by decide +kernel
theorem dX8_layWay_64 : decode cX8_layWay 64 = .ok (.goto 4, 3) := by decide +kernel
theorem dX8_layWay_67 : decode cX8_layWay 67 = .ok (.iconst (-1), 1) := by decide +kernel
theorem dX8_layWay_68 : decode cX8_layWay 68 = .ok (.iadd, 1) := by decide +kernel
theorem dX8_layWay_69 : decode cX8_layWay 69 = .ok (.istore 4, 2) := by decide +kernel
theorem dX8_layWay_71 : decode cX8_layWay 71 = .ok (.aload_n 0, 1) := by decide +kernel
theorem dX8_layWay_72 : decode cX8_layWay 72 = .ok (.getfield 27, 3) := by decide +kernel
theorem dX8_layWay_75 : decode cX8_layWay 75 = .ok (.iload_n 3, 1) := by decide +kernel
theorem dX8_layWay_76 : decode cX8_layWay 76 = .ok (.bipush 24, 2) := by decide +kernel
theorem dX8_layWay_78 : decode cX8_layWay 78 = .ok (.imul, 1) := by decide +kernel
theorem dX8_layWay_79 : decode cX8_layWay 79 = .ok (.iload 5, 2) := by decide +kernel
theorem dX8_layWay_81 : decode cX8_layWay 81 = .ok (.iadd, 1) := by decide +kernel
theorem dX8_layWay_82 : decode cX8_layWay 82 = .ok (.iload 4, 2) := by decide +kernel
theorem dX8_layWay_84 : decode cX8_layWay 84 = .ok (.iastore, 1) := by decide +kernel
theorem dX8_layWay_85 : decode cX8_layWay 85 = .ok (.iinc 5 1, 3) := by decide +kernel
theorem dX8_layWay_88 : decode cX8_layWay 88 = .ok (.goto (-77), 3) := by decide +kernel
theorem dX8_layWay_91 : decode cX8_layWay 91 = .ok (.return_, 1) := by decide +kernel
theorem dX8_isFitting_0 : decode cX8_isFitting 0 = .ok (.iconst 0, 1) := by decide +kernel
theorem dX8_isFitting_1 : decode cX8_isFitting 1 = .ok (.istore 4, 2) := by decide +kernel
theorem dX8_isFitting_3 : decode cX8_isFitting 3 = .ok (.iload 4, 2) := by decide +kernel
theorem dX8_isFitting_5 : decode cX8_isFitting 5 = .ok (.aload_n 0, 1) := by decide +kernel
theorem dX8_isFitting_6 : decode cX8_isFitting 6 = .ok (.getfield 30, 3) := by decide +kernel
theorem dX8_isFitting_9 : decode cX8_isFitting 9 = .ok (.if_icmp .ge 94, 3) := by decide +kernel
theorem dX8_isFitting_12 : decode cX8_isFitting 12 = .ok (.aload_n 0, 1) := by decide +kernel
theorem dX8_isFitting_13 : decode cX8_isFitting 13 = .ok (.getfield 21, 3) := by decide +kernel
theorem dX8_isFitting_16 : decode cX8_isFitting 16 = .ok (.iload 4, 2) := by decide +kernel
theorem dX8_isFitting_18 : decode cX8_isFitting 18 = .ok (.iaload, 1) := by decide +kernel
theorem dX8_isFitting_19 : decode cX8_isFitting 19 = .ok (.iload_n 3, 1) := by decide +kernel
theorem dX8_isFitting_20 : decode cX8_isFitting 20 = .ok (.if_icmp .gt 29, 3) := by decide +kernel
theorem dX8_isFitting_23 : decode cX8_isFitting 23 = .ok (.aload_n 0, 1) := by decide +kernel
theorem dX8_isFitting_24 : decode cX8_isFitting 24 = .ok (.getfield 24, 3) := by decide +kernel
theorem dX8_isFitting_27 : decode cX8_isFitting 27 = .ok (.iload 4, 2) := by decide +kernel
theorem dX8_isFitting_29 : decode cX8_isFitting 29 = .ok (.iaload, 1) := by decide +kernel
theorem dX8_isFitting_30 : decode cX8_isFitting 30 = .ok (.iconst (-1), 1) := by decide +kernel
theorem dX8_isFitting_31 : decode cX8_isFitting 31 = .ok (.if_icmp .eq 14, 3) := by decide +kernel
theorem dX8_isFitting_34 : decode cX8_isFitting 34 = .ok (.aload_n 0, 1) := by decide +kernel
theorem dX8_isFitting_35 : decode cX8_isFitting 35 = .ok (.getfield 24, 3) := by decide +kernel
theorem dX8_isFitting_38 : decode cX8_isFitting 38 = .ok (.iload 4, 2) := by decide +kernel
theorem dX8_isFitting_40 : decode cX8_isFitting 40 = .ok (.iaload, 1) := by decide +kernel
theorem dX8_isFitting_41 : decode cX8_isFitting 41 = .ok (.iload_n 3, 1) := by decide +kernel
theorem dX8_isFitting_42 : decode cX8_isFitting 42 = .ok (.if_icmp .le 7, 3) := by decide +kernel
theorem dX8_isFitting_45 : decode cX8_isFitting 45 = .ok (.iconst 1, 1) := by decide +kernel
theorem dX8_isFitting_46 : decode cX8_isFitting 46 = .ok (.goto 4, 3) := by decide +kernel
theorem dX8_isFitting_49 : decode cX8_isFitting 49 = .ok (.iconst 0, 1) := by decide +kernel
theorem dX8_isFitting_50 : decode cX8_isFitting 50 = .ok (.istore 5, 2) := by decide +kernel
theorem dX8_isFitting_52 : decode cX8_isFitting 52 = .ok (.iload 5, 2) := by decide +kernel
theorem dX8_isFitting_54 : decode cX8_isFitting 54 = .ok (.ifCond .eq 43, 3) := by decide +kernel
theorem dX8_isFitting_57 : decode cX8_isFitting 57 = .ok (.aload_n 0, 1) := by decide +kernel
theorem dX8_isFitting_58 : decode cX8_isFitting 58 = .ok (.getfield 11, 3) := by decide +kernel
theorem dX8_isFitting_61 : decode cX8_isFitting 61 = .ok (.iload 4, 2) := by decide +kernel
theorem dX8_isFitting_63 : decode cX8_isFitting 63 = .ok (.iaload, 1) := by decide +kernel
theorem dX8_isFitting_64 : decode cX8_isFitting 64 = .ok (.iload_n 1, 1) := by decide +kernel
theorem dX8_isFitting_65 : decode cX8_isFitting 65 = .ok (.if_icmp .ne 32, 3) := by decide +kernel
theorem dX8_isFitting_68 : decode cX8_isFitting 68 = .ok (.aload_n 0, 1) := by decide +kernel
theorem dX8_isFitting_69 : decode cX8_isFitting 69 = .ok (.getfield 27, 3) := by decide +kernel
theorem dX8_isFitting_72 : decode cX8_isFitting 72 = .ok (.iload_n 2, 1) := by decide +kernel
theorem dX8_isFitting_73 : decode cX8_isFitting 73 = .ok (.bipush 24, 2) := by decide +kernel
theorem dX8_isFitting_75 : decode cX8_isFitting 75 = .ok (.imul, 1) := by decide +kernel
theorem dX8_isFitting_76 : decode cX8_isFitting 76 = .ok (.aload_n 0, 1) := by decide +kernel
theorem dX8_isFitting_77 : decode cX8_isFitting 77 = .ok (.getfield 15, 3) := by decide +kernel
theorem dX8_isFitting_80 : decode cX8_isFitting 80 = .ok (.iload 4, 2) := by decide +kernel
theorem dX8_isFitting_82 : decode cX8_isFitting 82 = .ok (.iaload, 1) := by decide +kernel
theorem dX8_isFitting_83 : decode cX8_isFitting 83 = .ok (.iadd, 1) := by decide +kernel
theorem dX8_isFitting_84 : decode cX8_isFitting 84 = .ok (.iaload, 1) := by decide +kernel
theorem dX8_isFitting_85 : decode cX8_isFitting 85 = .ok (.aload_n 0, 1) := by decide +kernel
theorem dX8_isFitting_86 : decode cX8_isFitting 86 = .ok (.getfield 18, 3) := by decide +kernel
theorem dX8_isFitting_89 : decode cX8_isFitting 89 = .ok (.iload 4, 2) := by decide +kernel
theorem dX8_isFitting_91 : decode cX8_isFitting 91 = .ok (.iaload, 1) := by decide +kernel
theorem dX8_isFitting_92 : decode cX8_isFitting 92 = .ok (.if_icmp .eq 5, 3) := by decide +kernel
theorem dX8_isFitting_95 : decode cX8_isFitting 95 = .ok (.iconst 0, 1) := by decide +kernel
theorem dX8_isFitting_96 : decode cX8_isFitting 96 = .ok (.ireturn, 1) := by decide +kernel
theorem dX8_isFitting_97 : decode cX8_isFitting 97 = .ok (.iinc 4 1, 3) := by decide +kernel
theorem dX8_isFitting_100 : decode cX8_isFitting 100 = .ok (.goto (-97), 3) := by decide +kernel
theorem dX8_isFitting_103 : decode cX8_isFitting 103 = .ok (.iconst 1, 1) := by decide +kernel
theorem dX8_isFitting_104 : decode cX8_isFitting 104 = .ok (.ireturn, 1) := by decide +kernel
theorem dX8_findHourToAsk_0 : decode cX8_findHourToAsk 0 = .ok (.aload_n 0, 1) := by decide +kernel
theorem dX8_findHourToAsk_1 : decode cX8_findHourToAsk 1 = .ok (.aload_n 1, 1) := by decide +kernel
theorem dX8_findHourToAsk_2 : decode cX8_findHourToAsk 2 = .ok (.iload_n 2, 1) := by decide +kernel
theorem dX8_findHourToAsk_3 : decode cX8_findHourToAsk 3 = .ok (.iload_n 3, 1) := by decide +kernel
theorem dX8_findHourToAsk_4 : decode cX8_findHourToAsk 4 = .ok (.invokevirtual 61, 3) := by decide +kernel
theorem dX8_findHourToAsk_7 : decode cX8_findHourToAsk 7 = .ok (.istore 4, 2) := by decide +kernel
theorem dX8_findHourToAsk_9 : decode cX8_findHourToAsk 9 = .ok (.aload_n 0, 1) := by decide +kernel
theorem dX8_findHourToAsk_10 : decode cX8_findHourToAsk 10 = .ok (.iconst (-1), 1) := by decide +kernel
theorem dX8_findHourToAsk_11 : decode cX8_findHourToAsk 11 = .ok (.putfield 65, 3) := by decide +kernel
theorem dX8_findHourToAsk_14 : decode cX8_findHourToAsk 14 = .ok (.aload_n 0, 1) := by decide +kernel
theorem dX8_findHourToAsk_15 : decode cX8_findHourToAsk 15 = .ok (.iconst (-1), 1) := by decide +kernel
theorem dX8_findHourToAsk_16 : decode cX8_findHourToAsk 16 = .ok (.putfield 68, 3) := by decide +kernel
theorem dX8_findHourToAsk_19 : decode cX8_findHourToAsk 19 = .ok (.iconst 0, 1) := by decide +kernel
theorem dX8_findHourToAsk_20 : decode cX8_findHourToAsk 20 = .ok (.istore 5, 2) := by decide +kernel
theorem dX8_findHourToAsk_22 : decode cX8_findHourToAsk 22 = .ok (.iload 5, 2) := by decide +kernel
theorem dX8_findHourToAsk_24 : decode cX8_findHourToAsk 24 = .ok (.aload_n 1, 1) := by decide +kernel
theorem dX8_findHourToAsk_25 : decode cX8_findHourToAsk 25 = .ok (.getfield 54, 3) := by decide +kernel
theorem dX8_findHourToAsk_28 : decode cX8_findHourToAsk 28 = .ok (.if_icmp .ge 57, 3) := by decide +kernel
theorem dX8_findHourToAsk_31 : decode cX8_findHourToAsk 31 = .ok (.iload 4, 2) := by decide +kernel
theorem dX8_findHourToAsk_33 : decode cX8_findHourToAsk 33 = .ok (.ifCond .eq 52, 3) := by decide +kernel
theorem dX8_findHourToAsk_36 : decode cX8_findHourToAsk 36 = .ok (.aload_n 0, 1) := by decide +kernel
theorem dX8_findHourToAsk_37 : decode cX8_findHourToAsk 37 = .ok (.aload_n 1, 1) := by decide +kernel
theorem dX8_findHourToAsk_38 : decode cX8_findHourToAsk 38 = .ok (.getfield 38, 3) := by decide +kernel
theorem dX8_findHourToAsk_41 : decode cX8_findHourToAsk 41 = .ok (.iload 4, 2) := by decide +kernel
theorem dX8_findHourToAsk_43 : decode cX8_findHourToAsk 43 = .ok (.iload 5, 2) := by decide +kernel
theorem dX8_findHourToAsk_45 : decode cX8_findHourToAsk 45 = .ok (.invokevirtual 71, 3) := by decide +kernel
theorem dX8_findHourToAsk_48 : decode cX8_findHourToAsk 48 = .ok (.istore 6, 2) := by decide +kernel
theorem dX8_findHourToAsk_50 : decode cX8_findHourToAsk 50 = .ok (.aload_n 0, 1) := by decide +kernel
theorem dX8_findHourToAsk_51 : decode cX8_findHourToAsk 51 = .ok (.getfield 65, 3) := by decide +kernel
theorem dX8_findHourToAsk_54 : decode cX8_findHourToAsk 54 = .ok (.iconst (-1), 1) := by decide +kernel
theorem dX8_findHourToAsk_55 : decode cX8_findHourToAsk 55 = .ok (.if_icmp .eq 12, 3) := by decide +kernel
theorem dX8_findHourToAsk_58 : decode cX8_findHourToAsk 58 = .ok (.iload 6, 2) := by decide +kernel
theorem dX8_findHourToAsk_60 : decode cX8_findHourToAsk 60 = .ok (.aload_n 0, 1) := by decide +kernel
theorem dX8_findHourToAsk_61 : decode cX8_findHourToAsk 61 = .ok (.getfield 68, 3) := by decide +kernel
theorem dX8_findHourToAsk_64 : decode cX8_findHourToAsk 64 = .ok (.if_icmp .ge 15, 3) := by decide +kernel
theorem dX8_findHourToAsk_67 : decode cX8_findHourToAsk 67 = .ok (.aload_n 0, 1) := by decide +kernel
theorem dX8_findHourToAsk_68 : decode cX8_findHourToAsk 68 = .ok (.iload 5, 2) := by decide +kernel
theorem dX8_findHourToAsk_70 : decode cX8_findHourToAsk 70 = .ok (.putfield 65, 3) := by decide +kernel
theorem dX8_findHourToAsk_73 : decode cX8_findHourToAsk 73 = .ok (.aload_n 0, 1) := by decide +kernel
theorem dX8_findHourToAsk_74 : decode cX8_findHourToAsk 74 = .ok (.iload 6, 2) := by decide +kernel
theorem dX8_findHourToAsk_76 : decode cX8_findHourToAsk 76 = .ok (.putfield 68, 3) := by decide +kernel
theorem dX8_findHourToAsk_79 : decode cX8_findHourToAsk 79 = .ok (.iinc 5 1, 3) := by decide +kernel
theorem dX8_findHourToAsk_82 : decode cX8_findHourToAsk 82 = .ok (.goto (-60), 3) := by decide +kernel
theorem dX8_findHourToAsk_85 : decode cX8_findHourToAsk 85 = .ok (.iload 4, 2) := by decide +kernel
theorem dX8_findHourToAsk_87 : decode cX8_findHourToAsk 87 = .ok (.ifCond .eq 7, 3) := by decide +kernel
theorem dX8_findHourToAsk_90 : decode cX8_findHourToAsk 90 = .ok (.iconst 1, 1) := by decide +kernel
theorem dX8_findHourToAsk_91 : decode cX8_findHourToAsk 91 = .ok (.goto 4, 3) := by decide +kernel
theorem dX8_findHourToAsk_94 : decode cX8_findHourToAsk 94 = .ok (.iconst 0, 1) := by decide +kernel
theorem dX8_findHourToAsk_95 : decode cX8_findHourToAsk 95 = .ok (.ireturn, 1) := by decide +kernel
theorem dX8_mostAtOnePlace_0 : decode cX8_mostAtOnePlace 0 = .ok (.iconst 0, 1) := by decide +kernel
theorem dX8_mostAtOnePlace_1 : decode cX8_mostAtOnePlace 1 = .ok (.istore 4, 2) := by decide +kernel
theorem dX8_mostAtOnePlace_3 : decode cX8_mostAtOnePlace 3 = .ok (.iconst 0, 1) := by decide +kernel
theorem dX8_mostAtOnePlace_4 : decode cX8_mostAtOnePlace 4 = .ok (.istore 5, 2) := by decide +kernel
theorem dX8_mostAtOnePlace_6 : decode cX8_mostAtOnePlace 6 = .ok (.iload 5, 2) := by decide +kernel
theorem dX8_mostAtOnePlace_8 : decode cX8_mostAtOnePlace 8 = .ok (.iload_n 1, 1) := by decide +kernel
theorem dX8_mostAtOnePlace_9 : decode cX8_mostAtOnePlace 9 = .ok (.if_icmp .ge 80, 3) := by decide +kernel
theorem dX8_mostAtOnePlace_12 : decode cX8_mostAtOnePlace 12 = .ok (.iconst 0, 1) := by decide +kernel
theorem dX8_mostAtOnePlace_13 : decode cX8_mostAtOnePlace 13 = .ok (.istore 6, 2) := by decide +kernel
theorem dX8_mostAtOnePlace_15 : decode cX8_mostAtOnePlace 15 = .ok (.iconst 0, 1) := by decide +kernel
theorem dX8_mostAtOnePlace_16 : decode cX8_mostAtOnePlace 16 = .ok (.istore 7, 2) := by decide +kernel
theorem dX8_mostAtOnePlace_18 : decode cX8_mostAtOnePlace 18 = .ok (.iload 7, 2) := by decide +kernel
theorem dX8_mostAtOnePlace_20 : decode cX8_mostAtOnePlace 20 = .ok (.iload_n 1, 1) := by decide +kernel
theorem dX8_mostAtOnePlace_21 : decode cX8_mostAtOnePlace 21 = .ok (.if_icmp .ge 53, 3) := by decide +kernel
theorem dX8_mostAtOnePlace_24 : decode cX8_mostAtOnePlace 24 = .ok (.iload_n 2, 1) := by decide +kernel
theorem dX8_mostAtOnePlace_25 : decode cX8_mostAtOnePlace 25 = .ok (.iload 5, 2) := by decide +kernel
theorem dX8_mostAtOnePlace_27 : decode cX8_mostAtOnePlace 27 = .ok (.ishr, 1) := by decide +kernel
theorem dX8_mostAtOnePlace_28 : decode cX8_mostAtOnePlace 28 = .ok (.iload_n 2, 1) := by decide +kernel
theorem dX8_mostAtOnePlace_29 : decode cX8_mostAtOnePlace 29 = .ok (.iload 7, 2) := by decide +kernel
theorem dX8_mostAtOnePlace_31 : decode cX8_mostAtOnePlace 31 = .ok (.ishr, 1) := by decide +kernel
theorem dX8_mostAtOnePlace_32 : decode cX8_mostAtOnePlace 32 = .ok (.iand, 1) := by decide +kernel
theorem dX8_mostAtOnePlace_33 : decode cX8_mostAtOnePlace 33 = .ok (.iconst 1, 1) := by decide +kernel
theorem dX8_mostAtOnePlace_34 : decode cX8_mostAtOnePlace 34 = .ok (.iand, 1) := by decide +kernel
theorem dX8_mostAtOnePlace_35 : decode cX8_mostAtOnePlace 35 = .ok (.ifCond .eq 33, 3) := by decide +kernel
theorem dX8_mostAtOnePlace_38 : decode cX8_mostAtOnePlace 38 = .ok (.aload_n 0, 1) := by decide +kernel
theorem dX8_mostAtOnePlace_39 : decode cX8_mostAtOnePlace 39 = .ok (.getfield 27, 3) := by decide +kernel
theorem dX8_mostAtOnePlace_42 : decode cX8_mostAtOnePlace 42 = .ok (.iload 5, 2) := by decide +kernel
theorem dX8_mostAtOnePlace_44 : decode cX8_mostAtOnePlace 44 = .ok (.bipush 24, 2) := by decide +kernel
theorem dX8_mostAtOnePlace_46 : decode cX8_mostAtOnePlace 46 = .ok (.imul, 1) := by decide +kernel
theorem dX8_mostAtOnePlace_47 : decode cX8_mostAtOnePlace 47 = .ok (.iload_n 3, 1) := by decide +kernel
theorem dX8_mostAtOnePlace_48 : decode cX8_mostAtOnePlace 48 = .ok (.iadd, 1) := by decide +kernel
theorem dX8_mostAtOnePlace_49 : decode cX8_mostAtOnePlace 49 = .ok (.iaload, 1) := by decide +kernel
theorem dX8_mostAtOnePlace_50 : decode cX8_mostAtOnePlace 50 = .ok (.aload_n 0, 1) := by decide +kernel
theorem dX8_mostAtOnePlace_51 : decode cX8_mostAtOnePlace 51 = .ok (.getfield 27, 3) := by decide +kernel
theorem dX8_mostAtOnePlace_54 : decode cX8_mostAtOnePlace 54 = .ok (.iload 7, 2) := by decide +kernel
theorem dX8_mostAtOnePlace_56 : decode cX8_mostAtOnePlace 56 = .ok (.bipush 24, 2) := by decide +kernel
theorem dX8_mostAtOnePlace_58 : decode cX8_mostAtOnePlace 58 = .ok (.imul, 1) := by decide +kernel
theorem dX8_mostAtOnePlace_59 : decode cX8_mostAtOnePlace 59 = .ok (.iload_n 3, 1) := by decide +kernel
theorem dX8_mostAtOnePlace_60 : decode cX8_mostAtOnePlace 60 = .ok (.iadd, 1) := by decide +kernel
theorem dX8_mostAtOnePlace_61 : decode cX8_mostAtOnePlace 61 = .ok (.iaload, 1) := by decide +kernel
theorem dX8_mostAtOnePlace_62 : decode cX8_mostAtOnePlace 62 = .ok (.if_icmp .ne 6, 3) := by decide +kernel
theorem dX8_mostAtOnePlace_65 : decode cX8_mostAtOnePlace 65 = .ok (.iinc 6 1, 3) := by decide +kernel
theorem dX8_mostAtOnePlace_68 : decode cX8_mostAtOnePlace 68 = .ok (.iinc 7 1, 3) := by decide +kernel
theorem dX8_mostAtOnePlace_71 : decode cX8_mostAtOnePlace 71 = .ok (.goto (-53), 3) := by decide +kernel
theorem dX8_mostAtOnePlace_74 : decode cX8_mostAtOnePlace 74 = .ok (.iload 4, 2) := by decide +kernel
theorem dX8_mostAtOnePlace_76 : decode cX8_mostAtOnePlace 76 = .ok (.iload 6, 2) := by decide +kernel
theorem dX8_mostAtOnePlace_78 : decode cX8_mostAtOnePlace 78 = .ok (.invokestatic 75, 3) := by decide +kernel
theorem dX8_mostAtOnePlace_81 : decode cX8_mostAtOnePlace 81 = .ok (.istore 4, 2) := by decide +kernel
theorem dX8_mostAtOnePlace_83 : decode cX8_mostAtOnePlace 83 = .ok (.iinc 5 1, 3) := by decide +kernel
theorem dX8_mostAtOnePlace_86 : decode cX8_mostAtOnePlace 86 = .ok (.goto (-80), 3) := by decide +kernel
theorem dX8_mostAtOnePlace_89 : decode cX8_mostAtOnePlace 89 = .ok (.iload 4, 2) := by decide +kernel
theorem dX8_mostAtOnePlace_91 : decode cX8_mostAtOnePlace 91 = .ok (.ireturn, 1) := by decide +kernel
theorem dX9_init_0 : decode cX9_init 0 = .ok (.aload_n 0, 1) := by decide +kernel
theorem dX9_init_1 : decode cX9_init 1 = .ok (.invokespecial 3, 3) := by decide +kernel
theorem dX9_init_4 : decode cX9_init 4 = .ok (.aload_n 0, 1) := by decide +kernel
theorem dX9_init_5 : decode cX9_init 5 = .ok (.iconst 0, 1) := by decide +kernel
theorem dX9_init_6 : decode cX9_init 6 = .ok (.newarray .byte, 2) := by decide +kernel
theorem dX9_init_8 : decode cX9_init 8 = .ok (.putfield 9, 3) := by decide +kernel
theorem dX9_init_11 : decode cX9_init 11 = .ok (.return_, 1) := by decide +kernel
theorem dX9_begin_0 : decode cX9_begin 0 = .ok (.aload_n 0, 1) := by decide +kernel
theorem dX9_begin_1 : decode cX9_begin 1 = .ok (.aload_n 1, 1) := by decide +kernel
theorem dX9_begin_2 : decode cX9_begin 2 = .ok (.putfield 9, 3) := by decide +kernel
theorem dX9_begin_5 : decode cX9_begin 5 = .ok (.aload_n 0, 1) := by decide +kernel
theorem dX9_begin_6 : decode cX9_begin 6 = .ok (.iload_n 2, 1) := by decide +kernel
theorem dX9_begin_7 : decode cX9_begin 7 = .ok (.aload_n 1, 1) := by decide +kernel
theorem dX9_begin_8 : decode cX9_begin 8 = .ok (.arraylength, 1) := by decide +kernel
theorem dX9_begin_9 : decode cX9_begin 9 = .ok (.invokestatic 15, 3) := by decide +kernel
theorem dX9_begin_12 : decode cX9_begin 12 = .ok (.putfield 21, 3) := by decide +kernel
theorem dX9_begin_15 : decode cX9_begin 15 = .ok (.aload_n 0, 1) := by decide +kernel
theorem dX9_begin_16 : decode cX9_begin 16 = .ok (.iconst 0, 1) := by decide +kernel
theorem dX9_begin_17 : decode cX9_begin 17 = .ok (.putfield 25, 3) := by decide +kernel
theorem dX9_begin_20 : decode cX9_begin 20 = .ok (.aload_n 0, 1) := by decide +kernel
theorem dX9_begin_21 : decode cX9_begin 21 = .ok (.invokevirtual 28, 3) := by decide +kernel
theorem dX9_begin_24 : decode cX9_begin 24 = .ok (.return_, 1) := by decide +kernel
theorem dX9_next_0 : decode cX9_next 0 = .ok (.aload_n 0, 1) := by decide +kernel
theorem dX9_next_1 : decode cX9_next 1 = .ok (.aload_n 0, 1) := by decide +kernel
theorem dX9_next_2 : decode cX9_next 2 = .ok (.getfield 21, 3) := by decide +kernel
theorem dX9_next_5 : decode cX9_next 5 = .ok (.putfield 31, 3) := by decide +kernel
theorem dX9_next_8 : decode cX9_next 8 = .ok (.aload_n 0, 1) := by decide +kernel
theorem dX9_next_9 : decode cX9_next 9 = .ok (.getfield 25, 3) := by decide +kernel
theorem dX9_next_12 : decode cX9_next 12 = .ok (.istore_n 1, 1) := by decide +kernel
theorem dX9_next_13 : decode cX9_next 13 = .ok (.iload_n 1, 1) := by decide +kernel
theorem dX9_next_14 : decode cX9_next 14 = .ok (.aload_n 0, 1) := by decide +kernel
theorem dX9_next_15 : decode cX9_next 15 = .ok (.getfield 21, 3) := by decide +kernel
theorem dX9_next_18 : decode cX9_next 18 = .ok (.if_icmp .ge 39, 3) := by decide +kernel
theorem dX9_next_21 : decode cX9_next 21 = .ok (.aload_n 0, 1) := by decide +kernel
theorem dX9_next_22 : decode cX9_next 22 = .ok (.getfield 9, 3) := by decide +kernel
theorem dX9_next_25 : decode cX9_next 25 = .ok (.iload_n 1, 1) := by decide +kernel
theorem dX9_next_26 : decode cX9_next 26 = .ok (.baload, 1) := by decide +kernel
theorem dX9_next_27 : decode cX9_next 27 = .ok (.bipush 32, 2) := by decide +kernel
theorem dX9_next_29 : decode cX9_next 29 = .ok (.if_icmp .eq 22, 3) := by decide +kernel
theorem dX9_next_32 : decode cX9_next 32 = .ok (.aload_n 0, 1) := by decide +kernel
theorem dX9_next_33 : decode cX9_next 33 = .ok (.getfield 9, 3) := by decide +kernel
theorem dX9_next_36 : decode cX9_next 36 = .ok (.iload_n 1, 1) := by decide +kernel
theorem dX9_next_37 : decode cX9_next 37 = .ok (.baload, 1) := by decide +kernel
theorem dX9_next_38 : decode cX9_next 38 = .ok (.bipush 10, 2) := by decide +kernel
theorem dX9_next_40 : decode cX9_next 40 = .ok (.if_icmp .eq 11, 3) := by decide +kernel
theorem dX9_next_43 : decode cX9_next 43 = .ok (.aload_n 0, 1) := by decide +kernel
theorem dX9_next_44 : decode cX9_next 44 = .ok (.iload_n 1, 1) := by decide +kernel
theorem dX9_next_45 : decode cX9_next 45 = .ok (.putfield 31, 3) := by decide +kernel
theorem dX9_next_48 : decode cX9_next 48 = .ok (.goto 9, 3) := by decide +kernel
theorem dX9_next_51 : decode cX9_next 51 = .ok (.iinc 1 1, 3) := by decide +kernel
theorem dX9_next_54 : decode cX9_next 54 = .ok (.goto (-41), 3) := by decide +kernel
theorem dX9_next_57 : decode cX9_next 57 = .ok (.aload_n 0, 1) := by decide +kernel
theorem dX9_next_58 : decode cX9_next 58 = .ok (.aload_n 0, 1) := by decide +kernel
theorem dX9_next_59 : decode cX9_next 59 = .ok (.getfield 31, 3) := by decide +kernel
theorem dX9_next_62 : decode cX9_next 62 = .ok (.putfield 25, 3) := by decide +kernel
theorem dX9_next_65 : decode cX9_next 65 = .ok (.aload_n 0, 1) := by decide +kernel
theorem dX9_next_66 : decode cX9_next 66 = .ok (.getfield 31, 3) := by decide +kernel
theorem dX9_next_69 : decode cX9_next 69 = .ok (.aload_n 0, 1) := by decide +kernel
theorem dX9_next_70 : decode cX9_next 70 = .ok (.getfield 21, 3) := by decide +kernel
theorem dX9_next_73 : decode cX9_next 73 = .ok (.if_icmp .lt 11, 3) := by decide +kernel
theorem dX9_next_76 : decode cX9_next 76 = .ok (.aload_n 0, 1) := by decide +kernel
theorem dX9_next_77 : decode cX9_next 77 = .ok (.iconst 0, 1) := by decide +kernel
theorem dX9_next_78 : decode cX9_next 78 = .ok (.putfield 34, 3) := by decide +kernel
theorem dX9_next_81 : decode cX9_next 81 = .ok (.goto 122, 3) := by decide +kernel
theorem dX9_next_84 : decode cX9_next 84 = .ok (.aload_n 0, 1) := by decide +kernel
theorem dX9_next_85 : decode cX9_next 85 = .ok (.aload_n 0, 1) := by decide +kernel
theorem dX9_next_86 : decode cX9_next 86 = .ok (.getfield 31, 3) := by decide +kernel
theorem dX9_next_89 : decode cX9_next 89 = .ok (.invokevirtual 37, 3) := by decide +kernel
theorem dX9_next_92 : decode cX9_next 92 = .ok (.ifCond .eq 36, 3) := by decide +kernel
theorem dX9_next_95 : decode cX9_next 95 = .ok (.aload_n 0, 1) := by decide +kernel
theorem dX9_next_96 : decode cX9_next 96 = .ok (.invokevirtual 41, 3) := by decide +kernel
theorem dX9_next_99 : decode cX9_next 99 = .ok (.aload_n 0, 1) := by decide +kernel
theorem dX9_next_100 : decode cX9_next 100 = .ok (.aload_n 0, 1) := by decide +kernel
theorem dX9_next_101 : decode cX9_next 101 = .ok (.getfield 25, 3) := by decide +kernel
theorem dX9_next_104 : decode cX9_next 104 = .ok (.aload_n 0, 1) := by decide +kernel
theorem dX9_next_105 : decode cX9_next 105 = .ok (.getfield 31, 3) := by decide +kernel
theorem dX9_next_108 : decode cX9_next 108 = .ok (.isub, 1) := by decide +kernel
theorem dX9_next_109 : decode cX9_next 109 = .ok (.bipush 8, 2) := by decide +kernel
theorem dX9_next_111 : decode cX9_next 111 = .ok (.if_icmp .le 7, 3) := by decide +kernel
theorem dX9_next_114 : decode cX9_next 114 = .ok (.iconst 1, 1) := by decide +kernel
theorem dX9_next_115 : decode cX9_next 115 = .ok (.goto 7, 3) := by decide +kernel
theorem dX9_next_118 : decode cX9_next 118 = .ok (.aload_n 0, 1) := by decide +kernel
theorem dX9_next_119 : decode cX9_next 119 = .ok (.invokevirtual 44, 3) := by decide +kernel
theorem dX9_next_122 : decode cX9_next 122 = .ok (.putfield 34, 3) := by decide +kernel
theorem dX9_next_125 : decode cX9_next 125 = .ok (.goto 78, 3) := by decide +kernel
theorem dX9_next_128 : decode cX9_next 128 = .ok (.aload_n 0, 1) := by decide +kernel
theorem dX9_next_129 : decode cX9_next 129 = .ok (.aload_n 0, 1) := by decide +kernel
theorem dX9_next_130 : decode cX9_next 130 = .ok (.getfield 31, 3) := by decide +kernel
theorem dX9_next_133 : decode cX9_next 133 = .ok (.invokevirtual 48, 3) := by decide +kernel
theorem dX9_next_136 : decode cX9_next 136 = .ok (.ifCond .eq 10, 3) := by decide +kernel
theorem dX9_next_139 : decode cX9_next 139 = .ok (.aload_n 0, 1) := by decide +kernel
theorem dX9_next_140 : decode cX9_next 140 = .ok (.invokevirtual 51, 3) := by decide +kernel
theorem dX9_next_143 : decode cX9_next 143 = .ok (.goto 60, 3) := by decide +kernel
theorem dX9_next_146 : decode cX9_next 146 = .ok (.aload_n 0, 1) := by decide +kernel
theorem dX9_next_147 : decode cX9_next 147 = .ok (.aload_n 0, 1) := by decide +kernel
theorem dX9_next_148 : decode cX9_next 148 = .ok (.getfield 31, 3) := by decide +kernel
theorem dX9_next_151 : decode cX9_next 151 = .ok (.iconst 1, 1) := by decide +kernel
theorem dX9_next_152 : decode cX9_next 152 = .ok (.iadd, 1) := by decide +kernel
theorem dX9_next_153 : decode cX9_next 153 = .ok (.putfield 25, 3) := by decide +kernel
theorem dX9_next_156 : decode cX9_next 156 = .ok (.aload_n 0, 1) := by decide +kernel
theorem dX9_next_157 : decode cX9_next 157 = .ok (.aload_n 0, 1) := by decide +kernel
theorem dX9_next_158 : decode cX9_next 158 = .ok (.getfield 9, 3) := by decide +kernel
theorem dX9_next_161 : decode cX9_next 161 = .ok (.aload_n 0, 1) := by decide +kernel
theorem dX9_next_162 : decode cX9_next 162 = .ok (.getfield 31, 3) := by decide +kernel
theorem dX9_next_165 : decode cX9_next 165 = .ok (.baload, 1) := by decide +kernel
theorem dX9_next_166 : decode cX9_next 166 = .ok (.ifCond .le 33, 3) := by decide +kernel
theorem dX9_next_169 : decode cX9_next 169 = .ok (.ldc 54, 2) := by decide +kernel
theorem dX9_next_171 : decode cX9_next 171 = .ok (.aload_n 0, 1) := by decide +kernel
theorem dX9_next_172 : decode cX9_next 172 = .ok (.getfield 9, 3) := by decide +kernel
theorem dX9_next_175 : decode cX9_next 175 = .ok (.aload_n 0, 1) := by decide +kernel
theorem dX9_next_176 : decode cX9_next 176 = .ok (.getfield 31, 3) := by decide +kernel
theorem dX9_next_179 : decode cX9_next 179 = .ok (.baload, 1) := by decide +kernel
theorem dX9_next_180 : decode cX9_next 180 = .ok (.i2c, 1) := by decide +kernel
theorem dX9_next_181 : decode cX9_next 181 = .ok (.invokevirtual 56, 3) := by decide +kernel
theorem dX9_next_184 : decode cX9_next 184 = .ok (.ifCond .lt 15, 3) := by decide +kernel
theorem dX9_next_187 : decode cX9_next 187 = .ok (.aload_n 0, 1) := by decide +kernel
theorem dX9_next_188 : decode cX9_next 188 = .ok (.getfield 9, 3) := by decide +kernel
theorem dX9_next_191 : decode cX9_next 191 = .ok (.aload_n 0, 1) := by decide +kernel
theorem dX9_next_192 : decode cX9_next 192 = .ok (.getfield 31, 3) := by decide +kernel
theorem dX9_next_195 : decode cX9_next 195 = .ok (.baload, 1) := by decide +kernel
theorem dX9_next_196 : decode cX9_next 196 = .ok (.goto 4, 3) := by decide +kernel
theorem dX9_next_199 : decode cX9_next 199 = .ok (.iconst 1, 1) := by decide +kernel
theorem dX9_next_200 : decode cX9_next 200 = .ok (.putfield 34, 3) := by decide +kernel
theorem dX9_next_203 : decode cX9_next 203 = .ok (.return_, 1) := by decide +kernel
theorem dX9_isSameWord_0 : decode cX9_isSameWord 0 = .ok (.iload_n 2, 1) := by decide +kernel
theorem dX9_isSameWord_1 : decode cX9_isSameWord 1 = .ok (.iload_n 1, 1) := by decide +kernel
theorem dX9_isSameWord_2 : decode cX9_isSameWord 2 = .ok (.isub, 1) := by decide +kernel
theorem dX9_isSameWord_3 : decode cX9_isSameWord 3 = .ok (.aload_n 0, 1) := by decide +kernel
theorem dX9_isSameWord_4 : decode cX9_isSameWord 4 = .ok (.getfield 25, 3) := by decide +kernel
theorem dX9_isSameWord_7 : decode cX9_isSameWord 7 = .ok (.aload_n 0, 1) := by decide +kernel
theorem dX9_isSameWord_8 : decode cX9_isSameWord 8 = .ok (.getfield 31, 3) := by decide +kernel
theorem dX9_isSameWord_11 : decode cX9_isSameWord 11 = .ok (.isub, 1) := by decide +kernel
theorem dX9_isSameWord_12 : decode cX9_isSameWord 12 = .ok (.if_icmp .eq 5, 3) := by decide +kernel
theorem dX9_isSameWord_15 : decode cX9_isSameWord 15 = .ok (.iconst 0, 1) := by decide +kernel
theorem dX9_isSameWord_16 : decode cX9_isSameWord 16 = .ok (.ireturn, 1) := by decide +kernel
theorem dX9_isSameWord_17 : decode cX9_isSameWord 17 = .ok (.iconst 0, 1) := by decide +kernel
theorem dX9_isSameWord_18 : decode cX9_isSameWord 18 = .ok (.istore_n 3, 1) := by decide +kernel
theorem dX9_isSameWord_19 : decode cX9_isSameWord 19 = .ok (.iload_n 3, 1) := by decide +kernel
theorem dX9_isSameWord_20 : decode cX9_isSameWord 20 = .ok (.aload_n 0, 1) := by decide +kernel
theorem dX9_isSameWord_21 : decode cX9_isSameWord 21 = .ok (.getfield 25, 3) := by decide +kernel
theorem dX9_isSameWord_24 : decode cX9_isSameWord 24 = .ok (.aload_n 0, 1) := by decide +kernel
theorem dX9_isSameWord_25 : decode cX9_isSameWord 25 = .ok (.getfield 31, 3) := by decide +kernel
theorem dX9_isSameWord_28 : decode cX9_isSameWord 28 = .ok (.isub, 1) := by decide +kernel
theorem dX9_isSameWord_29 : decode cX9_isSameWord 29 = .ok (.if_icmp .ge 33, 3) := by decide +kernel
theorem dX9_isSameWord_32 : decode cX9_isSameWord 32 = .ok (.aload_n 0, 1) := by decide +kernel
theorem dX9_isSameWord_33 : decode cX9_isSameWord 33 = .ok (.getfield 9, 3) := by decide +kernel
theorem dX9_isSameWord_36 : decode cX9_isSameWord 36 = .ok (.aload_n 0, 1) := by decide +kernel
theorem dX9_isSameWord_37 : decode cX9_isSameWord 37 = .ok (.getfield 31, 3) := by decide +kernel
theorem dX9_isSameWord_40 : decode cX9_isSameWord 40 = .ok (.iload_n 3, 1) := by decide +kernel
theorem dX9_isSameWord_41 : decode cX9_isSameWord 41 = .ok (.iadd, 1) := by decide +kernel
theorem dX9_isSameWord_42 : decode cX9_isSameWord 42 = .ok (.baload, 1) := by decide +kernel
theorem dX9_isSameWord_43 : decode cX9_isSameWord 43 = .ok (.aload_n 0, 1) := by decide +kernel
theorem dX9_isSameWord_44 : decode cX9_isSameWord 44 = .ok (.getfield 9, 3) := by decide +kernel
theorem dX9_isSameWord_47 : decode cX9_isSameWord 47 = .ok (.iload_n 1, 1) := by decide +kernel
theorem dX9_isSameWord_48 : decode cX9_isSameWord 48 = .ok (.iload_n 3, 1) := by decide +kernel
theorem dX9_isSameWord_49 : decode cX9_isSameWord 49 = .ok (.iadd, 1) := by decide +kernel
theorem dX9_isSameWord_50 : decode cX9_isSameWord 50 = .ok (.baload, 1) := by decide +kernel
theorem dX9_isSameWord_51 : decode cX9_isSameWord 51 = .ok (.if_icmp .eq 5, 3) := by decide +kernel
theorem dX9_isSameWord_54 : decode cX9_isSameWord 54 = .ok (.iconst 0, 1) := by decide +kernel
theorem dX9_isSameWord_55 : decode cX9_isSameWord 55 = .ok (.ireturn, 1) := by decide +kernel
theorem dX9_isSameWord_56 : decode cX9_isSameWord 56 = .ok (.iinc 3 1, 3) := by decide +kernel
theorem dX9_isSameWord_59 : decode cX9_isSameWord 59 = .ok (.goto (-40), 3) := by decide +kernel
theorem dX9_isSameWord_62 : decode cX9_isSameWord 62 = .ok (.iconst 1, 1) := by decide +kernel
theorem dX9_isSameWord_63 : decode cX9_isSameWord 63 = .ok (.ireturn, 1) := by decide +kernel
theorem dX9_readLetters_0 : decode cX9_readLetters 0 = .ok (.aload_n 0, 1) := by decide +kernel
theorem dX9_readLetters_1 : decode cX9_readLetters 1 = .ok (.getfield 31, 3) := by decide +kernel
theorem dX9_readLetters_4 : decode cX9_readLetters 4 = .ok (.istore_n 1, 1) := by decide +kernel
theorem dX9_readLetters_5 : decode cX9_readLetters 5 = .ok (.iload_n 1, 1) := by decide +kernel
theorem dX9_readLetters_6 : decode cX9_readLetters 6 = .ok (.aload_n 0, 1) := by decide +kernel
theorem dX9_readLetters_7 : decode cX9_readLetters 7 = .ok (.getfield 21, 3) := by decide +kernel
theorem dX9_readLetters_10 : decode cX9_readLetters 10 = .ok (.if_icmp .ge 24, 3) := by decide +kernel
theorem dX9_readLetters_13 : decode cX9_readLetters 13 = .ok (.aload_n 0, 1) := by decide +kernel
theorem dX9_readLetters_14 : decode cX9_readLetters 14 = .ok (.iload_n 1, 1) := by decide +kernel
theorem dX9_readLetters_15 : decode cX9_readLetters 15 = .ok (.invokevirtual 37, 3) := by decide +kernel
theorem dX9_readLetters_18 : decode cX9_readLetters 18 = .ok (.ifCond .eq 16, 3) := by decide +kernel
theorem dX9_readLetters_21 : decode cX9_readLetters 21 = .ok (.aload_n 0, 1) := by decide +kernel
theorem dX9_readLetters_22 : decode cX9_readLetters 22 = .ok (.iload_n 1, 1) := by decide +kernel
theorem dX9_readLetters_23 : decode cX9_readLetters 23 = .ok (.iconst 1, 1) := by decide +kernel
theorem dX9_readLetters_24 : decode cX9_readLetters 24 = .ok (.iadd, 1) := by decide +kernel
theorem dX9_readLetters_25 : decode cX9_readLetters 25 = .ok (.putfield 25, 3) := by decide +kernel
theorem dX9_readLetters_28 : decode cX9_readLetters 28 = .ok (.iinc 1 1, 3) := by decide +kernel
theorem dX9_readLetters_31 : decode cX9_readLetters 31 = .ok (.goto (-26), 3) := by decide +kernel
theorem dX9_readLetters_34 : decode cX9_readLetters 34 = .ok (.return_, 1) := by decide +kernel
theorem dX9_readNumber_0 : decode cX9_readNumber 0 = .ok (.aload_n 0, 1) := by decide +kernel
theorem dX9_readNumber_1 : decode cX9_readNumber 1 = .ok (.iconst 0, 1) := by decide +kernel
theorem dX9_readNumber_2 : decode cX9_readNumber 2 = .ok (.putfield 62, 3) := by decide +kernel
theorem dX9_readNumber_5 : decode cX9_readNumber 5 = .ok (.aload_n 0, 1) := by decide +kernel
theorem dX9_readNumber_6 : decode cX9_readNumber 6 = .ok (.getfield 31, 3) := by decide +kernel
theorem dX9_readNumber_9 : decode cX9_readNumber 9 = .ok (.istore_n 1, 1) := by decide +kernel
theorem dX9_readNumber_10 : decode cX9_readNumber 10 = .ok (.iload_n 1, 1) := by decide +kernel
theorem dX9_readNumber_11 : decode cX9_readNumber 11 = .ok (.aload_n 0, 1) := by decide +kernel
theorem dX9_readNumber_12 : decode cX9_readNumber 12 = .ok (.getfield 21, 3) := by decide +kernel
theorem dX9_readNumber_15 : decode cX9_readNumber 15 = .ok (.if_icmp .ge 45, 3) := by decide +kernel
theorem dX9_readNumber_18 : decode cX9_readNumber 18 = .ok (.aload_n 0, 1) := by decide +kernel
theorem dX9_readNumber_19 : decode cX9_readNumber 19 = .ok (.iload_n 1, 1) := by decide +kernel
theorem dX9_readNumber_20 : decode cX9_readNumber 20 = .ok (.invokevirtual 48, 3) := by decide +kernel
theorem dX9_readNumber_23 : decode cX9_readNumber 23 = .ok (.ifCond .eq 37, 3) := by decide +kernel
theorem dX9_readNumber_26 : decode cX9_readNumber 26 = .ok (.aload_n 0, 1) := by decide +kernel
theorem dX9_readNumber_27 : decode cX9_readNumber 27 = .ok (.aload_n 0, 1) := by decide +kernel
theorem dX9_readNumber_28 : decode cX9_readNumber 28 = .ok (.getfield 62, 3) := by decide +kernel
theorem dX9_readNumber_31 : decode cX9_readNumber 31 = .ok (.bipush 10, 2) := by decide +kernel
theorem dX9_readNumber_33 : decode cX9_readNumber 33 = .ok (.imul, 1) := by decide +kernel
theorem dX9_readNumber_34 : decode cX9_readNumber 34 = .ok (.aload_n 0, 1) := by decide +kernel
theorem dX9_readNumber_35 : decode cX9_readNumber 35 = .ok (.getfield 9, 3) := by decide +kernel
theorem dX9_readNumber_38 : decode cX9_readNumber 38 = .ok (.iload_n 1, 1) := by decide +kernel
theorem dX9_readNumber_39 : decode cX9_readNumber 39 = .ok (.baload, 1) := by decide +kernel
theorem dX9_readNumber_40 : decode cX9_readNumber 40 = .ok (.iadd, 1) := by decide +kernel
theorem dX9_readNumber_41 : decode cX9_readNumber 41 = .ok (.bipush 48, 2) := by decide +kernel
theorem dX9_readNumber_43 : decode cX9_readNumber 43 = .ok (.isub, 1) := by decide +kernel
theorem dX9_readNumber_44 : decode cX9_readNumber 44 = .ok (.putfield 62, 3) := by decide +kernel
theorem dX9_readNumber_47 : decode cX9_readNumber 47 = .ok (.aload_n 0, 1) := by decide +kernel
theorem dX9_readNumber_48 : decode cX9_readNumber 48 = .ok (.iload_n 1, 1) := by decide +kernel
theorem dX9_readNumber_49 : decode cX9_readNumber 49 = .ok (.iconst 1, 1) := by decide +kernel
theorem dX9_readNumber_50 : decode cX9_readNumber 50 = .ok (.iadd, 1) := by decide +kernel
theorem dX9_readNumber_51 : decode cX9_readNumber 51 = .ok (.putfield 25, 3) := by decide +kernel
theorem dX9_readNumber_54 : decode cX9_readNumber 54 = .ok (.iinc 1 1, 3) := by decide +kernel
theorem dX9_readNumber_57 : decode cX9_readNumber 57 = .ok (.goto (-47), 3) := by decide +kernel
theorem dX9_readNumber_60 : decode cX9_readNumber 60 = .ok (.aload_n 0, 1) := by decide +kernel
theorem dX9_readNumber_61 : decode cX9_readNumber 61 = .ok (.getfield 25, 3) := by decide +kernel
theorem dX9_readNumber_64 : decode cX9_readNumber 64 = .ok (.aload_n 0, 1) := by decide +kernel
theorem dX9_readNumber_65 : decode cX9_readNumber 65 = .ok (.getfield 31, 3) := by decide +kernel
theorem dX9_readNumber_68 : decode cX9_readNumber 68 = .ok (.isub, 1) := by decide +kernel
theorem dX9_readNumber_69 : decode cX9_readNumber 69 = .ok (.iconst 4, 1) := by decide +kernel
theorem dX9_readNumber_70 : decode cX9_readNumber 70 = .ok (.if_icmp .gt 29, 3) := by decide +kernel
theorem dX9_readNumber_73 : decode cX9_readNumber 73 = .ok (.aload_n 0, 1) := by decide +kernel
theorem dX9_readNumber_74 : decode cX9_readNumber 74 = .ok (.getfield 25, 3) := by decide +kernel
theorem dX9_readNumber_77 : decode cX9_readNumber 77 = .ok (.aload_n 0, 1) := by decide +kernel
theorem dX9_readNumber_78 : decode cX9_readNumber 78 = .ok (.getfield 21, 3) := by decide +kernel
theorem dX9_readNumber_81 : decode cX9_readNumber 81 = .ok (.if_icmp .ge 14, 3) := by decide +kernel
theorem dX9_readNumber_84 : decode cX9_readNumber 84 = .ok (.aload_n 0, 1) := by decide +kernel
theorem dX9_readNumber_85 : decode cX9_readNumber 85 = .ok (.aload_n 0, 1) := by decide +kernel
theorem dX9_readNumber_86 : decode cX9_readNumber 86 = .ok (.getfield 25, 3) := by decide +kernel
theorem dX9_readNumber_89 : decode cX9_readNumber 89 = .ok (.invokevirtual 37, 3) := by decide +kernel
theorem dX9_readNumber_92 : decode cX9_readNumber 92 = .ok (.ifCond .ne 7, 3) := by decide +kernel
theorem dX9_readNumber_95 : decode cX9_readNumber 95 = .ok (.iconst 1, 1) := by decide +kernel
theorem dX9_readNumber_96 : decode cX9_readNumber 96 = .ok (.goto 4, 3) := by decide +kernel
theorem dX9_readNumber_99 : decode cX9_readNumber 99 = .ok (.iconst 0, 1) := by decide +kernel
theorem dX9_readNumber_100 : decode cX9_readNumber 100 = .ok (.istore_n 1, 1) := by decide +kernel
theorem dX9_readNumber_101 : decode cX9_readNumber 101 = .ok (.aload_n 0, 1) := by decide +kernel
theorem dX9_readNumber_102 : decode cX9_readNumber 102 = .ok (.iload_n 1, 1) := by decide +kernel
theorem dX9_readNumber_103 : decode cX9_readNumber 103 = .ok (.ifCond .eq 7, 3) := by decide +kernel
theorem dX9_readNumber_106 : decode cX9_readNumber 106 = .ok (.iconst 2, 1) := by decide +kernel
theorem dX9_readNumber_107 : decode cX9_readNumber 107 = .ok (.goto 4, 3) := by decide +kernel
theorem dX9_readNumber_110 : decode cX9_readNumber 110 = .ok (.iconst 1, 1) := by decide +kernel
theorem dX9_readNumber_111 : decode cX9_readNumber 111 = .ok (.putfield 34, 3) := by decide +kernel
theorem dX9_readNumber_114 : decode cX9_readNumber 114 = .ok (.return_, 1) := by decide +kernel
theorem dX9_kindOfWord_0 : decode cX9_kindOfWord 0 = .ok (.bipush 100, 2) := by decide +kernel
theorem dX9_kindOfWord_2 : decode cX9_kindOfWord 2 = .ok (.istore_n 1, 1) := by decide +kernel
theorem dX9_kindOfWord_3 : decode cX9_kindOfWord 3 = .ok (.iconst 0, 1) := by decide +kernel
theorem dX9_kindOfWord_4 : decode cX9_kindOfWord 4 = .ok (.istore_n 2, 1) := by decide +kernel
theorem dX9_kindOfWord_5 : decode cX9_kindOfWord 5 = .ok (.iconst 0, 1) := by decide +kernel
theorem dX9_kindOfWord_6 : decode cX9_kindOfWord 6 = .ok (.istore_n 3, 1) := by decide +kernel
theorem dX9_kindOfWord_7 : decode cX9_kindOfWord 7 = .ok (.iload_n 3, 1) := by decide +kernel
theorem dX9_kindOfWord_8 : decode cX9_kindOfWord 8 = .ok (.ldc 65, 2) := by decide +kernel
theorem dX9_kindOfWord_10 : decode cX9_kindOfWord 10 = .ok (.invokevirtual 67, 3) := by decide +kernel
theorem dX9_kindOfWord_13 : decode cX9_kindOfWord 13 = .ok (.if_icmp .ge 88, 3) := by decide +kernel
theorem dX9_kindOfWord_16 : decode cX9_kindOfWord 16 = .ok (.ldc 65, 2) := by decide +kernel
theorem dX9_kindOfWord_18 : decode cX9_kindOfWord 18 = .ok (.iload_n 3, 1) := by decide +kernel
theorem dX9_kindOfWord_19 : decode cX9_kindOfWord 19 = .ok (.invokevirtual 70, 3) := by decide +kernel
theorem dX9_kindOfWord_22 : decode cX9_kindOfWord 22 = .ok (.istore 4, 2) := by decide +kernel
theorem dX9_kindOfWord_24 : decode cX9_kindOfWord 24 = .ok (.iload 4, 2) := by decide +kernel
theorem dX9_kindOfWord_26 : decode cX9_kindOfWord 26 = .ok (.bipush 32, 2) := by decide +kernel
theorem dX9_kindOfWord_28 : decode cX9_kindOfWord 28 = .ok (.if_icmp .ne 26, 3) := by decide +kernel
theorem dX9_kindOfWord_31 : decode cX9_kindOfWord 31 = .ok (.iload_n 2, 1) := by decide +kernel
theorem dX9_kindOfWord_32 : decode cX9_kindOfWord 32 = .ok (.aload_n 0, 1) := by decide +kernel
theorem dX9_kindOfWord_33 : decode cX9_kindOfWord 33 = .ok (.getfield 25, 3) := by decide +kernel
theorem dX9_kindOfWord_36 : decode cX9_kindOfWord 36 = .ok (.aload_n 0, 1) := by decide +kernel
theorem dX9_kindOfWord_37 : decode cX9_kindOfWord 37 = .ok (.getfield 31, 3) := by decide +kernel
theorem dX9_kindOfWord_40 : decode cX9_kindOfWord 40 = .ok (.isub, 1) := by decide +kernel
theorem dX9_kindOfWord_41 : decode cX9_kindOfWord 41 = .ok (.if_icmp .ne 5, 3) := by decide +kernel
theorem dX9_kindOfWord_44 : decode cX9_kindOfWord 44 = .ok (.iload_n 1, 1) := by decide +kernel
theorem dX9_kindOfWord_45 : decode cX9_kindOfWord 45 = .ok (.ireturn, 1) := by decide +kernel
theorem dX9_kindOfWord_46 : decode cX9_kindOfWord 46 = .ok (.iinc 1 1, 3) := by decide +kernel
theorem dX9_kindOfWord_49 : decode cX9_kindOfWord 49 = .ok (.iconst 0, 1) := by decide +kernel
theorem dX9_kindOfWord_50 : decode cX9_kindOfWord 50 = .ok (.istore_n 2, 1) := by decide +kernel
theorem dX9_kindOfWord_51 : decode cX9_kindOfWord 51 = .ok (.goto 44, 3) := by decide +kernel
theorem dX9_kindOfWord_54 : decode cX9_kindOfWord 54 = .ok (.iload_n 2, 1) := by decide +kernel
theorem dX9_kindOfWord_55 : decode cX9_kindOfWord 55 = .ok (.ifCond .lt 38, 3) := by decide +kernel
theorem dX9_kindOfWord_58 : decode cX9_kindOfWord 58 = .ok (.iload_n 2, 1) := by decide +kernel
theorem dX9_kindOfWord_59 : decode cX9_kindOfWord 59 = .ok (.aload_n 0, 1) := by decide +kernel
theorem dX9_kindOfWord_60 : decode cX9_kindOfWord 60 = .ok (.getfield 25, 3) := by decide +kernel
theorem dX9_kindOfWord_63 : decode cX9_kindOfWord 63 = .ok (.aload_n 0, 1) := by decide +kernel
theorem dX9_kindOfWord_64 : decode cX9_kindOfWord 64 = .ok (.getfield 31, 3) := by decide +kernel
theorem dX9_kindOfWord_67 : decode cX9_kindOfWord 67 = .ok (.isub, 1) := by decide +kernel
theorem dX9_kindOfWord_68 : decode cX9_kindOfWord 68 = .ok (.if_icmp .ge 25, 3) := by decide +kernel
theorem dX9_kindOfWord_71 : decode cX9_kindOfWord 71 = .ok (.aload_n 0, 1) := by decide +kernel
theorem dX9_kindOfWord_72 : decode cX9_kindOfWord 72 = .ok (.getfield 9, 3) := by decide +kernel
theorem dX9_kindOfWord_75 : decode cX9_kindOfWord 75 = .ok (.aload_n 0, 1) := by decide +kernel
theorem dX9_kindOfWord_76 : decode cX9_kindOfWord 76 = .ok (.getfield 31, 3) := by decide +kernel
theorem dX9_kindOfWord_79 : decode cX9_kindOfWord 79 = .ok (.iload_n 2, 1) := by decide +kernel
theorem dX9_kindOfWord_80 : decode cX9_kindOfWord 80 = .ok (.iadd, 1) := by decide +kernel
theorem dX9_kindOfWord_81 : decode cX9_kindOfWord 81 = .ok (.baload, 1) := by decide +kernel
theorem dX9_kindOfWord_82 : decode cX9_kindOfWord 82 = .ok (.iload 4, 2) := by decide +kernel
theorem dX9_kindOfWord_84 : decode cX9_kindOfWord 84 = .ok (.if_icmp .ne 9, 3) := by decide +kernel
theorem dX9_kindOfWord_87 : decode cX9_kindOfWord 87 = .ok (.iinc 2 1, 3) := by decide +kernel
theorem dX9_kindOfWord_90 : decode cX9_kindOfWord 90 = .ok (.goto 5, 3) := by decide +kernel
theorem dX9_kindOfWord_93 : decode cX9_kindOfWord 93 = .ok (.iconst (-1), 1) := by decide +kernel
theorem dX9_kindOfWord_94 : decode cX9_kindOfWord 94 = .ok (.istore_n 2, 1) := by decide +kernel
theorem dX9_kindOfWord_95 : decode cX9_kindOfWord 95 = .ok (.iinc 3 1, 3) := by decide +kernel
theorem dX9_kindOfWord_98 : decode cX9_kindOfWord 98 = .ok (.goto (-91), 3) := by decide +kernel
theorem dX9_kindOfWord_101 : decode cX9_kindOfWord 101 = .ok (.iconst 3, 1) := by decide +kernel
theorem dX9_kindOfWord_102 : decode cX9_kindOfWord 102 = .ok (.ireturn, 1) := by decide +kernel
theorem dX9_isLetter_0 : decode cX9_isLetter 0 = .ok (.aload_n 0, 1) := by decide +kernel
theorem dX9_isLetter_1 : decode cX9_isLetter 1 = .ok (.getfield 9, 3) := by decide +kernel
theorem dX9_isLetter_4 : decode cX9_isLetter 4 = .ok (.iload_n 1, 1) := by decide +kernel
theorem dX9_isLetter_5 : decode cX9_isLetter 5 = .ok (.baload, 1) := by decide +kernel
theorem dX9_isLetter_6 : decode cX9_isLetter 6 = .ok (.bipush 97, 2) := by decide +kernel
theorem dX9_isLetter_8 : decode cX9_isLetter 8 = .ok (.if_icmp .lt 18, 3) := by decide +kernel
theorem dX9_isLetter_11 : decode cX9_isLetter 11 = .ok (.aload_n 0, 1) := by decide +kernel
theorem dX9_isLetter_12 : decode cX9_isLetter 12 = .ok (.getfield 9, 3) := by decide +kernel
theorem dX9_isLetter_15 : decode cX9_isLetter 15 = .ok (.iload_n 1, 1) := by decide +kernel
theorem dX9_isLetter_16 : decode cX9_isLetter 16 = .ok (.baload, 1) := by decide +kernel
theorem dX9_isLetter_17 : decode cX9_isLetter 17 = .ok (.bipush 122, 2) := by decide +kernel
theorem dX9_isLetter_19 : decode cX9_isLetter 19 = .ok (.if_icmp .gt 7, 3) := by decide +kernel
theorem dX9_isLetter_22 : decode cX9_isLetter 22 = .ok (.iconst 1, 1) := by decide +kernel
theorem dX9_isLetter_23 : decode cX9_isLetter 23 = .ok (.goto 4, 3) := by decide +kernel
theorem dX9_isLetter_26 : decode cX9_isLetter 26 = .ok (.iconst 0, 1) := by decide +kernel
theorem dX9_isLetter_27 : decode cX9_isLetter 27 = .ok (.ireturn, 1) := by decide +kernel
theorem dX9_isDigit_0 : decode cX9_isDigit 0 = .ok (.aload_n 0, 1) := by decide +kernel
theorem dX9_isDigit_1 : decode cX9_isDigit 1 = .ok (.getfield 9, 3) := by decide +kernel
theorem dX9_isDigit_4 : decode cX9_isDigit 4 = .ok (.iload_n 1, 1) := by decide +kernel
theorem dX9_isDigit_5 : decode cX9_isDigit 5 = .ok (.baload, 1) := by decide +kernel
theorem dX9_isDigit_6 : decode cX9_isDigit 6 = .ok (.bipush 48, 2) := by decide +kernel
theorem dX9_isDigit_8 : decode cX9_isDigit 8 = .ok (.if_icmp .lt 18, 3) := by decide +kernel
theorem dX9_isDigit_11 : decode cX9_isDigit 11 = .ok (.aload_n 0, 1) := by decide +kernel
theorem dX9_isDigit_12 : decode cX9_isDigit 12 = .ok (.getfield 9, 3) := by decide +kernel
theorem dX9_isDigit_15 : decode cX9_isDigit 15 = .ok (.iload_n 1, 1) := by decide +kernel
theorem dX9_isDigit_16 : decode cX9_isDigit 16 = .ok (.baload, 1) := by decide +kernel
theorem dX9_isDigit_17 : decode cX9_isDigit 17 = .ok (.bipush 57, 2) := by decide +kernel
theorem dX9_isDigit_19 : decode cX9_isDigit 19 = .ok (.if_icmp .gt 7, 3) := by decide +kernel
theorem dX9_isDigit_22 : decode cX9_isDigit 22 = .ok (.iconst 1, 1) := by decide +kernel
theorem dX9_isDigit_23 : decode cX9_isDigit 23 = .ok (.goto 4, 3) := by decide +kernel
theorem dX9_isDigit_26 : decode cX9_isDigit 26 = .ok (.iconst 0, 1) := by decide +kernel
theorem dX9_isDigit_27 : decode cX9_isDigit 27 = .ok (.ireturn, 1) := by decide +kernel
theorem dX10_init_0 : decode cX10_init 0 = .ok (.aload_n 0, 1) := by decide +kernel
theorem dX10_init_1 : decode cX10_init 1 = .ok (.invokespecial 3, 3) := by decide +kernel
theorem dX10_init_4 : decode cX10_init 4 = .ok (.aload_n 0, 1) := by decide +kernel
theorem dX10_init_5 : decode cX10_init 5 = .ok (.bipush 6, 2) := by decide +kernel
theorem dX10_init_7 : decode cX10_init 7 = .ok (.newarray .int, 2) := by decide +kernel
theorem dX10_init_9 : decode cX10_init 9 = .ok (.putfield 9, 3) := by decide +kernel
theorem dX10_init_12 : decode cX10_init 12 = .ok (.aload_n 0, 1) := by decide +kernel
theorem dX10_init_13 : decode cX10_init 13 = .ok (.bipush 6, 2) := by decide +kernel
theorem dX10_init_15 : decode cX10_init 15 = .ok (.newarray .int, 2) := by decide +kernel
theorem dX10_init_17 : decode cX10_init 17 = .ok (.putfield 15, 3) := by decide +kernel
theorem dX10_init_20 : decode cX10_init 20 = .ok (.aload_n 0, 1) := by decide +kernel
theorem dX10_init_21 : decode cX10_init 21 = .ok (.bipush 6, 2) := by decide +kernel
theorem dX10_init_23 : decode cX10_init 23 = .ok (.newarray .int, 2) := by decide +kernel
theorem dX10_init_25 : decode cX10_init 25 = .ok (.putfield 18, 3) := by decide +kernel
theorem dX10_init_28 : decode cX10_init 28 = .ok (.aload_n 0, 1) := by decide +kernel
theorem dX10_init_29 : decode cX10_init 29 = .ok (.bipush 6, 2) := by decide +kernel
theorem dX10_init_31 : decode cX10_init 31 = .ok (.newarray .int, 2) := by decide +kernel
theorem dX10_init_33 : decode cX10_init 33 = .ok (.putfield 21, 3) := by decide +kernel
theorem dX10_init_36 : decode cX10_init 36 = .ok (.aload_n 0, 1) := by decide +kernel
theorem dX10_init_37 : decode cX10_init 37 = .ok (.bipush 6, 2) := by decide +kernel
theorem dX10_init_39 : decode cX10_init 39 = .ok (.newarray .int, 2) := by decide +kernel
theorem dX10_init_41 : decode cX10_init 41 = .ok (.putfield 24, 3) := by decide +kernel
theorem dX10_init_44 : decode cX10_init 44 = .ok (.aload_n 0, 1) := by decide +kernel
theorem dX10_init_45 : decode cX10_init 45 = .ok (.bipush 6, 2) := by decide +kernel
theorem dX10_init_47 : decode cX10_init 47 = .ok (.newarray .int, 2) := by decide +kernel
theorem dX10_init_49 : decode cX10_init 49 = .ok (.putfield 27, 3) := by decide +kernel
theorem dX10_init_52 : decode cX10_init 52 = .ok (.aload_n 0, 1) := by decide +kernel
theorem dX10_init_53 : decode cX10_init 53 = .ok (.bipush 6, 2) := by decide +kernel
theorem dX10_init_55 : decode cX10_init 55 = .ok (.newarray .int, 2) := by decide +kernel
theorem dX10_init_57 : decode cX10_init 57 = .ok (.putfield 30, 3) := by decide +kernel
theorem dX10_init_60 : decode cX10_init 60 = .ok (.aload_n 0, 1) := by decide +kernel
theorem dX10_init_61 : decode cX10_init 61 = .ok (.bipush 36, 2) := by decide +kernel
theorem dX10_init_63 : decode cX10_init 63 = .ok (.newarray .int, 2) := by decide +kernel
theorem dX10_init_65 : decode cX10_init 65 = .ok (.putfield 33, 3) := by decide +kernel
theorem dX10_init_68 : decode cX10_init 68 = .ok (.aload_n 0, 1) := by decide +kernel
theorem dX10_init_69 : decode cX10_init 69 = .ok (.new 36, 3) := by decide +kernel
theorem dX10_init_72 : decode cX10_init 72 = .ok (.dup, 1) := by decide +kernel
theorem dX10_init_73 : decode cX10_init 73 = .ok (.invokespecial 38, 3) := by decide +kernel
theorem dX10_init_76 : decode cX10_init 76 = .ok (.putfield 39, 3) := by decide +kernel
theorem dX10_init_79 : decode cX10_init 79 = .ok (.aload_n 0, 1) := by decide +kernel
theorem dX10_init_80 : decode cX10_init 80 = .ok (.new 36, 3) := by decide +kernel
theorem dX10_init_83 : decode cX10_init 83 = .ok (.dup, 1) := by decide +kernel
theorem dX10_init_84 : decode cX10_init 84 = .ok (.invokespecial 38, 3) := by decide +kernel
theorem dX10_init_87 : decode cX10_init 87 = .ok (.putfield 43, 3) := by decide +kernel
theorem dX10_init_90 : decode cX10_init 90 = .ok (.aload_n 0, 1) := by decide +kernel
theorem dX10_init_91 : decode cX10_init 91 = .ok (.new 36, 3) := by decide +kernel
theorem dX10_init_94 : decode cX10_init 94 = .ok (.dup, 1) := by decide +kernel
theorem dX10_init_95 : decode cX10_init 95 = .ok (.invokespecial 38, 3) := by decide +kernel
theorem dX10_init_98 : decode cX10_init 98 = .ok (.putfield 46, 3) := by decide +kernel
theorem dX10_init_101 : decode cX10_init 101 = .ok (.aload_n 0, 1) := by decide +kernel
theorem dX10_init_102 : decode cX10_init 102 = .ok (.bipush 10, 2) := by decide +kernel
theorem dX10_init_104 : decode cX10_init 104 = .ok (.putfield 49, 3) := by decide +kernel
theorem dX10_init_107 : decode cX10_init 107 = .ok (.return_, 1) := by decide +kernel
theorem dX10_forget_0 : decode cX10_forget 0 = .ok (.aload_n 0, 1) := by decide +kernel
theorem dX10_forget_1 : decode cX10_forget 1 = .ok (.getfield 33, 3) := by decide +kernel
theorem dX10_forget_4 : decode cX10_forget 4 = .ok (.iconst 0, 1) := by decide +kernel
theorem dX10_forget_5 : decode cX10_forget 5 = .ok (.invokestatic 53, 3) := by decide +kernel
theorem dX10_forget_8 : decode cX10_forget 8 = .ok (.aload_n 0, 1) := by decide +kernel
theorem dX10_forget_9 : decode cX10_forget 9 = .ok (.getfield 39, 3) := by decide +kernel
theorem dX10_forget_12 : decode cX10_forget 12 = .ok (.invokevirtual 59, 3) := by decide +kernel
theorem dX10_forget_15 : decode cX10_forget 15 = .ok (.aload_n 0, 1) := by decide +kernel
theorem dX10_forget_16 : decode cX10_forget 16 = .ok (.getfield 43, 3) := by decide +kernel
theorem dX10_forget_19 : decode cX10_forget 19 = .ok (.invokevirtual 59, 3) := by decide +kernel
theorem dX10_forget_22 : decode cX10_forget 22 = .ok (.aload_n 0, 1) := by decide +kernel
theorem dX10_forget_23 : decode cX10_forget 23 = .ok (.getfield 46, 3) := by decide +kernel
theorem dX10_forget_26 : decode cX10_forget 26 = .ok (.invokevirtual 59, 3) := by decide +kernel
theorem dX10_forget_29 : decode cX10_forget 29 = .ok (.aload_n 0, 1) := by decide +kernel
theorem dX10_forget_30 : decode cX10_forget 30 = .ok (.bipush 10, 2) := by decide +kernel
theorem dX10_forget_32 : decode cX10_forget 32 = .ok (.putfield 49, 3) := by decide +kernel
theorem dX10_forget_35 : decode cX10_forget 35 = .ok (.aload_n 0, 1) := by decide +kernel
theorem dX10_forget_36 : decode cX10_forget 36 = .ok (.iconst 0, 1) := by decide +kernel
theorem dX10_forget_37 : decode cX10_forget 37 = .ok (.putfield 62, 3) := by decide +kernel
theorem dX10_forget_40 : decode cX10_forget 40 = .ok (.aload_n 0, 1) := by decide +kernel
theorem dX10_forget_41 : decode cX10_forget 41 = .ok (.iconst 0, 1) := by decide +kernel
theorem dX10_forget_42 : decode cX10_forget 42 = .ok (.putfield 65, 3) := by decide +kernel
theorem dX10_forget_45 : decode cX10_forget 45 = .ok (.aload_n 0, 1) := by decide +kernel
theorem dX10_forget_46 : decode cX10_forget 46 = .ok (.iconst 0, 1) := by decide +kernel
theorem dX10_forget_47 : decode cX10_forget 47 = .ok (.putfield 68, 3) := by decide +kernel
theorem dX10_forget_50 : decode cX10_forget 50 = .ok (.return_, 1) := by decide +kernel
theorem dX10_rests_0 : decode cX10_rests 0 = .ok (.iload_n 2, 1) := by decide +kernel
theorem dX10_rests_1 : decode cX10_rests 1 = .ok (.aload_n 0, 1) := by decide +kernel
theorem dX10_rests_2 : decode cX10_rests 2 = .ok (.getfield 49, 3) := by decide +kernel
theorem dX10_rests_5 : decode cX10_rests 5 = .ok (.aload_n 0, 1) := by decide +kernel
theorem dX10_rests_6 : decode cX10_rests 6 = .ok (.getfield 24, 3) := by decide +kernel
theorem dX10_rests_9 : decode cX10_rests 9 = .ok (.iload_n 1, 1) := by decide +kernel
theorem dX10_rests_10 : decode cX10_rests 10 = .ok (.iaload, 1) := by decide +kernel
theorem dX10_rests_11 : decode cX10_rests 11 = .ok (.isub, 1) := by decide +kernel
theorem dX10_rests_12 : decode cX10_rests 12 = .ok (.if_icmp .lt 7, 3) := by decide +kernel
theorem dX10_rests_15 : decode cX10_rests 15 = .ok (.iconst 1, 1) := by decide +kernel
theorem dX10_rests_16 : decode cX10_rests 16 = .ok (.goto 4, 3) := by decide +kernel
theorem dX10_rests_19 : decode cX10_rests 19 = .ok (.iconst 0, 1) := by decide +kernel
theorem dX10_rests_20 : decode cX10_rests 20 = .ok (.ireturn, 1) := by decide +kernel
theorem dX10_isOpen_0 : decode cX10_isOpen 0 = .ok (.iload_n 2, 1) := by decide +kernel
theorem dX10_isOpen_1 : decode cX10_isOpen 1 = .ok (.aload_n 0, 1) := by decide +kernel
theorem dX10_isOpen_2 : decode cX10_isOpen 2 = .ok (.getfield 15, 3) := by decide +kernel
theorem dX10_isOpen_5 : decode cX10_isOpen 5 = .ok (.iload_n 1, 1) := by decide +kernel
theorem dX10_isOpen_6 : decode cX10_isOpen 6 = .ok (.iaload, 1) := by decide +kernel
theorem dX10_isOpen_7 : decode cX10_isOpen 7 = .ok (.if_icmp .lt 17, 3) := by decide +kernel
theorem dX10_isOpen_10 : decode cX10_isOpen 10 = .ok (.iload_n 2, 1) := by decide +kernel
theorem dX10_isOpen_11 : decode cX10_isOpen 11 = .ok (.aload_n 0, 1) := by decide +kernel
theorem dX10_isOpen_12 : decode cX10_isOpen 12 = .ok (.getfield 18, 3) := by decide +kernel
theorem dX10_isOpen_15 : decode cX10_isOpen 15 = .ok (.iload_n 1, 1) := by decide +kernel
theorem dX10_isOpen_16 : decode cX10_isOpen 16 = .ok (.iaload, 1) := by decide +kernel
theorem dX10_isOpen_17 : decode cX10_isOpen 17 = .ok (.if_icmp .ge 7, 3) := by decide +kernel
theorem dX10_isOpen_20 : decode cX10_isOpen 20 = .ok (.iconst 1, 1) := by decide +kernel
theorem dX10_isOpen_21 : decode cX10_isOpen 21 = .ok (.goto 4, 3) := by decide +kernel
theorem dX10_isOpen_24 : decode cX10_isOpen 24 = .ok (.iconst 0, 1) := by decide +kernel
theorem dX10_isOpen_25 : decode cX10_isOpen 25 = .ok (.ireturn, 1) := by decide +kernel
theorem dX11_init_0 : decode cX11_init 0 = .ok (.aload_n 0, 1) := by decide +kernel
theorem dX11_init_1 : decode cX11_init 1 = .ok (.invokespecial 1, 3) := by decide +kernel
theorem dX11_init_4 : decode cX11_init 4 = .ok (.aload_n 0, 1) := by decide +kernel
theorem dX11_init_5 : decode cX11_init 5 = .ok (.sipush 1600, 3) := by decide +kernel
theorem dX11_init_8 : decode cX11_init 8 = .ok (.newarray .byte, 2) := by decide +kernel
theorem dX11_init_10 : decode cX11_init 10 = .ok (.putfield 9, 3) := by decide +kernel
theorem dX11_init_13 : decode cX11_init 13 = .ok (.aload_n 0, 1) := by decide +kernel
theorem dX11_init_14 : decode cX11_init 14 = .ok (.new 13, 3) := by decide +kernel
theorem dX11_init_17 : decode cX11_init 17 = .ok (.dup, 1) := by decide +kernel
theorem dX11_init_18 : decode cX11_init 18 = .ok (.invokespecial 15, 3) := by decide +kernel
theorem dX11_init_21 : decode cX11_init 21 = .ok (.putfield 16, 3) := by decide +kernel
theorem dX11_init_24 : decode cX11_init 24 = .ok (.aload_n 0, 1) := by decide +kernel
theorem dX11_init_25 : decode cX11_init 25 = .ok (.new 20, 3) := by decide +kernel
theorem dX11_init_28 : decode cX11_init 28 = .ok (.dup, 1) := by decide +kernel
theorem dX11_init_29 : decode cX11_init 29 = .ok (.invokespecial 22, 3) := by decide +kernel
theorem dX11_init_32 : decode cX11_init 32 = .ok (.putfield 23, 3) := by decide +kernel
theorem dX11_init_35 : decode cX11_init 35 = .ok (.aload_n 0, 1) := by decide +kernel
theorem dX11_init_36 : decode cX11_init 36 = .ok (.new 27, 3) := by decide +kernel
theorem dX11_init_39 : decode cX11_init 39 = .ok (.dup, 1) := by decide +kernel
theorem dX11_init_40 : decode cX11_init 40 = .ok (.invokespecial 29, 3) := by decide +kernel
theorem dX11_init_43 : decode cX11_init 43 = .ok (.putfield 30, 3) := by decide +kernel
theorem dX11_init_46 : decode cX11_init 46 = .ok (.aload_n 0, 1) := by decide +kernel
theorem dX11_init_47 : decode cX11_init 47 = .ok (.new 34, 3) := by decide +kernel
theorem dX11_init_50 : decode cX11_init 50 = .ok (.dup, 1) := by decide +kernel
theorem dX11_init_51 : decode cX11_init 51 = .ok (.invokespecial 36, 3) := by decide +kernel
theorem dX11_init_54 : decode cX11_init 54 = .ok (.putfield 37, 3) := by decide +kernel
theorem dX11_init_57 : decode cX11_init 57 = .ok (.aload_n 0, 1) := by decide +kernel
theorem dX11_init_58 : decode cX11_init 58 = .ok (.new 41, 3) := by decide +kernel
theorem dX11_init_61 : decode cX11_init 61 = .ok (.dup, 1) := by decide +kernel
theorem dX11_init_62 : decode cX11_init 62 = .ok (.invokespecial 43, 3) := by decide +kernel
theorem dX11_init_65 : decode cX11_init 65 = .ok (.putfield 44, 3) := by decide +kernel
theorem dX11_init_68 : decode cX11_init 68 = .ok (.aload_n 0, 1) := by decide +kernel
theorem dX11_init_69 : decode cX11_init 69 = .ok (.new 48, 3) := by decide +kernel
theorem dX11_init_72 : decode cX11_init 72 = .ok (.dup, 1) := by decide +kernel
theorem dX11_init_73 : decode cX11_init 73 = .ok (.invokespecial 50, 3) := by decide +kernel
theorem dX11_init_76 : decode cX11_init 76 = .ok (.putfield 51, 3) := by decide +kernel
theorem dX11_init_79 : decode cX11_init 79 = .ok (.aload_n 0, 1) := by decide +kernel
theorem dX11_init_80 : decode cX11_init 80 = .ok (.new 55, 3) := by decide +kernel
theorem dX11_init_83 : decode cX11_init 83 = .ok (.dup, 1) := by decide +kernel
theorem dX11_init_84 : decode cX11_init 84 = .ok (.invokespecial 57, 3) := by decide +kernel
theorem dX11_init_87 : decode cX11_init 87 = .ok (.putfield 58, 3) := by decide +kernel
theorem dX11_init_90 : decode cX11_init 90 = .ok (.aload_n 0, 1) := by decide +kernel
theorem dX11_init_91 : decode cX11_init 91 = .ok (.new 62, 3) := by decide +kernel
theorem dX11_init_94 : decode cX11_init 94 = .ok (.dup, 1) := by decide +kernel
theorem dX11_init_95 : decode cX11_init 95 = .ok (.invokespecial 64, 3) := by decide +kernel
theorem dX11_init_98 : decode cX11_init 98 = .ok (.putfield 65, 3) := by decide +kernel
theorem dX11_init_101 : decode cX11_init 101 = .ok (.aload_n 0, 1) := by decide +kernel
theorem dX11_init_102 : decode cX11_init 102 = .ok (.sipush 189, 3) := by decide +kernel
theorem dX11_init_105 : decode cX11_init 105 = .ok (.newarray .int, 2) := by decide +kernel
theorem dX11_init_107 : decode cX11_init 107 = .ok (.putfield 69, 3) := by decide +kernel
theorem dX11_init_110 : decode cX11_init 110 = .ok (.aload_n 0, 1) := by decide +kernel
theorem dX11_init_111 : decode cX11_init 111 = .ok (.iconst 3, 1) := by decide +kernel
theorem dX11_init_112 : decode cX11_init 112 = .ok (.newarray .boolean, 2) := by decide +kernel
theorem dX11_init_114 : decode cX11_init 114 = .ok (.putfield 73, 3) := by decide +kernel
theorem dX11_init_117 : decode cX11_init 117 = .ok (.aload_n 0, 1) := by decide +kernel
theorem dX11_init_118 : decode cX11_init 118 = .ok (.bipush 6, 2) := by decide +kernel
theorem dX11_init_120 : decode cX11_init 120 = .ok (.newarray .int, 2) := by decide +kernel
theorem dX11_init_122 : decode cX11_init 122 = .ok (.putfield 77, 3) := by decide +kernel
theorem dX11_init_125 : decode cX11_init 125 = .ok (.aload_n 0, 1) := by decide +kernel
theorem dX11_init_126 : decode cX11_init 126 = .ok (.new 80, 3) := by decide +kernel
theorem dX11_init_129 : decode cX11_init 129 = .ok (.dup, 1) := by decide +kernel
theorem dX11_init_130 : decode cX11_init 130 = .ok (.invokespecial 82, 3) := by decide +kernel
theorem dX11_init_133 : decode cX11_init 133 = .ok (.putfield 83, 3) := by decide +kernel
theorem dX11_init_136 : decode cX11_init 136 = .ok (.aload_n 0, 1) := by decide +kernel
theorem dX11_init_137 : decode cX11_init 137 = .ok (.iconst 0, 1) := by decide +kernel
theorem dX11_init_138 : decode cX11_init 138 = .ok (.putfield 87, 3) := by decide +kernel
theorem dX11_init_141 : decode cX11_init 141 = .ok (.aload_n 0, 1) := by decide +kernel
theorem dX11_init_142 : decode cX11_init 142 = .ok (.iconst 0, 1) := by decide +kernel
theorem dX11_init_143 : decode cX11_init 143 = .ok (.putfield 91, 3) := by decide +kernel
theorem dX11_init_146 : decode cX11_init 146 = .ok (.return_, 1) := by decide +kernel
theorem dX11_feed_0 : decode cX11_feed 0 = .ok (.aload_n 0, 1) := by decide +kernel
theorem dX11_feed_1 : decode cX11_feed 1 = .ok (.getfield 87, 3) := by decide +kernel
theorem dX11_feed_4 : decode cX11_feed 4 = .ok (.bipush 20, 2) := by decide +kernel
theorem dX11_feed_6 : decode cX11_feed 6 = .ok (.iadd, 1) := by decide +kernel
theorem dX11_feed_7 : decode cX11_feed 7 = .ok (.sipush 1600, 3) := by decide +kernel
theorem dX11_feed_10 : decode cX11_feed 10 = .ok (.if_icmp .le 5, 3) := by decide +kernel
theorem dX11_feed_13 : decode cX11_feed 13 = .ok (.iconst (-1), 1) := by decide +kernel
theorem dX11_feed_14 : decode cX11_feed 14 = .ok (.ireturn, 1) := by decide +kernel
theorem dX11_feed_15 : decode cX11_feed 15 = .ok (.aload_n 0, 1) := by decide +kernel
theorem dX11_feed_16 : decode cX11_feed 16 = .ok (.iload_n 1, 1) := by decide +kernel
theorem dX11_feed_17 : decode cX11_feed 17 = .ok (.invokevirtual 94, 3) := by decide +kernel
theorem dX11_feed_20 : decode cX11_feed 20 = .ok (.aload_n 0, 1) := by decide +kernel
theorem dX11_feed_21 : decode cX11_feed 21 = .ok (.iload_n 2, 1) := by decide +kernel
theorem dX11_feed_22 : decode cX11_feed 22 = .ok (.invokevirtual 94, 3) := by decide +kernel
theorem dX11_feed_25 : decode cX11_feed 25 = .ok (.aload_n 0, 1) := by decide +kernel
theorem dX11_feed_26 : decode cX11_feed 26 = .ok (.iload_n 3, 1) := by decide +kernel
theorem dX11_feed_27 : decode cX11_feed 27 = .ok (.invokevirtual 94, 3) := by decide +kernel
theorem dX11_feed_30 : decode cX11_feed 30 = .ok (.aload_n 0, 1) := by decide +kernel
theorem dX11_feed_31 : decode cX11_feed 31 = .ok (.iload 4, 2) := by decide +kernel
theorem dX11_feed_33 : decode cX11_feed 33 = .ok (.invokevirtual 94, 3) := by decide +kernel
theorem dX11_feed_36 : decode cX11_feed 36 = .ok (.aload_n 0, 1) := by decide +kernel
theorem dX11_feed_37 : decode cX11_feed 37 = .ok (.iload 5, 2) := by decide +kernel
theorem dX11_feed_39 : decode cX11_feed 39 = .ok (.invokevirtual 94, 3) := by decide +kernel
theorem dX11_feed_42 : decode cX11_feed 42 = .ok (.aload_n 0, 1) := by decide +kernel
theorem dX11_feed_43 : decode cX11_feed 43 = .ok (.getfield 87, 3) := by decide +kernel
theorem dX11_feed_46 : decode cX11_feed 46 = .ok (.ireturn, 1) := by decide +kernel
theorem dX11_end_0 : decode cX11_end 0 = .ok (.iload_n 1, 1) := by decide +kernel
theorem dX11_end_1 : decode cX11_end 1 = .ok (.ifCond .lt 11, 3) := by decide +kernel
theorem dX11_end_4 : decode cX11_end 4 = .ok (.iload_n 1, 1) := by decide +kernel
theorem dX11_end_5 : decode cX11_end 5 = .ok (.aload_n 0, 1) := by decide +kernel
theorem dX11_end_6 : decode cX11_end 6 = .ok (.getfield 87, 3) := by decide +kernel
theorem dX11_end_9 : decode cX11_end 9 = .ok (.if_icmp .le 5, 3) := by decide +kernel
theorem dX11_end_12 : decode cX11_end 12 = .ok (.iconst (-1), 1) := by decide +kernel
theorem dX11_end_13 : decode cX11_end 13 = .ok (.ireturn, 1) := by decide +kernel
theorem dX11_end_14 : decode cX11_end 14 = .ok (.aload_n 0, 1) := by decide +kernel
theorem dX11_end_15 : decode cX11_end 15 = .ok (.iload_n 1, 1) := by decide +kernel
theorem dX11_end_16 : decode cX11_end 16 = .ok (.putfield 87, 3) := by decide +kernel
theorem dX11_end_19 : decode cX11_end 19 = .ok (.iload_n 1, 1) := by decide +kernel
theorem dX11_end_20 : decode cX11_end 20 = .ok (.ireturn, 1) := by decide +kernel
theorem dX11_town_0 : decode cX11_town 0 = .ok (.aload_n 0, 1) := by decide +kernel
theorem dX11_town_1 : decode cX11_town 1 = .ok (.getfield 16, 3) := by decide +kernel
theorem dX11_town_4 : decode cX11_town 4 = .ok (.aload_n 0, 1) := by decide +kernel
theorem dX11_town_5 : decode cX11_town 5 = .ok (.getfield 9, 3) := by decide +kernel
theorem dX11_town_8 : decode cX11_town 8 = .ok (.aload_n 0, 1) := by decide +kernel
theorem dX11_town_9 : decode cX11_town 9 = .ok (.getfield 87, 3) := by decide +kernel
theorem dX11_town_12 : decode cX11_town 12 = .ok (.invokevirtual 98, 3) := by decide +kernel
theorem dX11_town_15 : decode cX11_town 15 = .ok (.istore_n 1, 1) := by decide +kernel
theorem dX11_town_16 : decode cX11_town 16 = .ok (.aload_n 0, 1) := by decide +kernel
theorem dX11_town_17 : decode cX11_town 17 = .ok (.iconst 0, 1) := by decide +kernel
theorem dX11_town_18 : decode cX11_town 18 = .ok (.putfield 87, 3) := by decide +kernel
theorem dX11_town_21 : decode cX11_town 21 = .ok (.iload_n 1, 1) := by decide +kernel
theorem dX11_town_22 : decode cX11_town 22 = .ok (.ifCond .ne 5, 3) := by decide +kernel
theorem dX11_town_25 : decode cX11_town 25 = .ok (.iconst (-1), 1) := by decide +kernel
theorem dX11_town_26 : decode cX11_town 26 = .ok (.ireturn, 1) := by decide +kernel
theorem dX11_town_27 : decode cX11_town 27 = .ok (.aload_n 0, 1) := by decide +kernel
theorem dX11_town_28 : decode cX11_town 28 = .ok (.aload_n 0, 1) := by decide +kernel
theorem dX11_town_29 : decode cX11_town 29 = .ok (.getfield 16, 3) := by decide +kernel
theorem dX11_town_32 : decode cX11_town 32 = .ok (.aload_n 0, 1) := by decide +kernel
theorem dX11_town_33 : decode cX11_town 33 = .ok (.getfield 83, 3) := by decide +kernel
theorem dX11_town_36 : decode cX11_town 36 = .ok (.invokevirtual 102, 3) := by decide +kernel
theorem dX11_town_39 : decode cX11_town 39 = .ok (.putfield 83, 3) := by decide +kernel
theorem dX11_town_42 : decode cX11_town 42 = .ok (.aload_n 0, 1) := by decide +kernel
theorem dX11_town_43 : decode cX11_town 43 = .ok (.getfield 23, 3) := by decide +kernel
theorem dX11_town_46 : decode cX11_town 46 = .ok (.aload_n 0, 1) := by decide +kernel
theorem dX11_town_47 : decode cX11_town 47 = .ok (.getfield 83, 3) := by decide +kernel
theorem dX11_town_50 : decode cX11_town 50 = .ok (.invokevirtual 106, 3) := by decide +kernel
theorem dX11_town_53 : decode cX11_town 53 = .ok (.aload_n 0, 1) := by decide +kernel
theorem dX11_town_54 : decode cX11_town 54 = .ok (.getfield 30, 3) := by decide +kernel
theorem dX11_town_57 : decode cX11_town 57 = .ok (.aload_n 0, 1) := by decide +kernel
theorem dX11_town_58 : decode cX11_town 58 = .ok (.getfield 23, 3) := by decide +kernel
theorem dX11_town_61 : decode cX11_town 61 = .ok (.invokevirtual 110, 3) := by decide +kernel
theorem dX11_town_64 : decode cX11_town 64 = .ok (.aload_n 0, 1) := by decide +kernel
theorem dX11_town_65 : decode cX11_town 65 = .ok (.getfield 65, 3) := by decide +kernel
theorem dX11_town_68 : decode cX11_town 68 = .ok (.invokevirtual 113, 3) := by decide +kernel
theorem dX11_town_71 : decode cX11_town 71 = .ok (.aload_n 0, 1) := by decide +kernel
theorem dX11_town_72 : decode cX11_town 72 = .ok (.iconst 0, 1) := by decide +kernel
theorem dX11_town_73 : decode cX11_town 73 = .ok (.putfield 91, 3) := by decide +kernel
theorem dX11_town_76 : decode cX11_town 76 = .ok (.iconst 0, 1) := by decide +kernel
theorem dX11_town_77 : decode cX11_town 77 = .ok (.istore_n 2, 1) := by decide +kernel
theorem dX11_town_78 : decode cX11_town 78 = .ok (.iload_n 2, 1) := by decide +kernel
theorem dX11_town_79 : decode cX11_town 79 = .ok (.iconst 3, 1) := by decide +kernel
theorem dX11_town_80 : decode cX11_town 80 = .ok (.if_icmp .ge 16, 3) := by decide +kernel
theorem dX11_town_83 : decode cX11_town 83 = .ok (.aload_n 0, 1) := by decide +kernel
theorem dX11_town_84 : decode cX11_town 84 = .ok (.getfield 73, 3) := by decide +kernel
theorem dX11_town_87 : decode cX11_town 87 = .ok (.iload_n 2, 1) := by decide +kernel
theorem dX11_town_88 : decode cX11_town 88 = .ok (.iconst 0, 1) := by decide +kernel
theorem dX11_town_89 : decode cX11_town 89 = .ok (.bastore, 1) := by decide +kernel
theorem dX11_town_90 : decode cX11_town 90 = .ok (.iinc 2 1, 3) := by decide +kernel
theorem dX11_town_93 : decode cX11_town 93 = .ok (.goto (-15), 3) := by decide +kernel
theorem dX11_town_96 : decode cX11_town 96 = .ok (.aload_n 0, 1) := by decide +kernel
theorem dX11_town_97 : decode cX11_town 97 = .ok (.getfield 83, 3) := by decide +kernel
theorem dX11_town_100 : decode cX11_town 100 = .ok (.getfield 116, 3) := by decide +kernel
theorem dX11_town_103 : decode cX11_town 103 = .ok (.ireturn, 1) := by decide +kernel
theorem dX11_fault_0 : decode cX11_fault 0 = .ok (.iload_n 1, 1) := by decide +kernel
theorem dX11_fault_1 : decode cX11_fault 1 = .ok (.ifCond .ne 11, 3) := by decide +kernel
theorem dX11_fault_4 : decode cX11_fault 4 = .ok (.aload_n 0, 1) := by decide +kernel
theorem dX11_fault_5 : decode cX11_fault 5 = .ok (.getfield 16, 3) := by decide +kernel
theorem dX11_fault_8 : decode cX11_fault 8 = .ok (.getfield 119, 3) := by decide +kernel
theorem dX11_fault_11 : decode cX11_fault 11 = .ok (.ireturn, 1) := by decide +kernel
theorem dX11_fault_12 : decode cX11_fault 12 = .ok (.iload_n 1, 1) := by decide +kernel
theorem dX11_fault_13 : decode cX11_fault 13 = .ok (.iconst 1, 1) := by decide +kernel
theorem dX11_fault_14 : decode cX11_fault 14 = .ok (.if_icmp .ne 13, 3) := by decide +kernel
theorem dX11_fault_17 : decode cX11_fault 17 = .ok (.aload_n 0, 1) := by decide +kernel
theorem dX11_fault_18 : decode cX11_fault 18 = .ok (.getfield 16, 3) := by decide +kernel
theorem dX11_fault_21 : decode cX11_fault 21 = .ok (.getfield 122, 3) := by decide +kernel
theorem dX11_fault_24 : decode cX11_fault 24 = .ok (.goto 4, 3) := by decide +kernel
theorem dX11_fault_27 : decode cX11_fault 27 = .ok (.iconst (-1), 1) := by decide +kernel
theorem dX11_fault_28 : decode cX11_fault 28 = .ok (.ireturn, 1) := by decide +kernel
theorem dX11_person_0 : decode cX11_person 0 = .ok (.aload_n 0, 1) := by decide +kernel
theorem dX11_person_1 : decode cX11_person 1 = .ok (.iload_n 1, 1) := by decide +kernel
theorem dX11_person_2 : decode cX11_person 2 = .ok (.invokevirtual 125, 3) := by decide +kernel
theorem dX11_person_5 : decode cX11_person 5 = .ok (.ifCond .ne 6, 3) := by decide +kernel
theorem dX11_person_8 : decode cX11_person 8 = .ok (.bipush (-2), 2) := by decide +kernel
theorem dX11_person_10 : decode cX11_person 10 = .ok (.ireturn, 1) := by decide +kernel
theorem dX11_person_11 : decode cX11_person 11 = .ok (.iload_n 2, 1) := by decide +kernel
theorem dX11_person_12 : decode cX11_person 12 = .ok (.tableswitch 156 0 9 #[56, 66, 76, 86, 96, 106, 116, 126, 136, 146], 56) := by decide +kernel
theorem dX11_person_68 : decode cX11_person 68 = .ok (.aload_n 0, 1) := by decide +kernel
theorem dX11_person_69 : decode cX11_person 69 = .ok (.getfield 23, 3) := by decide +kernel
theorem dX11_person_72 : decode cX11_person 72 = .ok (.getfield 129, 3) := by decide +kernel
theorem dX11_person_75 : decode cX11_person 75 = .ok (.iload_n 1, 1) := by decide +kernel
theorem dX11_person_76 : decode cX11_person 76 = .ok (.iaload, 1) := by decide +kernel
theorem dX11_person_77 : decode cX11_person 77 = .ok (.ireturn, 1) := by decide +kernel
theorem dX11_person_78 : decode cX11_person 78 = .ok (.aload_n 0, 1) := by decide +kernel
theorem dX11_person_79 : decode cX11_person 79 = .ok (.getfield 23, 3) := by decide +kernel
theorem dX11_person_82 : decode cX11_person 82 = .ok (.getfield 132, 3) := by decide +kernel
theorem dX11_person_85 : decode cX11_person 85 = .ok (.iload_n 1, 1) := by decide +kernel
theorem dX11_person_86 : decode cX11_person 86 = .ok (.iaload, 1) := by decide +kernel
theorem dX11_person_87 : decode cX11_person 87 = .ok (.ireturn, 1) := by decide +kernel
theorem dX11_person_88 : decode cX11_person 88 = .ok (.aload_n 0, 1) := by decide +kernel
theorem dX11_person_89 : decode cX11_person 89 = .ok (.getfield 23, 3) := by decide +kernel
theorem dX11_person_92 : decode cX11_person 92 = .ok (.getfield 135, 3) := by decide +kernel
theorem dX11_person_95 : decode cX11_person 95 = .ok (.iload_n 1, 1) := by decide +kernel
theorem dX11_person_96 : decode cX11_person 96 = .ok (.iaload, 1) := by decide +kernel
theorem dX11_person_97 : decode cX11_person 97 = .ok (.ireturn, 1) := by decide +kernel
theorem dX11_person_98 : decode cX11_person 98 = .ok (.aload_n 0, 1) := by decide +kernel
theorem dX11_person_99 : decode cX11_person 99 = .ok (.getfield 23, 3) := by decide +kernel
theorem dX11_person_102 : decode cX11_person 102 = .ok (.getfield 138, 3) := by decide +kernel
theorem dX11_person_105 : decode cX11_person 105 = .ok (.iload_n 1, 1) := by decide +kernel
theorem dX11_person_106 : decode cX11_person 106 = .ok (.iaload, 1) := by decide +kernel
theorem dX11_person_107 : decode cX11_person 107 = .ok (.ireturn, 1) := by decide +kernel
theorem dX11_person_108 : decode cX11_person 108 = .ok (.aload_n 0, 1) := by decide +kernel
theorem dX11_person_109 : decode cX11_person 109 = .ok (.getfield 83, 3) := by decide +kernel
theorem dX11_person_112 : decode cX11_person 112 = .ok (.getfield 141, 3) := by decide +kernel
theorem dX11_person_115 : decode cX11_person 115 = .ok (.iload_n 1, 1) := by decide +kernel
theorem dX11_person_116 : decode cX11_person 116 = .ok (.iaload, 1) := by decide +kernel
theorem dX11_person_117 : decode cX11_person 117 = .ok (.ireturn, 1) := by decide +kernel
theorem dX11_person_118 : decode cX11_person 118 = .ok (.aload_n 0, 1) := by decide +kernel
theorem dX11_person_119 : decode cX11_person 119 = .ok (.getfield 83, 3) := by decide +kernel
theorem dX11_person_122 : decode cX11_person 122 = .ok (.getfield 144, 3) := by decide +kernel
theorem dX11_person_125 : decode cX11_person 125 = .ok (.iload_n 1, 1) := by decide +kernel
theorem dX11_person_126 : decode cX11_person 126 = .ok (.iaload, 1) := by decide +kernel
theorem dX11_person_127 : decode cX11_person 127 = .ok (.ireturn, 1) := by decide +kernel
theorem dX11_person_128 : decode cX11_person 128 = .ok (.aload_n 0, 1) := by decide +kernel
theorem dX11_person_129 : decode cX11_person 129 = .ok (.getfield 83, 3) := by decide +kernel
theorem dX11_person_132 : decode cX11_person 132 = .ok (.getfield 147, 3) := by decide +kernel
theorem dX11_person_135 : decode cX11_person 135 = .ok (.iload_n 1, 1) := by decide +kernel
theorem dX11_person_136 : decode cX11_person 136 = .ok (.iaload, 1) := by decide +kernel
theorem dX11_person_137 : decode cX11_person 137 = .ok (.ireturn, 1) := by decide +kernel
theorem dX11_person_138 : decode cX11_person 138 = .ok (.aload_n 0, 1) := by decide +kernel
theorem dX11_person_139 : decode cX11_person 139 = .ok (.getfield 83, 3) := by decide +kernel
theorem dX11_person_142 : decode cX11_person 142 = .ok (.getfield 150, 3) := by decide +kernel
theorem dX11_person_145 : decode cX11_person 145 = .ok (.iload_n 1, 1) := by decide +kernel
theorem dX11_person_146 : decode cX11_person 146 = .ok (.iaload, 1) := by decide +kernel
theorem dX11_person_147 : decode cX11_person 147 = .ok (.ireturn, 1) := by decide +kernel
theorem dX11_person_148 : decode cX11_person 148 = .ok (.aload_n 0, 1) := by decide +kernel
theorem dX11_person_149 : decode cX11_person 149 = .ok (.getfield 83, 3) := by decide +kernel
theorem dX11_person_152 : decode cX11_person 152 = .ok (.getfield 153, 3) := by decide +kernel
theorem dX11_person_155 : decode cX11_person 155 = .ok (.iload_n 1, 1) := by decide +kernel
theorem dX11_person_156 : decode cX11_person 156 = .ok (.iaload, 1) := by decide +kernel
theorem dX11_person_157 : decode cX11_person 157 = .ok (.ireturn, 1) := by decide +kernel
theorem dX11_person_158 : decode cX11_person 158 = .ok (.aload_n 0, 1) := by decide +kernel
theorem dX11_person_159 : decode cX11_person 159 = .ok (.getfield 83, 3) := by decide +kernel
theorem dX11_person_162 : decode cX11_person 162 = .ok (.getfield 156, 3) := by decide +kernel
theorem dX11_person_165 : decode cX11_person 165 = .ok (.iload_n 1, 1) := by decide +kernel
theorem dX11_person_166 : decode cX11_person 166 = .ok (.iaload, 1) := by decide +kernel
theorem dX11_person_167 : decode cX11_person 167 = .ok (.ireturn, 1) := by decide +kernel
theorem dX11_person_168 : decode cX11_person 168 = .ok (.bipush (-2), 2) := by decide +kernel
theorem dX11_person_170 : decode cX11_person 170 = .ok (.ireturn, 1) := by decide +kernel
theorem dX11_owed_0 : decode cX11_owed 0 = .ok (.aload_n 0, 1) := by decide +kernel
theorem dX11_owed_1 : decode cX11_owed 1 = .ok (.iload_n 1, 1) := by decide +kernel
theorem dX11_owed_2 : decode cX11_owed 2 = .ok (.iload_n 2, 1) := by decide +kernel
theorem dX11_owed_3 : decode cX11_owed 3 = .ok (.invokevirtual 159, 3) := by decide +kernel
theorem dX11_owed_6 : decode cX11_owed 6 = .ok (.ifCond .eq 19, 3) := by decide +kernel
theorem dX11_owed_9 : decode cX11_owed 9 = .ok (.aload_n 0, 1) := by decide +kernel
theorem dX11_owed_10 : decode cX11_owed 10 = .ok (.getfield 23, 3) := by decide +kernel
theorem dX11_owed_13 : decode cX11_owed 13 = .ok (.getfield 163, 3) := by decide +kernel
theorem dX11_owed_16 : decode cX11_owed 16 = .ok (.iload_n 1, 1) := by decide +kernel
theorem dX11_owed_17 : decode cX11_owed 17 = .ok (.iload_n 2, 1) := by decide +kernel
theorem dX11_owed_18 : decode cX11_owed 18 = .ok (.invokestatic 166, 3) := by decide +kernel
theorem dX11_owed_21 : decode cX11_owed 21 = .ok (.iaload, 1) := by decide +kernel
theorem dX11_owed_22 : decode cX11_owed 22 = .ok (.goto 4, 3) := by decide +kernel
theorem dX11_owed_25 : decode cX11_owed 25 = .ok (.iconst (-1), 1) := by decide +kernel
theorem dX11_owed_26 : decode cX11_owed 26 = .ok (.ireturn, 1) := by decide +kernel
theorem dX11_sum_0 : decode cX11_sum 0 = .ok (.aload_n 0, 1) := by decide +kernel
theorem dX11_sum_1 : decode cX11_sum 1 = .ok (.iload_n 1, 1) := by decide +kernel
theorem dX11_sum_2 : decode cX11_sum 2 = .ok (.invokevirtual 125, 3) := by decide +kernel
theorem dX11_sum_5 : decode cX11_sum 5 = .ok (.ifCond .ne 5, 3) := by decide +kernel
theorem dX11_sum_8 : decode cX11_sum 8 = .ok (.iconst (-1), 1) := by decide +kernel
theorem dX11_sum_9 : decode cX11_sum 9 = .ok (.ireturn, 1) := by decide +kernel
theorem dX11_sum_10 : decode cX11_sum 10 = .ok (.iload_n 2, 1) := by decide +kernel
theorem dX11_sum_11 : decode cX11_sum 11 = .ok (.ifCond .eq 14, 3) := by decide +kernel
theorem dX11_sum_14 : decode cX11_sum 14 = .ok (.aload_n 0, 1) := by decide +kernel
theorem dX11_sum_15 : decode cX11_sum 15 = .ok (.getfield 23, 3) := by decide +kernel
theorem dX11_sum_18 : decode cX11_sum 18 = .ok (.iload_n 1, 1) := by decide +kernel
theorem dX11_sum_19 : decode cX11_sum 19 = .ok (.invokevirtual 170, 3) := by decide +kernel
theorem dX11_sum_22 : decode cX11_sum 22 = .ok (.goto 11, 3) := by decide +kernel
theorem dX11_sum_25 : decode cX11_sum 25 = .ok (.aload_n 0, 1) := by decide +kernel
theorem dX11_sum_26 : decode cX11_sum 26 = .ok (.getfield 23, 3) := by decide +kernel
theorem dX11_sum_29 : decode cX11_sum 29 = .ok (.iload_n 1, 1) := by decide +kernel
theorem dX11_sum_30 : decode cX11_sum 30 = .ok (.invokevirtual 174, 3) := by decide +kernel
theorem dX11_sum_33 : decode cX11_sum 33 = .ok (.ireturn, 1) := by decide +kernel
theorem dX11_wet_0 : decode cX11_wet 0 = .ok (.iload_n 1, 1) := by decide +kernel
theorem dX11_wet_1 : decode cX11_wet 1 = .ok (.ifCond .lt 25, 3) := by decide +kernel
theorem dX11_wet_4 : decode cX11_wet 4 = .ok (.iload_n 1, 1) := by decide +kernel
theorem dX11_wet_5 : decode cX11_wet 5 = .ok (.sipush 999, 3) := by decide +kernel
theorem dX11_wet_8 : decode cX11_wet 8 = .ok (.if_icmp .gt 18, 3) := by decide +kernel
theorem dX11_wet_11 : decode cX11_wet 11 = .ok (.iload_n 2, 1) := by decide +kernel
theorem dX11_wet_12 : decode cX11_wet 12 = .ok (.ifCond .lt 14, 3) := by decide +kernel
theorem dX11_wet_15 : decode cX11_wet 15 = .ok (.iload_n 2, 1) := by decide +kernel
theorem dX11_wet_16 : decode cX11_wet 16 = .ok (.aload_n 0, 1) := by decide +kernel
theorem dX11_wet_17 : decode cX11_wet 17 = .ok (.getfield 83, 3) := by decide +kernel
theorem dX11_wet_20 : decode cX11_wet 20 = .ok (.getfield 177, 3) := by decide +kernel
theorem dX11_wet_23 : decode cX11_wet 23 = .ok (.if_icmp .lt 5, 3) := by decide +kernel
theorem dX11_wet_26 : decode cX11_wet 26 = .ok (.iconst (-1), 1) := by decide +kernel
theorem dX11_wet_27 : decode cX11_wet 27 = .ok (.ireturn, 1) := by decide +kernel
theorem dX11_wet_28 : decode cX11_wet 28 = .ok (.aload_n 0, 1) := by decide +kernel
theorem dX11_wet_29 : decode cX11_wet 29 = .ok (.getfield 37, 3) := by decide +kernel
theorem dX11_wet_32 : decode cX11_wet 32 = .ok (.aload_n 0, 1) := by decide +kernel
theorem dX11_wet_33 : decode cX11_wet 33 = .ok (.getfield 83, 3) := by decide +kernel
theorem dX11_wet_36 : decode cX11_wet 36 = .ok (.iload_n 1, 1) := by decide +kernel
theorem dX11_wet_37 : decode cX11_wet 37 = .ok (.iload_n 2, 1) := by decide +kernel
theorem dX11_wet_38 : decode cX11_wet 38 = .ok (.invokevirtual 180, 3) := by decide +kernel
theorem dX11_wet_41 : decode cX11_wet 41 = .ok (.ireturn, 1) := by decide +kernel
theorem dX11_pays_0 : decode cX11_pays 0 = .ok (.aload_n 0, 1) := by decide +kernel
theorem dX11_pays_1 : decode cX11_pays 1 = .ok (.iload_n 1, 1) := by decide +kernel
theorem dX11_pays_2 : decode cX11_pays 2 = .ok (.invokevirtual 125, 3) := by decide +kernel
theorem dX11_pays_5 : decode cX11_pays 5 = .ok (.ifCond .eq 22, 3) := by decide +kernel
theorem dX11_pays_8 : decode cX11_pays 8 = .ok (.aload_n 0, 1) := by decide +kernel
theorem dX11_pays_9 : decode cX11_pays 9 = .ok (.getfield 44, 3) := by decide +kernel
theorem dX11_pays_12 : decode cX11_pays 12 = .ok (.aload_n 0, 1) := by decide +kernel
theorem dX11_pays_13 : decode cX11_pays 13 = .ok (.getfield 83, 3) := by decide +kernel
theorem dX11_pays_16 : decode cX11_pays 16 = .ok (.aload_n 0, 1) := by decide +kernel
theorem dX11_pays_17 : decode cX11_pays 17 = .ok (.getfield 23, 3) := by decide +kernel
theorem dX11_pays_20 : decode cX11_pays 20 = .ok (.iload_n 1, 1) := by decide +kernel
theorem dX11_pays_21 : decode cX11_pays 21 = .ok (.invokevirtual 184, 3) := by decide +kernel
theorem dX11_pays_24 : decode cX11_pays 24 = .ok (.goto 4, 3) := by decide +kernel
theorem dX11_pays_27 : decode cX11_pays 27 = .ok (.iconst (-1), 1) := by decide +kernel
theorem dX11_pays_28 : decode cX11_pays 28 = .ok (.ireturn, 1) := by decide +kernel
theorem dX11_aim_0 : decode cX11_aim 0 = .ok (.aload_n 0, 1) := by decide +kernel
theorem dX11_aim_1 : decode cX11_aim 1 = .ok (.iload_n 1, 1) := by decide +kernel
theorem dX11_aim_2 : decode cX11_aim 2 = .ok (.invokevirtual 125, 3) := by decide +kernel
theorem dX11_aim_5 : decode cX11_aim 5 = .ok (.ifCond .eq 17, 3) := by decide +kernel
theorem dX11_aim_8 : decode cX11_aim 8 = .ok (.iload_n 2, 1) := by decide +kernel
theorem dX11_aim_9 : decode cX11_aim 9 = .ok (.iconst (-1), 1) := by decide +kernel
theorem dX11_aim_10 : decode cX11_aim 10 = .ok (.if_icmp .eq 15, 3) := by decide +kernel
theorem dX11_aim_13 : decode cX11_aim 13 = .ok (.aload_n 0, 1) := by decide +kernel
theorem dX11_aim_14 : decode cX11_aim 14 = .ok (.iload_n 1, 1) := by decide +kernel
theorem dX11_aim_15 : decode cX11_aim 15 = .ok (.iload_n 2, 1) := by decide +kernel
theorem dX11_aim_16 : decode cX11_aim 16 = .ok (.invokevirtual 159, 3) := by decide +kernel
theorem dX11_aim_19 : decode cX11_aim 19 = .ok (.ifCond .ne 6, 3) := by decide +kernel
theorem dX11_aim_22 : decode cX11_aim 22 = .ok (.bipush (-2), 2) := by decide +kernel
theorem dX11_aim_24 : decode cX11_aim 24 = .ok (.ireturn, 1) := by decide +kernel
theorem dX11_aim_25 : decode cX11_aim 25 = .ok (.aload_n 0, 1) := by decide +kernel
theorem dX11_aim_26 : decode cX11_aim 26 = .ok (.getfield 23, 3) := by decide +kernel
theorem dX11_aim_29 : decode cX11_aim 29 = .ok (.getfield 132, 3) := by decide +kernel
theorem dX11_aim_32 : decode cX11_aim 32 = .ok (.iload_n 1, 1) := by decide +kernel
theorem dX11_aim_33 : decode cX11_aim 33 = .ok (.iaload, 1) := by decide +kernel
theorem dX11_aim_34 : decode cX11_aim 34 = .ok (.istore_n 3, 1) := by decide +kernel
theorem dX11_aim_35 : decode cX11_aim 35 = .ok (.aload_n 0, 1) := by decide +kernel
theorem dX11_aim_36 : decode cX11_aim 36 = .ok (.getfield 23, 3) := by decide +kernel
theorem dX11_aim_39 : decode cX11_aim 39 = .ok (.getfield 132, 3) := by decide +kernel
theorem dX11_aim_42 : decode cX11_aim 42 = .ok (.iload_n 1, 1) := by decide +kernel
theorem dX11_aim_43 : decode cX11_aim 43 = .ok (.iload_n 2, 1) := by decide +kernel
theorem dX11_aim_44 : decode cX11_aim 44 = .ok (.iastore, 1) := by decide +kernel
theorem dX11_aim_45 : decode cX11_aim 45 = .ok (.aload_n 0, 1) := by decide +kernel
theorem dX11_aim_46 : decode cX11_aim 46 = .ok (.getfield 30, 3) := by decide +kernel
theorem dX11_aim_49 : decode cX11_aim 49 = .ok (.aload_n 0, 1) := by decide +kernel
theorem dX11_aim_50 : decode cX11_aim 50 = .ok (.getfield 23, 3) := by decide +kernel
theorem dX11_aim_53 : decode cX11_aim 53 = .ok (.invokevirtual 188, 3) := by decide +kernel
theorem dX11_aim_56 : decode cX11_aim 56 = .ok (.iload_n 3, 1) := by decide +kernel
theorem dX11_aim_57 : decode cX11_aim 57 = .ok (.ireturn, 1) := by decide +kernel
theorem dX11_stand_0 : decode cX11_stand 0 = .ok (.aload_n 0, 1) := by decide +kernel
theorem dX11_stand_1 : decode cX11_stand 1 = .ok (.iload_n 1, 1) := by decide +kernel
theorem dX11_stand_2 : decode cX11_stand 2 = .ok (.invokevirtual 125, 3) := by decide +kernel
theorem dX11_stand_5 : decode cX11_stand 5 = .ok (.ifCond .eq 11, 3) := by decide +kernel
theorem dX11_stand_8 : decode cX11_stand 8 = .ok (.aload_n 0, 1) := by decide +kernel
theorem dX11_stand_9 : decode cX11_stand 9 = .ok (.iload_n 2, 1) := by decide +kernel
theorem dX11_stand_10 : decode cX11_stand 10 = .ok (.invokevirtual 125, 3) := by decide +kernel
theorem dX11_stand_13 : decode cX11_stand 13 = .ok (.ifCond .ne 5, 3) := by decide +kernel
theorem dX11_stand_16 : decode cX11_stand 16 = .ok (.iconst (-1), 1) := by decide +kernel
theorem dX11_stand_17 : decode cX11_stand 17 = .ok (.ireturn, 1) := by decide +kernel
theorem dX11_stand_18 : decode cX11_stand 18 = .ok (.aload_n 0, 1) := by decide +kernel
theorem dX11_stand_19 : decode cX11_stand 19 = .ok (.getfield 23, 3) := by decide +kernel
theorem dX11_stand_22 : decode cX11_stand 22 = .ok (.getfield 135, 3) := by decide +kernel
theorem dX11_stand_25 : decode cX11_stand 25 = .ok (.iload_n 1, 1) := by decide +kernel
theorem dX11_stand_26 : decode cX11_stand 26 = .ok (.iaload, 1) := by decide +kernel
theorem dX11_stand_27 : decode cX11_stand 27 = .ok (.istore_n 3, 1) := by decide +kernel
theorem dX11_stand_28 : decode cX11_stand 28 = .ok (.aload_n 0, 1) := by decide +kernel
theorem dX11_stand_29 : decode cX11_stand 29 = .ok (.getfield 23, 3) := by decide +kernel
theorem dX11_stand_32 : decode cX11_stand 32 = .ok (.getfield 135, 3) := by decide +kernel
theorem dX11_stand_35 : decode cX11_stand 35 = .ok (.iload_n 1, 1) := by decide +kernel
theorem dX11_stand_36 : decode cX11_stand 36 = .ok (.iload_n 2, 1) := by decide +kernel
theorem dX11_stand_37 : decode cX11_stand 37 = .ok (.iastore, 1) := by decide +kernel
theorem dX11_stand_38 : decode cX11_stand 38 = .ok (.aload_n 0, 1) := by decide +kernel
theorem dX11_stand_39 : decode cX11_stand 39 = .ok (.getfield 30, 3) := by decide +kernel
theorem dX11_stand_42 : decode cX11_stand 42 = .ok (.aload_n 0, 1) := by decide +kernel
theorem dX11_stand_43 : decode cX11_stand 43 = .ok (.getfield 23, 3) := by decide +kernel
theorem dX11_stand_46 : decode cX11_stand 46 = .ok (.invokevirtual 188, 3) := by decide +kernel
theorem dX11_stand_49 : decode cX11_stand 49 = .ok (.iload_n 3, 1) := by decide +kernel
theorem dX11_stand_50 : decode cX11_stand 50 = .ok (.ireturn, 1) := by decide +kernel
theorem dX11_hours_0 : decode cX11_hours 0 = .ok (.iload_n 1, 1) := by decide +kernel
theorem dX11_hours_1 : decode cX11_hours 1 = .ok (.ifCond .lt 24, 3) := by decide +kernel
theorem dX11_hours_4 : decode cX11_hours 4 = .ok (.iload_n 1, 1) := by decide +kernel
theorem dX11_hours_5 : decode cX11_hours 5 = .ok (.bipush 60, 2) := by decide +kernel
theorem dX11_hours_7 : decode cX11_hours 7 = .ok (.if_icmp .gt 18, 3) := by decide +kernel
theorem dX11_hours_10 : decode cX11_hours 10 = .ok (.aload_n 0, 1) := by decide +kernel
theorem dX11_hours_11 : decode cX11_hours 11 = .ok (.getfield 23, 3) := by decide +kernel
theorem dX11_hours_14 : decode cX11_hours 14 = .ok (.getfield 191, 3) := by decide +kernel
theorem dX11_hours_17 : decode cX11_hours 17 = .ok (.iload_n 1, 1) := by decide +kernel
theorem dX11_hours_18 : decode cX11_hours 18 = .ok (.iadd, 1) := by decide +kernel
theorem dX11_hours_19 : decode cX11_hours 19 = .ok (.sipush 2000, 3) := by decide +kernel
theorem dX11_hours_22 : decode cX11_hours 22 = .ok (.if_icmp .le 5, 3) := by decide +kernel
theorem dX11_hours_25 : decode cX11_hours 25 = .ok (.iconst (-1), 1) := by decide +kernel
theorem dX11_hours_26 : decode cX11_hours 26 = .ok (.ireturn, 1) := by decide +kernel
theorem dX11_hours_27 : decode cX11_hours 27 = .ok (.iconst 0, 1) := by decide +kernel
theorem dX11_hours_28 : decode cX11_hours 28 = .ok (.istore_n 2, 1) := by decide +kernel
theorem dX11_hours_29 : decode cX11_hours 29 = .ok (.iload_n 2, 1) := by decide +kernel
theorem dX11_hours_30 : decode cX11_hours 30 = .ok (.iload_n 1, 1) := by decide +kernel
theorem dX11_hours_31 : decode cX11_hours 31 = .ok (.if_icmp .ge 25, 3) := by decide +kernel
theorem dX11_hours_34 : decode cX11_hours 34 = .ok (.aload_n 0, 1) := by decide +kernel
theorem dX11_hours_35 : decode cX11_hours 35 = .ok (.getfield 37, 3) := by decide +kernel
theorem dX11_hours_38 : decode cX11_hours 38 = .ok (.aload_n 0, 1) := by decide +kernel
theorem dX11_hours_39 : decode cX11_hours 39 = .ok (.getfield 83, 3) := by decide +kernel
theorem dX11_hours_42 : decode cX11_hours 42 = .ok (.aload_n 0, 1) := by decide +kernel
theorem dX11_hours_43 : decode cX11_hours 43 = .ok (.getfield 23, 3) := by decide +kernel
theorem dX11_hours_46 : decode cX11_hours 46 = .ok (.invokevirtual 194, 3) := by decide +kernel
theorem dX11_hours_49 : decode cX11_hours 49 = .ok (.pop, 1) := by decide +kernel
theorem dX11_hours_50 : decode cX11_hours 50 = .ok (.iinc 2 1, 3) := by decide +kernel
theorem dX11_hours_53 : decode cX11_hours 53 = .ok (.goto (-24), 3) := by decide +kernel
theorem dX11_hours_56 : decode cX11_hours 56 = .ok (.aload_n 0, 1) := by decide +kernel
theorem dX11_hours_57 : decode cX11_hours 57 = .ok (.getfield 30, 3) := by decide +kernel
theorem dX11_hours_60 : decode cX11_hours 60 = .ok (.aload_n 0, 1) := by decide +kernel
theorem dX11_hours_61 : decode cX11_hours 61 = .ok (.getfield 23, 3) := by decide +kernel
theorem dX11_hours_64 : decode cX11_hours 64 = .ok (.invokevirtual 188, 3) := by decide +kernel
theorem dX11_hours_67 : decode cX11_hours 67 = .ok (.aload_n 0, 1) := by decide +kernel
theorem dX11_hours_68 : decode cX11_hours 68 = .ok (.getfield 23, 3) := by decide +kernel
theorem dX11_hours_71 : decode cX11_hours 71 = .ok (.getfield 191, 3) := by decide +kernel
theorem dX11_hours_74 : decode cX11_hours 74 = .ok (.ireturn, 1) := by decide +kernel
theorem dX11_offset_0 : decode cX11_offset 0 = .ok (.aload_n 0, 1) := by decide +kernel
theorem dX11_offset_1 : decode cX11_offset 1 = .ok (.iload_n 1, 1) := by decide +kernel
theorem dX11_offset_2 : decode cX11_offset 2 = .ok (.iload_n 2, 1) := by decide +kernel
theorem dX11_offset_3 : decode cX11_offset 3 = .ok (.invokevirtual 159, 3) := by decide +kernel
theorem dX11_offset_6 : decode cX11_offset 6 = .ok (.ifCond .ne 5, 3) := by decide +kernel
theorem dX11_offset_9 : decode cX11_offset 9 = .ok (.iconst (-1), 1) := by decide +kernel
theorem dX11_offset_10 : decode cX11_offset 10 = .ok (.ireturn, 1) := by decide +kernel
theorem dX11_offset_11 : decode cX11_offset 11 = .ok (.iload_n 1, 1) := by decide +kernel
theorem dX11_offset_12 : decode cX11_offset 12 = .ok (.iload_n 2, 1) := by decide +kernel
theorem dX11_offset_13 : decode cX11_offset 13 = .ok (.invokestatic 166, 3) := by decide +kernel
theorem dX11_offset_16 : decode cX11_offset 16 = .ok (.istore_n 3, 1) := by decide +kernel
theorem dX11_offset_17 : decode cX11_offset 17 = .ok (.iload_n 2, 1) := by decide +kernel
theorem dX11_offset_18 : decode cX11_offset 18 = .ok (.iload_n 1, 1) := by decide +kernel
theorem dX11_offset_19 : decode cX11_offset 19 = .ok (.invokestatic 166, 3) := by decide +kernel
theorem dX11_offset_22 : decode cX11_offset 22 = .ok (.istore 4, 2) := by decide +kernel
theorem dX11_offset_24 : decode cX11_offset 24 = .ok (.aload_n 0, 1) := by decide +kernel
theorem dX11_offset_25 : decode cX11_offset 25 = .ok (.getfield 23, 3) := by decide +kernel
theorem dX11_offset_28 : decode cX11_offset 28 = .ok (.getfield 163, 3) := by decide +kernel
theorem dX11_offset_31 : decode cX11_offset 31 = .ok (.iload_n 3, 1) := by decide +kernel
theorem dX11_offset_32 : decode cX11_offset 32 = .ok (.iaload, 1) := by decide +kernel
theorem dX11_offset_33 : decode cX11_offset 33 = .ok (.aload_n 0, 1) := by decide +kernel
theorem dX11_offset_34 : decode cX11_offset 34 = .ok (.getfield 23, 3) := by decide +kernel
theorem dX11_offset_37 : decode cX11_offset 37 = .ok (.getfield 163, 3) := by decide +kernel
theorem dX11_offset_40 : decode cX11_offset 40 = .ok (.iload 4, 2) := by decide +kernel
theorem dX11_offset_42 : decode cX11_offset 42 = .ok (.iaload, 1) := by decide +kernel
theorem dX11_offset_43 : decode cX11_offset 43 = .ok (.invokestatic 198, 3) := by decide +kernel
theorem dX11_offset_46 : decode cX11_offset 46 = .ok (.istore 5, 2) := by decide +kernel
theorem dX11_offset_48 : decode cX11_offset 48 = .ok (.iload 5, 2) := by decide +kernel
theorem dX11_offset_50 : decode cX11_offset 50 = .ok (.ifCond .ne 5, 3) := by decide +kernel
theorem dX11_offset_53 : decode cX11_offset 53 = .ok (.iconst (-1), 1) := by decide +kernel
theorem dX11_offset_54 : decode cX11_offset 54 = .ok (.ireturn, 1) := by decide +kernel
theorem dX11_offset_55 : decode cX11_offset 55 = .ok (.aload_n 0, 1) := by decide +kernel
theorem dX11_offset_56 : decode cX11_offset 56 = .ok (.getfield 23, 3) := by decide +kernel
theorem dX11_offset_59 : decode cX11_offset 59 = .ok (.getfield 163, 3) := by decide +kernel
theorem dX11_offset_62 : decode cX11_offset 62 = .ok (.iload_n 3, 1) := by decide +kernel
theorem dX11_offset_63 : decode cX11_offset 63 = .ok (.dup2, 1) := by decide +kernel
theorem dX11_offset_64 : decode cX11_offset 64 = .ok (.iaload, 1) := by decide +kernel
theorem dX11_offset_65 : decode cX11_offset 65 = .ok (.iload 5, 2) := by decide +kernel
theorem dX11_offset_67 : decode cX11_offset 67 = .ok (.isub, 1) := by decide +kernel
theorem dX11_offset_68 : decode cX11_offset 68 = .ok (.iastore, 1) := by decide +kernel
theorem dX11_offset_69 : decode cX11_offset 69 = .ok (.aload_n 0, 1) := by decide +kernel
theorem dX11_offset_70 : decode cX11_offset 70 = .ok (.getfield 23, 3) := by decide +kernel
theorem dX11_offset_73 : decode cX11_offset 73 = .ok (.getfield 163, 3) := by decide +kernel
theorem dX11_offset_76 : decode cX11_offset 76 = .ok (.iload 4, 2) := by decide +kernel
theorem dX11_offset_78 : decode cX11_offset 78 = .ok (.dup2, 1) := by decide +kernel
theorem dX11_offset_79 : decode cX11_offset 79 = .ok (.iaload, 1) := by decide +kernel
theorem dX11_offset_80 : decode cX11_offset 80 = .ok (.iload 5, 2) := by decide +kernel
theorem dX11_offset_82 : decode cX11_offset 82 = .ok (.isub, 1) := by decide +kernel
theorem dX11_offset_83 : decode cX11_offset 83 = .ok (.iastore, 1) := by decide +kernel
theorem dX11_offset_84 : decode cX11_offset 84 = .ok (.aload_n 0, 1) := by decide +kernel
theorem dX11_offset_85 : decode cX11_offset 85 = .ok (.getfield 30, 3) := by decide +kernel
theorem dX11_offset_88 : decode cX11_offset 88 = .ok (.aload_n 0, 1) := by decide +kernel
theorem dX11_offset_89 : decode cX11_offset 89 = .ok (.getfield 23, 3) := by decide +kernel
theorem dX11_offset_92 : decode cX11_offset 92 = .ok (.invokevirtual 188, 3) := by decide +kernel
theorem dX11_offset_95 : decode cX11_offset 95 = .ok (.iload 5, 2) := by decide +kernel
theorem dX11_offset_97 : decode cX11_offset 97 = .ok (.ireturn, 1) := by decide +kernel
theorem dX11_clear_0 : decode cX11_clear 0 = .ok (.aload_n 0, 1) := by decide +kernel
theorem dX11_clear_1 : decode cX11_clear 1 = .ok (.getfield 58, 3) := by decide +kernel
theorem dX11_clear_4 : decode cX11_clear 4 = .ok (.aload_n 0, 1) := by decide +kernel
theorem dX11_clear_5 : decode cX11_clear 5 = .ok (.getfield 83, 3) := by decide +kernel
theorem dX11_clear_8 : decode cX11_clear 8 = .ok (.getfield 116, 3) := by decide +kernel
theorem dX11_clear_11 : decode cX11_clear 11 = .ok (.aload_n 0, 1) := by decide +kernel
theorem dX11_clear_12 : decode cX11_clear 12 = .ok (.getfield 23, 3) := by decide +kernel
theorem dX11_clear_15 : decode cX11_clear 15 = .ok (.getfield 163, 3) := by decide +kernel
theorem dX11_clear_18 : decode cX11_clear 18 = .ok (.invokevirtual 203, 3) := by decide +kernel
theorem dX11_clear_21 : decode cX11_clear 21 = .ok (.aload_n 0, 1) := by decide +kernel
theorem dX11_clear_22 : decode cX11_clear 22 = .ok (.getfield 58, 3) := by decide +kernel
theorem dX11_clear_25 : decode cX11_clear 25 = .ok (.getfield 207, 3) := by decide +kernel
theorem dX11_clear_28 : decode cX11_clear 28 = .ok (.ifCond .ne 5, 3) := by decide +kernel
theorem dX11_clear_31 : decode cX11_clear 31 = .ok (.iconst (-1), 1) := by decide +kernel
theorem dX11_clear_32 : decode cX11_clear 32 = .ok (.ireturn, 1) := by decide +kernel
theorem dX11_clear_33 : decode cX11_clear 33 = .ok (.aload_n 0, 1) := by decide +kernel
theorem dX11_clear_34 : decode cX11_clear 34 = .ok (.getfield 58, 3) := by decide +kernel
theorem dX11_clear_37 : decode cX11_clear 37 = .ok (.aload_n 0, 1) := by decide +kernel
theorem dX11_clear_38 : decode cX11_clear 38 = .ok (.getfield 23, 3) := by decide +kernel
theorem dX11_clear_41 : decode cX11_clear 41 = .ok (.getfield 163, 3) := by decide +kernel
theorem dX11_clear_44 : decode cX11_clear 44 = .ok (.invokevirtual 210, 3) := by decide +kernel
theorem dX11_clear_47 : decode cX11_clear 47 = .ok (.aload_n 0, 1) := by decide +kernel
theorem dX11_clear_48 : decode cX11_clear 48 = .ok (.getfield 30, 3) := by decide +kernel
theorem dX11_clear_51 : decode cX11_clear 51 = .ok (.aload_n 0, 1) := by decide +kernel
theorem dX11_clear_52 : decode cX11_clear 52 = .ok (.getfield 23, 3) := by decide +kernel
theorem dX11_clear_55 : decode cX11_clear 55 = .ok (.invokevirtual 188, 3) := by decide +kernel
theorem dX11_clear_58 : decode cX11_clear 58 = .ok (.aload_n 0, 1) := by decide +kernel
theorem dX11_clear_59 : decode cX11_clear 59 = .ok (.getfield 58, 3) := by decide +kernel
theorem dX11_clear_62 : decode cX11_clear 62 = .ok (.getfield 214, 3) := by decide +kernel
theorem dX11_clear_65 : decode cX11_clear 65 = .ok (.ireturn, 1) := by decide +kernel
theorem dX11_undo_0 : decode cX11_undo 0 = .ok (.aload_n 0, 1) := by decide +kernel
theorem dX11_undo_1 : decode cX11_undo 1 = .ok (.getfield 30, 3) := by decide +kernel
theorem dX11_undo_4 : decode cX11_undo 4 = .ok (.aload_n 0, 1) := by decide +kernel
theorem dX11_undo_5 : decode cX11_undo 5 = .ok (.getfield 23, 3) := by decide +kernel
theorem dX11_undo_8 : decode cX11_undo 8 = .ok (.invokevirtual 217, 3) := by decide +kernel
theorem dX11_undo_11 : decode cX11_undo 11 = .ok (.ireturn, 1) := by decide +kernel
theorem dX11_redo_0 : decode cX11_redo 0 = .ok (.aload_n 0, 1) := by decide +kernel
theorem dX11_redo_1 : decode cX11_redo 1 = .ok (.getfield 30, 3) := by decide +kernel
theorem dX11_redo_4 : decode cX11_redo 4 = .ok (.aload_n 0, 1) := by decide +kernel
theorem dX11_redo_5 : decode cX11_redo 5 = .ok (.getfield 23, 3) := by decide +kernel
theorem dX11_redo_8 : decode cX11_redo 8 = .ok (.invokevirtual 221, 3) := by decide +kernel
theorem dX11_redo_11 : decode cX11_redo 11 = .ok (.ireturn, 1) := by decide +kernel
theorem dX11_will_0 : decode cX11_will 0 = .ok (.aload_n 0, 1) := by decide +kernel
theorem dX11_will_1 : decode cX11_will 1 = .ok (.iload_n 1, 1) := by decide +kernel
theorem dX11_will_2 : decode cX11_will 2 = .ok (.iload_n 2, 1) := by decide +kernel
theorem dX11_will_3 : decode cX11_will 3 = .ok (.invokevirtual 159, 3) := by decide +kernel
theorem dX11_will_6 : decode cX11_will 6 = .ok (.ifCond .eq 14, 3) := by decide +kernel
theorem dX11_will_9 : decode cX11_will 9 = .ok (.iload_n 3, 1) := by decide +kernel
theorem dX11_will_10 : decode cX11_will 10 = .ok (.ifCond .lt 10, 3) := by decide +kernel
theorem dX11_will_13 : decode cX11_will 13 = .ok (.iload_n 3, 1) := by decide +kernel
theorem dX11_will_14 : decode cX11_will 14 = .ok (.sipush 200, 3) := by decide +kernel
theorem dX11_will_17 : decode cX11_will 17 = .ok (.if_icmp .le 5, 3) := by decide +kernel
theorem dX11_will_20 : decode cX11_will 20 = .ok (.iconst (-1), 1) := by decide +kernel
theorem dX11_will_21 : decode cX11_will 21 = .ok (.ireturn, 1) := by decide +kernel
theorem dX11_will_22 : decode cX11_will 22 = .ok (.aload_n 0, 1) := by decide +kernel
theorem dX11_will_23 : decode cX11_will 23 = .ok (.getfield 44, 3) := by decide +kernel
theorem dX11_will_26 : decode cX11_will 26 = .ok (.aload_n 0, 1) := by decide +kernel
theorem dX11_will_27 : decode cX11_will 27 = .ok (.getfield 83, 3) := by decide +kernel
theorem dX11_will_30 : decode cX11_will 30 = .ok (.aload_n 0, 1) := by decide +kernel
theorem dX11_will_31 : decode cX11_will 31 = .ok (.getfield 23, 3) := by decide +kernel
theorem dX11_will_34 : decode cX11_will 34 = .ok (.iload_n 1, 1) := by decide +kernel
theorem dX11_will_35 : decode cX11_will 35 = .ok (.iload_n 2, 1) := by decide +kernel
theorem dX11_will_36 : decode cX11_will 36 = .ok (.invokestatic 166, 3) := by decide +kernel
theorem dX11_will_39 : decode cX11_will 39 = .ok (.iload_n 3, 1) := by decide +kernel
theorem dX11_will_40 : decode cX11_will 40 = .ok (.invokevirtual 224, 3) := by decide +kernel
theorem dX11_will_43 : decode cX11_will 43 = .ok (.ireturn, 1) := by decide +kernel
theorem dX11_when_0 : decode cX11_when 0 = .ok (.aload_n 0, 1) := by decide +kernel
theorem dX11_when_1 : decode cX11_when 1 = .ok (.iload_n 1, 1) := by decide +kernel
theorem dX11_when_2 : decode cX11_when 2 = .ok (.iload_n 2, 1) := by decide +kernel
theorem dX11_when_3 : decode cX11_when 3 = .ok (.invokevirtual 159, 3) := by decide +kernel
theorem dX11_when_6 : decode cX11_when 6 = .ok (.ifCond .ne 6, 3) := by decide +kernel
theorem dX11_when_9 : decode cX11_when 9 = .ok (.bipush (-2), 2) := by decide +kernel
theorem dX11_when_11 : decode cX11_when 11 = .ok (.ireturn, 1) := by decide +kernel
theorem dX11_when_12 : decode cX11_when 12 = .ok (.aload_n 0, 1) := by decide +kernel
theorem dX11_when_13 : decode cX11_when 13 = .ok (.getfield 44, 3) := by decide +kernel
theorem dX11_when_16 : decode cX11_when 16 = .ok (.aload_n 0, 1) := by decide +kernel
theorem dX11_when_17 : decode cX11_when 17 = .ok (.getfield 83, 3) := by decide +kernel
theorem dX11_when_20 : decode cX11_when 20 = .ok (.aload_n 0, 1) := by decide +kernel
theorem dX11_when_21 : decode cX11_when 21 = .ok (.getfield 23, 3) := by decide +kernel
theorem dX11_when_24 : decode cX11_when 24 = .ok (.iload_n 1, 1) := by decide +kernel
theorem dX11_when_25 : decode cX11_when 25 = .ok (.iload_n 2, 1) := by decide +kernel
theorem dX11_when_26 : decode cX11_when 26 = .ok (.invokestatic 166, 3) := by decide +kernel
theorem dX11_when_29 : decode cX11_when 29 = .ok (.invokevirtual 228, 3) := by decide +kernel
theorem dX11_when_32 : decode cX11_when 32 = .ok (.ireturn, 1) := by decide +kernel
theorem dX11_throng_0 : decode cX11_throng 0 = .ok (.aload_n 0, 1) := by decide +kernel
theorem dX11_throng_1 : decode cX11_throng 1 = .ok (.iload_n 1, 1) := by decide +kernel
theorem dX11_throng_2 : decode cX11_throng 2 = .ok (.invokevirtual 125, 3) := by decide +kernel
theorem dX11_throng_5 : decode cX11_throng 5 = .ok (.ifCond .eq 22, 3) := by decide +kernel
theorem dX11_throng_8 : decode cX11_throng 8 = .ok (.iload_n 2, 1) := by decide +kernel
theorem dX11_throng_9 : decode cX11_throng 9 = .ok (.iconst 1, 1) := by decide +kernel
theorem dX11_throng_10 : decode cX11_throng 10 = .ok (.if_icmp .lt 17, 3) := by decide +kernel
theorem dX11_throng_13 : decode cX11_throng 13 = .ok (.iload_n 2, 1) := by decide +kernel
theorem dX11_throng_14 : decode cX11_throng 14 = .ok (.sipush 200, 3) := by decide +kernel
theorem dX11_throng_17 : decode cX11_throng 17 = .ok (.if_icmp .gt 10, 3) := by decide +kernel
theorem dX11_throng_20 : decode cX11_throng 20 = .ok (.iload_n 3, 1) := by decide +kernel
theorem dX11_throng_21 : decode cX11_throng 21 = .ok (.invokestatic 231, 3) := by decide +kernel
theorem dX11_throng_24 : decode cX11_throng 24 = .ok (.ifCond .ne 6, 3) := by decide +kernel
theorem dX11_throng_27 : decode cX11_throng 27 = .ok (.bipush (-2), 2) := by decide +kernel
theorem dX11_throng_29 : decode cX11_throng 29 = .ok (.ireturn, 1) := by decide +kernel
theorem dX11_throng_30 : decode cX11_throng 30 = .ok (.aload_n 0, 1) := by decide +kernel
theorem dX11_throng_31 : decode cX11_throng 31 = .ok (.getfield 44, 3) := by decide +kernel
theorem dX11_throng_34 : decode cX11_throng 34 = .ok (.aload_n 0, 1) := by decide +kernel
theorem dX11_throng_35 : decode cX11_throng 35 = .ok (.getfield 83, 3) := by decide +kernel
theorem dX11_throng_38 : decode cX11_throng 38 = .ok (.aload_n 0, 1) := by decide +kernel
theorem dX11_throng_39 : decode cX11_throng 39 = .ok (.getfield 23, 3) := by decide +kernel
theorem dX11_throng_42 : decode cX11_throng 42 = .ok (.iload_n 1, 1) := by decide +kernel
theorem dX11_throng_43 : decode cX11_throng 43 = .ok (.iload_n 2, 1) := by decide +kernel
theorem dX11_throng_44 : decode cX11_throng 44 = .ok (.invokevirtual 234, 3) := by decide +kernel
theorem dX11_throng_47 : decode cX11_throng 47 = .ok (.iload_n 3, 1) := by decide +kernel
theorem dX11_throng_48 : decode cX11_throng 48 = .ok (.ifCond .ne 13, 3) := by decide +kernel
theorem dX11_throng_51 : decode cX11_throng 51 = .ok (.aload_n 0, 1) := by decide +kernel
theorem dX11_throng_52 : decode cX11_throng 52 = .ok (.getfield 44, 3) := by decide +kernel
theorem dX11_throng_55 : decode cX11_throng 55 = .ok (.getfield 238, 3) := by decide +kernel
theorem dX11_throng_58 : decode cX11_throng 58 = .ok (.goto 10, 3) := by decide +kernel
theorem dX11_throng_61 : decode cX11_throng 61 = .ok (.aload_n 0, 1) := by decide +kernel
theorem dX11_throng_62 : decode cX11_throng 62 = .ok (.getfield 44, 3) := by decide +kernel
theorem dX11_throng_65 : decode cX11_throng 65 = .ok (.getfield 241, 3) := by decide +kernel
theorem dX11_throng_68 : decode cX11_throng 68 = .ok (.ireturn, 1) := by decide +kernel
theorem dX11_meeting_0 : decode cX11_meeting 0 = .ok (.aload_n 0, 1) := by decide +kernel
theorem dX11_meeting_1 : decode cX11_meeting 1 = .ok (.iload_n 1, 1) := by decide +kernel
theorem dX11_meeting_2 : decode cX11_meeting 2 = .ok (.iload_n 2, 1) := by decide +kernel
theorem dX11_meeting_3 : decode cX11_meeting 3 = .ok (.invokevirtual 159, 3) := by decide +kernel
theorem dX11_meeting_6 : decode cX11_meeting 6 = .ok (.ifCond .eq 15, 3) := by decide +kernel
theorem dX11_meeting_9 : decode cX11_meeting 9 = .ok (.iload_n 3, 1) := by decide +kernel
theorem dX11_meeting_10 : decode cX11_meeting 10 = .ok (.iconst 1, 1) := by decide +kernel
theorem dX11_meeting_11 : decode cX11_meeting 11 = .ok (.if_icmp .lt 10, 3) := by decide +kernel
theorem dX11_meeting_14 : decode cX11_meeting 14 = .ok (.iload_n 3, 1) := by decide +kernel
theorem dX11_meeting_15 : decode cX11_meeting 15 = .ok (.sipush 200, 3) := by decide +kernel
theorem dX11_meeting_18 : decode cX11_meeting 18 = .ok (.if_icmp .le 6, 3) := by decide +kernel
theorem dX11_meeting_21 : decode cX11_meeting 21 = .ok (.bipush (-2), 2) := by decide +kernel
theorem dX11_meeting_23 : decode cX11_meeting 23 = .ok (.ireturn, 1) := by decide +kernel
theorem dX11_meeting_24 : decode cX11_meeting 24 = .ok (.aload_n 0, 1) := by decide +kernel
theorem dX11_meeting_25 : decode cX11_meeting 25 = .ok (.getfield 44, 3) := by decide +kernel
theorem dX11_meeting_28 : decode cX11_meeting 28 = .ok (.aload_n 0, 1) := by decide +kernel
theorem dX11_meeting_29 : decode cX11_meeting 29 = .ok (.getfield 83, 3) := by decide +kernel
theorem dX11_meeting_32 : decode cX11_meeting 32 = .ok (.aload_n 0, 1) := by decide +kernel
theorem dX11_meeting_33 : decode cX11_meeting 33 = .ok (.getfield 23, 3) := by decide +kernel
theorem dX11_meeting_36 : decode cX11_meeting 36 = .ok (.iload_n 1, 1) := by decide +kernel
theorem dX11_meeting_37 : decode cX11_meeting 37 = .ok (.iload_n 2, 1) := by decide +kernel
theorem dX11_meeting_38 : decode cX11_meeting 38 = .ok (.iload_n 3, 1) := by decide +kernel
theorem dX11_meeting_39 : decode cX11_meeting 39 = .ok (.invokevirtual 244, 3) := by decide +kernel
theorem dX11_meeting_42 : decode cX11_meeting 42 = .ok (.ireturn, 1) := by decide +kernel
theorem dX11_help_0 : decode cX11_help 0 = .ok (.aload_n 0, 1) := by decide +kernel
theorem dX11_help_1 : decode cX11_help 1 = .ok (.iload_n 1, 1) := by decide +kernel
theorem dX11_help_2 : decode cX11_help 2 = .ok (.iload_n 2, 1) := by decide +kernel
theorem dX11_help_3 : decode cX11_help 3 = .ok (.invokevirtual 159, 3) := by decide +kernel
theorem dX11_help_6 : decode cX11_help 6 = .ok (.ifCond .eq 10, 3) := by decide +kernel
theorem dX11_help_9 : decode cX11_help 9 = .ok (.iload_n 3, 1) := by decide +kernel
theorem dX11_help_10 : decode cX11_help 10 = .ok (.invokestatic 231, 3) := by decide +kernel
theorem dX11_help_13 : decode cX11_help 13 = .ok (.ifCond .ne 6, 3) := by decide +kernel
theorem dX11_help_16 : decode cX11_help 16 = .ok (.bipush (-2), 2) := by decide +kernel
theorem dX11_help_18 : decode cX11_help 18 = .ok (.ireturn, 1) := by decide +kernel
theorem dX11_help_19 : decode cX11_help 19 = .ok (.aload_n 0, 1) := by decide +kernel
theorem dX11_help_20 : decode cX11_help 20 = .ok (.getfield 44, 3) := by decide +kernel
theorem dX11_help_23 : decode cX11_help 23 = .ok (.aload_n 0, 1) := by decide +kernel
theorem dX11_help_24 : decode cX11_help 24 = .ok (.getfield 83, 3) := by decide +kernel
theorem dX11_help_27 : decode cX11_help 27 = .ok (.aload_n 0, 1) := by decide +kernel
theorem dX11_help_28 : decode cX11_help 28 = .ok (.getfield 23, 3) := by decide +kernel
theorem dX11_help_31 : decode cX11_help 31 = .ok (.iload_n 1, 1) := by decide +kernel
theorem dX11_help_32 : decode cX11_help 32 = .ok (.iload_n 2, 1) := by decide +kernel
theorem dX11_help_33 : decode cX11_help 33 = .ok (.invokevirtual 248, 3) := by decide +kernel
theorem dX11_help_36 : decode cX11_help 36 = .ok (.iload_n 3, 1) := by decide +kernel
theorem dX11_help_37 : decode cX11_help 37 = .ok (.ifCond .ne 13, 3) := by decide +kernel
theorem dX11_help_40 : decode cX11_help 40 = .ok (.aload_n 0, 1) := by decide +kernel
theorem dX11_help_41 : decode cX11_help 41 = .ok (.getfield 44, 3) := by decide +kernel
theorem dX11_help_44 : decode cX11_help 44 = .ok (.getfield 238, 3) := by decide +kernel
theorem dX11_help_47 : decode cX11_help 47 = .ok (.goto 10, 3) := by decide +kernel
theorem dX11_help_50 : decode cX11_help 50 = .ok (.aload_n 0, 1) := by decide +kernel
theorem dX11_help_51 : decode cX11_help 51 = .ok (.getfield 44, 3) := by decide +kernel
theorem dX11_help_54 : decode cX11_help 54 = .ok (.getfield 241, 3) := by decide +kernel
theorem dX11_help_57 : decode cX11_help 57 = .ok (.ireturn, 1) := by decide +kernel
theorem dX11_plan_0 : decode cX11_plan 0 = .ok (.aload_n 0, 1) := by decide +kernel
theorem dX11_plan_1 : decode cX11_plan 1 = .ok (.iconst 0, 1) := by decide +kernel
theorem dX11_plan_2 : decode cX11_plan 2 = .ok (.putfield 91, 3) := by decide +kernel
theorem dX11_plan_5 : decode cX11_plan 5 = .ok (.aload_n 0, 1) := by decide +kernel
theorem dX11_plan_6 : decode cX11_plan 6 = .ok (.iload_n 1, 1) := by decide +kernel
theorem dX11_plan_7 : decode cX11_plan 7 = .ok (.invokevirtual 125, 3) := by decide +kernel
theorem dX11_plan_10 : decode cX11_plan 10 = .ok (.ifCond .ne 5, 3) := by decide +kernel
theorem dX11_plan_13 : decode cX11_plan 13 = .ok (.iconst (-1), 1) := by decide +kernel
theorem dX11_plan_14 : decode cX11_plan 14 = .ok (.ireturn, 1) := by decide +kernel
theorem dX11_plan_15 : decode cX11_plan 15 = .ok (.aload_n 0, 1) := by decide +kernel
theorem dX11_plan_16 : decode cX11_plan 16 = .ok (.getfield 51, 3) := by decide +kernel
theorem dX11_plan_19 : decode cX11_plan 19 = .ok (.aload_n 0, 1) := by decide +kernel
theorem dX11_plan_20 : decode cX11_plan 20 = .ok (.getfield 83, 3) := by decide +kernel
theorem dX11_plan_23 : decode cX11_plan 23 = .ok (.aload_n 0, 1) := by decide +kernel
theorem dX11_plan_24 : decode cX11_plan 24 = .ok (.getfield 23, 3) := by decide +kernel
theorem dX11_plan_27 : decode cX11_plan 27 = .ok (.iload_n 1, 1) := by decide +kernel
theorem dX11_plan_28 : decode cX11_plan 28 = .ok (.invokevirtual 251, 3) := by decide +kernel
theorem dX11_plan_31 : decode cX11_plan 31 = .ok (.istore_n 2, 1) := by decide +kernel
theorem dX11_plan_32 : decode cX11_plan 32 = .ok (.iload_n 2, 1) := by decide +kernel
theorem dX11_plan_33 : decode cX11_plan 33 = .ok (.iconst (-1), 1) := by decide +kernel
theorem dX11_plan_34 : decode cX11_plan 34 = .ok (.if_icmp .eq 21, 3) := by decide +kernel
theorem dX11_plan_37 : decode cX11_plan 37 = .ok (.aload_n 0, 1) := by decide +kernel
theorem dX11_plan_38 : decode cX11_plan 38 = .ok (.aload_n 0, 1) := by decide +kernel
theorem dX11_plan_39 : decode cX11_plan 39 = .ok (.getfield 51, 3) := by decide +kernel
theorem dX11_plan_42 : decode cX11_plan 42 = .ok (.getfield 254, 3) := by decide +kernel
theorem dX11_plan_45 : decode cX11_plan 45 = .ok (.aload_n 0, 1) := by decide +kernel
theorem dX11_plan_46 : decode cX11_plan 46 = .ok (.getfield 51, 3) := by decide +kernel
theorem dX11_plan_49 : decode cX11_plan 49 = .ok (.getfield 257, 3) := by decide +kernel
theorem dX11_plan_52 : decode cX11_plan 52 = .ok (.invokevirtual 260, 3) := by decide +kernel
theorem dX11_plan_55 : decode cX11_plan 55 = .ok (.iload_n 2, 1) := by decide +kernel
theorem dX11_plan_56 : decode cX11_plan 56 = .ok (.ireturn, 1) := by decide +kernel
theorem dX11_rings_0 : decode cX11_rings 0 = .ok (.aload_n 0, 1) := by decide +kernel
theorem dX11_rings_1 : decode cX11_rings 1 = .ok (.getfield 58, 3) := by decide +kernel
theorem dX11_rings_4 : decode cX11_rings 4 = .ok (.aload_n 0, 1) := by decide +kernel
theorem dX11_rings_5 : decode cX11_rings 5 = .ok (.getfield 83, 3) := by decide +kernel
theorem dX11_rings_8 : decode cX11_rings 8 = .ok (.getfield 116, 3) := by decide +kernel
theorem dX11_rings_11 : decode cX11_rings 11 = .ok (.aload_n 0, 1) := by decide +kernel
theorem dX11_rings_12 : decode cX11_rings 12 = .ok (.getfield 23, 3) := by decide +kernel
theorem dX11_rings_15 : decode cX11_rings 15 = .ok (.getfield 163, 3) := by decide +kernel
theorem dX11_rings_18 : decode cX11_rings 18 = .ok (.invokevirtual 203, 3) := by decide +kernel
theorem dX11_rings_21 : decode cX11_rings 21 = .ok (.aload_n 0, 1) := by decide +kernel
theorem dX11_rings_22 : decode cX11_rings 22 = .ok (.getfield 58, 3) := by decide +kernel
theorem dX11_rings_25 : decode cX11_rings 25 = .ok (.getfield 207, 3) := by decide +kernel
theorem dX11_rings_28 : decode cX11_rings 28 = .ok (.ireturn, 1) := by decide +kernel
theorem dX11_ring_0 : decode cX11_ring 0 = .ok (.aload_n 0, 1) := by decide +kernel
theorem dX11_ring_1 : decode cX11_ring 1 = .ok (.getfield 58, 3) := by decide +kernel
theorem dX11_ring_4 : decode cX11_ring 4 = .ok (.aload_n 0, 1) := by decide +kernel
theorem dX11_ring_5 : decode cX11_ring 5 = .ok (.getfield 83, 3) := by decide +kernel
theorem dX11_ring_8 : decode cX11_ring 8 = .ok (.getfield 116, 3) := by decide +kernel
theorem dX11_ring_11 : decode cX11_ring 11 = .ok (.aload_n 0, 1) := by decide +kernel
theorem dX11_ring_12 : decode cX11_ring 12 = .ok (.getfield 23, 3) := by decide +kernel
theorem dX11_ring_15 : decode cX11_ring 15 = .ok (.getfield 163, 3) := by decide +kernel
theorem dX11_ring_18 : decode cX11_ring 18 = .ok (.invokevirtual 203, 3) := by decide +kernel
theorem dX11_ring_21 : decode cX11_ring 21 = .ok (.aload_n 0, 1) := by decide +kernel
theorem dX11_ring_22 : decode cX11_ring 22 = .ok (.aload_n 0, 1) := by decide +kernel
theorem dX11_ring_23 : decode cX11_ring 23 = .ok (.getfield 58, 3) := by decide +kernel
theorem dX11_ring_26 : decode cX11_ring 26 = .ok (.getfield 264, 3) := by decide +kernel
theorem dX11_ring_29 : decode cX11_ring 29 = .ok (.aload_n 0, 1) := by decide +kernel
theorem dX11_ring_30 : decode cX11_ring 30 = .ok (.getfield 58, 3) := by decide +kernel
theorem dX11_ring_33 : decode cX11_ring 33 = .ok (.getfield 265, 3) := by decide +kernel
theorem dX11_ring_36 : decode cX11_ring 36 = .ok (.invokevirtual 260, 3) := by decide +kernel
theorem dX11_ring_39 : decode cX11_ring 39 = .ok (.aload_n 0, 1) := by decide +kernel
theorem dX11_ring_40 : decode cX11_ring 40 = .ok (.getfield 58, 3) := by decide +kernel
theorem dX11_ring_43 : decode cX11_ring 43 = .ok (.getfield 214, 3) := by decide +kernel
theorem dX11_ring_46 : decode cX11_ring 46 = .ok (.ireturn, 1) := by decide +kernel
theorem dX11_hide_0 : decode cX11_hide 0 = .ok (.aload_n 0, 1) := by decide +kernel
theorem dX11_hide_1 : decode cX11_hide 1 = .ok (.iload_n 1, 1) := by decide +kernel
theorem dX11_hide_2 : decode cX11_hide 2 = .ok (.invokevirtual 125, 3) := by decide +kernel
theorem dX11_hide_5 : decode cX11_hide 5 = .ok (.ifCond .eq 21, 3) := by decide +kernel
theorem dX11_hide_8 : decode cX11_hide 8 = .ok (.iload_n 2, 1) := by decide +kernel
theorem dX11_hide_9 : decode cX11_hide 9 = .ok (.iconst 1, 1) := by decide +kernel
theorem dX11_hide_10 : decode cX11_hide 10 = .ok (.if_icmp .lt 16, 3) := by decide +kernel
theorem dX11_hide_13 : decode cX11_hide 13 = .ok (.iload_n 2, 1) := by decide +kernel
theorem dX11_hide_14 : decode cX11_hide 14 = .ok (.bipush 60, 2) := by decide +kernel
theorem dX11_hide_16 : decode cX11_hide 16 = .ok (.if_icmp .gt 10, 3) := by decide +kernel
theorem dX11_hide_19 : decode cX11_hide 19 = .ok (.iload_n 3, 1) := by decide +kernel
theorem dX11_hide_20 : decode cX11_hide 20 = .ok (.invokestatic 231, 3) := by decide +kernel
theorem dX11_hide_23 : decode cX11_hide 23 = .ok (.ifCond .ne 6, 3) := by decide +kernel
theorem dX11_hide_26 : decode cX11_hide 26 = .ok (.bipush (-2), 2) := by decide +kernel
theorem dX11_hide_28 : decode cX11_hide 28 = .ok (.ireturn, 1) := by decide +kernel
theorem dX11_hide_29 : decode cX11_hide 29 = .ok (.aload_n 0, 1) := by decide +kernel
theorem dX11_hide_30 : decode cX11_hide 30 = .ok (.getfield 44, 3) := by decide +kernel
theorem dX11_hide_33 : decode cX11_hide 33 = .ok (.aload_n 0, 1) := by decide +kernel
theorem dX11_hide_34 : decode cX11_hide 34 = .ok (.getfield 83, 3) := by decide +kernel
theorem dX11_hide_37 : decode cX11_hide 37 = .ok (.aload_n 0, 1) := by decide +kernel
theorem dX11_hide_38 : decode cX11_hide 38 = .ok (.getfield 23, 3) := by decide +kernel
theorem dX11_hide_41 : decode cX11_hide 41 = .ok (.iload_n 1, 1) := by decide +kernel
theorem dX11_hide_42 : decode cX11_hide 42 = .ok (.iload_n 2, 1) := by decide +kernel
theorem dX11_hide_43 : decode cX11_hide 43 = .ok (.invokevirtual 268, 3) := by decide +kernel
theorem dX11_hide_46 : decode cX11_hide 46 = .ok (.iload_n 3, 1) := by decide +kernel
theorem dX11_hide_47 : decode cX11_hide 47 = .ok (.ifCond .ne 13, 3) := by decide +kernel
theorem dX11_hide_50 : decode cX11_hide 50 = .ok (.aload_n 0, 1) := by decide +kernel
theorem dX11_hide_51 : decode cX11_hide 51 = .ok (.getfield 44, 3) := by decide +kernel
theorem dX11_hide_54 : decode cX11_hide 54 = .ok (.getfield 238, 3) := by decide +kernel
theorem dX11_hide_57 : decode cX11_hide 57 = .ok (.goto 10, 3) := by decide +kernel
theorem dX11_hide_60 : decode cX11_hide 60 = .ok (.aload_n 0, 1) := by decide +kernel
theorem dX11_hide_61 : decode cX11_hide 61 = .ok (.getfield 44, 3) := by decide +kernel
theorem dX11_hide_64 : decode cX11_hide 64 = .ok (.getfield 241, 3) := by decide +kernel
theorem dX11_hide_67 : decode cX11_hide 67 = .ok (.ireturn, 1) := by decide +kernel
theorem dX11_word_0 : decode cX11_word 0 = .ok (.aload_n 0, 1) := by decide +kernel
theorem dX11_word_1 : decode cX11_word 1 = .ok (.iconst 0, 1) := by decide +kernel
theorem dX11_word_2 : decode cX11_word 2 = .ok (.putfield 91, 3) := by decide +kernel
theorem dX11_word_5 : decode cX11_word 5 = .ok (.aload_n 0, 1) := by decide +kernel
theorem dX11_word_6 : decode cX11_word 6 = .ok (.iload_n 1, 1) := by decide +kernel
theorem dX11_word_7 : decode cX11_word 7 = .ok (.iload_n 2, 1) := by decide +kernel
theorem dX11_word_8 : decode cX11_word 8 = .ok (.invokevirtual 159, 3) := by decide +kernel
theorem dX11_word_11 : decode cX11_word 11 = .ok (.ifCond .eq 14, 3) := by decide +kernel
theorem dX11_word_14 : decode cX11_word 14 = .ok (.iload_n 3, 1) := by decide +kernel
theorem dX11_word_15 : decode cX11_word 15 = .ok (.iconst 1, 1) := by decide +kernel
theorem dX11_word_16 : decode cX11_word 16 = .ok (.if_icmp .lt 9, 3) := by decide +kernel
theorem dX11_word_19 : decode cX11_word 19 = .ok (.iload_n 3, 1) := by decide +kernel
theorem dX11_word_20 : decode cX11_word 20 = .ok (.bipush 60, 2) := by decide +kernel
theorem dX11_word_22 : decode cX11_word 22 = .ok (.if_icmp .le 5, 3) := by decide +kernel
theorem dX11_word_25 : decode cX11_word 25 = .ok (.iconst (-1), 1) := by decide +kernel
theorem dX11_word_26 : decode cX11_word 26 = .ok (.ireturn, 1) := by decide +kernel
theorem dX11_word_27 : decode cX11_word 27 = .ok (.aload_n 0, 1) := by decide +kernel
theorem dX11_word_28 : decode cX11_word 28 = .ok (.getfield 44, 3) := by decide +kernel
theorem dX11_word_31 : decode cX11_word 31 = .ok (.aload_n 0, 1) := by decide +kernel
theorem dX11_word_32 : decode cX11_word 32 = .ok (.getfield 83, 3) := by decide +kernel
theorem dX11_word_35 : decode cX11_word 35 = .ok (.aload_n 0, 1) := by decide +kernel
theorem dX11_word_36 : decode cX11_word 36 = .ok (.getfield 23, 3) := by decide +kernel
theorem dX11_word_39 : decode cX11_word 39 = .ok (.iload_n 1, 1) := by decide +kernel
theorem dX11_word_40 : decode cX11_word 40 = .ok (.iload_n 2, 1) := by decide +kernel
theorem dX11_word_41 : decode cX11_word 41 = .ok (.invokestatic 166, 3) := by decide +kernel
theorem dX11_word_44 : decode cX11_word 44 = .ok (.iload_n 3, 1) := by decide +kernel
theorem dX11_word_45 : decode cX11_word 45 = .ok (.invokevirtual 271, 3) := by decide +kernel
theorem dX11_word_48 : decode cX11_word 48 = .ok (.istore 4, 2) := by decide +kernel
theorem dX11_word_50 : decode cX11_word 50 = .ok (.iload 4, 2) := by decide +kernel
theorem dX11_word_52 : decode cX11_word 52 = .ok (.ifCond .le 34, 3) := by decide +kernel
theorem dX11_word_55 : decode cX11_word 55 = .ok (.aload_n 0, 1) := by decide +kernel
theorem dX11_word_56 : decode cX11_word 56 = .ok (.getfield 77, 3) := by decide +kernel
theorem dX11_word_59 : decode cX11_word 59 = .ok (.iconst 0, 1) := by decide +kernel
theorem dX11_word_60 : decode cX11_word 60 = .ok (.aload_n 0, 1) := by decide +kernel
theorem dX11_word_61 : decode cX11_word 61 = .ok (.getfield 44, 3) := by decide +kernel
theorem dX11_word_64 : decode cX11_word 64 = .ok (.getfield 238, 3) := by decide +kernel
theorem dX11_word_67 : decode cX11_word 67 = .ok (.iastore, 1) := by decide +kernel
theorem dX11_word_68 : decode cX11_word 68 = .ok (.aload_n 0, 1) := by decide +kernel
theorem dX11_word_69 : decode cX11_word 69 = .ok (.getfield 77, 3) := by decide +kernel
theorem dX11_word_72 : decode cX11_word 72 = .ok (.iconst 1, 1) := by decide +kernel
theorem dX11_word_73 : decode cX11_word 73 = .ok (.aload_n 0, 1) := by decide +kernel
theorem dX11_word_74 : decode cX11_word 74 = .ok (.getfield 44, 3) := by decide +kernel
theorem dX11_word_77 : decode cX11_word 77 = .ok (.getfield 241, 3) := by decide +kernel
theorem dX11_word_80 : decode cX11_word 80 = .ok (.iastore, 1) := by decide +kernel
theorem dX11_word_81 : decode cX11_word 81 = .ok (.aload_n 0, 1) := by decide +kernel
theorem dX11_word_82 : decode cX11_word 82 = .ok (.iconst 2, 1) := by decide +kernel
theorem dX11_word_83 : decode cX11_word 83 = .ok (.putfield 91, 3) := by decide +kernel
theorem dX11_word_86 : decode cX11_word 86 = .ok (.iload 4, 2) := by decide +kernel
theorem dX11_word_88 : decode cX11_word 88 = .ok (.ireturn, 1) := by decide +kernel
theorem dX11_lies_0 : decode cX11_lies 0 = .ok (.iload_n 1, 1) := by decide +kernel
theorem dX11_lies_1 : decode cX11_lies 1 = .ok (.ifCond .lt 20, 3) := by decide +kernel
theorem dX11_lies_4 : decode cX11_lies 4 = .ok (.iload_n 1, 1) := by decide +kernel
theorem dX11_lies_5 : decode cX11_lies 5 = .ok (.aload_n 0, 1) := by decide +kernel
theorem dX11_lies_6 : decode cX11_lies 6 = .ok (.getfield 91, 3) := by decide +kernel
theorem dX11_lies_9 : decode cX11_lies 9 = .ok (.if_icmp .ge 12, 3) := by decide +kernel
theorem dX11_lies_12 : decode cX11_lies 12 = .ok (.aload_n 0, 1) := by decide +kernel
theorem dX11_lies_13 : decode cX11_lies 13 = .ok (.getfield 77, 3) := by decide +kernel
theorem dX11_lies_16 : decode cX11_lies 16 = .ok (.iload_n 1, 1) := by decide +kernel
theorem dX11_lies_17 : decode cX11_lies 17 = .ok (.iaload, 1) := by decide +kernel
theorem dX11_lies_18 : decode cX11_lies 18 = .ok (.goto 6, 3) := by decide +kernel
theorem dX11_lies_21 : decode cX11_lies 21 = .ok (.ldc_w 274, 3) := by decide +kernel
theorem dX11_lies_24 : decode cX11_lies 24 = .ok (.ireturn, 1) := by decide +kernel
theorem dX11_step_0 : decode cX11_step 0 = .ok (.aload_n 0, 1) := by decide +kernel
theorem dX11_step_1 : decode cX11_step 1 = .ok (.iload_n 1, 1) := by decide +kernel
theorem dX11_step_2 : decode cX11_step 2 = .ok (.invokevirtual 125, 3) := by decide +kernel
theorem dX11_step_5 : decode cX11_step 5 = .ok (.ifCond .eq 28, 3) := by decide +kernel
theorem dX11_step_8 : decode cX11_step 8 = .ok (.iload_n 2, 1) := by decide +kernel
theorem dX11_step_9 : decode cX11_step 9 = .ok (.ifCond .lt 24, 3) := by decide +kernel
theorem dX11_step_12 : decode cX11_step 12 = .ok (.iload_n 2, 1) := by decide +kernel
theorem dX11_step_13 : decode cX11_step 13 = .ok (.aload_n 0, 1) := by decide +kernel
theorem dX11_step_14 : decode cX11_step 14 = .ok (.getfield 83, 3) := by decide +kernel
theorem dX11_step_17 : decode cX11_step 17 = .ok (.getfield 177, 3) := by decide +kernel
theorem dX11_step_20 : decode cX11_step 20 = .ok (.if_icmp .ge 13, 3) := by decide +kernel
theorem dX11_step_23 : decode cX11_step 23 = .ok (.iload_n 3, 1) := by decide +kernel
theorem dX11_step_24 : decode cX11_step 24 = .ok (.ifCond .lt 9, 3) := by decide +kernel
theorem dX11_step_27 : decode cX11_step 27 = .ok (.iload_n 3, 1) := by decide +kernel
theorem dX11_step_28 : decode cX11_step 28 = .ok (.bipush 20, 2) := by decide +kernel
theorem dX11_step_30 : decode cX11_step 30 = .ok (.if_icmp .le 5, 3) := by decide +kernel
theorem dX11_step_33 : decode cX11_step 33 = .ok (.iconst (-1), 1) := by decide +kernel
theorem dX11_step_34 : decode cX11_step 34 = .ok (.ireturn, 1) := by decide +kernel
theorem dX11_step_35 : decode cX11_step 35 = .ok (.aload_n 0, 1) := by decide +kernel
theorem dX11_step_36 : decode cX11_step 36 = .ok (.getfield 65, 3) := by decide +kernel
theorem dX11_step_39 : decode cX11_step 39 = .ok (.iload_n 1, 1) := by decide +kernel
theorem dX11_step_40 : decode cX11_step 40 = .ok (.iload_n 2, 1) := by decide +kernel
theorem dX11_step_41 : decode cX11_step 41 = .ok (.iload_n 3, 1) := by decide +kernel
theorem dX11_step_42 : decode cX11_step 42 = .ok (.invokevirtual 275, 3) := by decide +kernel
theorem dX11_step_45 : decode cX11_step 45 = .ok (.ireturn, 1) := by decide +kernel
theorem dX11_untell_0 : decode cX11_untell 0 = .ok (.aload_n 0, 1) := by decide +kernel
theorem dX11_untell_1 : decode cX11_untell 1 = .ok (.getfield 65, 3) := by decide +kernel
theorem dX11_untell_4 : decode cX11_untell 4 = .ok (.iload_n 1, 1) := by decide +kernel
theorem dX11_untell_5 : decode cX11_untell 5 = .ok (.invokevirtual 279, 3) := by decide +kernel
theorem dX11_untell_8 : decode cX11_untell 8 = .ok (.ireturn, 1) := by decide +kernel
theorem dX11_later_0 : decode cX11_later 0 = .ok (.aload_n 0, 1) := by decide +kernel
theorem dX11_later_1 : decode cX11_later 1 = .ok (.getfield 65, 3) := by decide +kernel
theorem dX11_later_4 : decode cX11_later 4 = .ok (.iload_n 1, 1) := by decide +kernel
theorem dX11_later_5 : decode cX11_later 5 = .ok (.invokevirtual 282, 3) := by decide +kernel
theorem dX11_later_8 : decode cX11_later 8 = .ok (.ireturn, 1) := by decide +kernel
theorem dX11_fit_0 : decode cX11_fit 0 = .ok (.aload_n 0, 1) := by decide +kernel
theorem dX11_fit_1 : decode cX11_fit 1 = .ok (.iload_n 1, 1) := by decide +kernel
theorem dX11_fit_2 : decode cX11_fit 2 = .ok (.invokevirtual 125, 3) := by decide +kernel
theorem dX11_fit_5 : decode cX11_fit 5 = .ok (.ifCond .eq 19, 3) := by decide +kernel
theorem dX11_fit_8 : decode cX11_fit 8 = .ok (.aload_n 0, 1) := by decide +kernel
theorem dX11_fit_9 : decode cX11_fit 9 = .ok (.getfield 65, 3) := by decide +kernel
theorem dX11_fit_12 : decode cX11_fit 12 = .ok (.aload_n 0, 1) := by decide +kernel
theorem dX11_fit_13 : decode cX11_fit 13 = .ok (.getfield 83, 3) := by decide +kernel
theorem dX11_fit_16 : decode cX11_fit 16 = .ok (.iload_n 1, 1) := by decide +kernel
theorem dX11_fit_17 : decode cX11_fit 17 = .ok (.iload_n 2, 1) := by decide +kernel
theorem dX11_fit_18 : decode cX11_fit 18 = .ok (.invokevirtual 285, 3) := by decide +kernel
theorem dX11_fit_21 : decode cX11_fit 21 = .ok (.goto 4, 3) := by decide +kernel
theorem dX11_fit_24 : decode cX11_fit 24 = .ok (.iconst (-1), 1) := by decide +kernel
theorem dX11_fit_25 : decode cX11_fit 25 = .ok (.ireturn, 1) := by decide +kernel
theorem dX11_sham_0 : decode cX11_sham 0 = .ok (.iconst 0, 1) := by decide +kernel
theorem dX11_sham_1 : decode cX11_sham 1 = .ok (.istore_n 2, 1) := by decide +kernel
theorem dX11_sham_2 : decode cX11_sham 2 = .ok (.iconst 0, 1) := by decide +kernel
theorem dX11_sham_3 : decode cX11_sham 3 = .ok (.istore_n 3, 1) := by decide +kernel
theorem dX11_sham_4 : decode cX11_sham 4 = .ok (.iload_n 3, 1) := by decide +kernel
theorem dX11_sham_5 : decode cX11_sham 5 = .ok (.aload_n 0, 1) := by decide +kernel
theorem dX11_sham_6 : decode cX11_sham 6 = .ok (.getfield 83, 3) := by decide +kernel
theorem dX11_sham_9 : decode cX11_sham 9 = .ok (.getfield 116, 3) := by decide +kernel
theorem dX11_sham_12 : decode cX11_sham 12 = .ok (.if_icmp .ge 31, 3) := by decide +kernel
theorem dX11_sham_15 : decode cX11_sham 15 = .ok (.aload_n 0, 1) := by decide +kernel
theorem dX11_sham_16 : decode cX11_sham 16 = .ok (.getfield 65, 3) := by decide +kernel
theorem dX11_sham_19 : decode cX11_sham 19 = .ok (.aload_n 0, 1) := by decide +kernel
theorem dX11_sham_20 : decode cX11_sham 20 = .ok (.getfield 83, 3) := by decide +kernel
theorem dX11_sham_23 : decode cX11_sham 23 = .ok (.iload_n 3, 1) := by decide +kernel
theorem dX11_sham_24 : decode cX11_sham 24 = .ok (.iload_n 1, 1) := by decide +kernel
theorem dX11_sham_25 : decode cX11_sham 25 = .ok (.invokevirtual 285, 3) := by decide +kernel
theorem dX11_sham_28 : decode cX11_sham 28 = .ok (.ifCond .ne 9, 3) := by decide +kernel
theorem dX11_sham_31 : decode cX11_sham 31 = .ok (.iload_n 2, 1) := by decide +kernel
theorem dX11_sham_32 : decode cX11_sham 32 = .ok (.iconst 1, 1) := by decide +kernel
theorem dX11_sham_33 : decode cX11_sham 33 = .ok (.iload_n 3, 1) := by decide +kernel
theorem dX11_sham_34 : decode cX11_sham 34 = .ok (.ishl, 1) := by decide +kernel
theorem dX11_sham_35 : decode cX11_sham 35 = .ok (.ior, 1) := by decide +kernel
theorem dX11_sham_36 : decode cX11_sham 36 = .ok (.istore_n 2, 1) := by decide +kernel
theorem dX11_sham_37 : decode cX11_sham 37 = .ok (.iinc 3 1, 3) := by decide +kernel
theorem dX11_sham_40 : decode cX11_sham 40 = .ok (.goto (-36), 3) := by decide +kernel
theorem dX11_sham_43 : decode cX11_sham 43 = .ok (.iload_n 2, 1) := by decide +kernel
theorem dX11_sham_44 : decode cX11_sham 44 = .ok (.ireturn, 1) := by decide +kernel
theorem dX11_ask_0 : decode cX11_ask 0 = .ok (.aload_n 0, 1) := by decide +kernel
theorem dX11_ask_1 : decode cX11_ask 1 = .ok (.iload_n 1, 1) := by decide +kernel
theorem dX11_ask_2 : decode cX11_ask 2 = .ok (.invokevirtual 125, 3) := by decide +kernel
theorem dX11_ask_5 : decode cX11_ask 5 = .ok (.ifCond .eq 26, 3) := by decide +kernel
theorem dX11_ask_8 : decode cX11_ask 8 = .ok (.iload_n 2, 1) := by decide +kernel
theorem dX11_ask_9 : decode cX11_ask 9 = .ok (.invokestatic 231, 3) := by decide +kernel
theorem dX11_ask_12 : decode cX11_ask 12 = .ok (.ifCond .eq 19, 3) := by decide +kernel
theorem dX11_ask_15 : decode cX11_ask 15 = .ok (.aload_n 0, 1) := by decide +kernel
theorem dX11_ask_16 : decode cX11_ask 16 = .ok (.getfield 65, 3) := by decide +kernel
theorem dX11_ask_19 : decode cX11_ask 19 = .ok (.aload_n 0, 1) := by decide +kernel
theorem dX11_ask_20 : decode cX11_ask 20 = .ok (.getfield 83, 3) := by decide +kernel
theorem dX11_ask_23 : decode cX11_ask 23 = .ok (.iload_n 1, 1) := by decide +kernel
theorem dX11_ask_24 : decode cX11_ask 24 = .ok (.iload_n 3, 1) := by decide +kernel
theorem dX11_ask_25 : decode cX11_ask 25 = .ok (.invokevirtual 288, 3) := by decide +kernel
theorem dX11_ask_28 : decode cX11_ask 28 = .ok (.ifCond .ne 5, 3) := by decide +kernel
theorem dX11_ask_31 : decode cX11_ask 31 = .ok (.iconst (-1), 1) := by decide +kernel
theorem dX11_ask_32 : decode cX11_ask 32 = .ok (.ireturn, 1) := by decide +kernel
theorem dX11_ask_33 : decode cX11_ask 33 = .ok (.iload_n 2, 1) := by decide +kernel
theorem dX11_ask_34 : decode cX11_ask 34 = .ok (.ifCond .ne 13, 3) := by decide +kernel
theorem dX11_ask_37 : decode cX11_ask 37 = .ok (.aload_n 0, 1) := by decide +kernel
theorem dX11_ask_38 : decode cX11_ask 38 = .ok (.getfield 65, 3) := by decide +kernel
theorem dX11_ask_41 : decode cX11_ask 41 = .ok (.getfield 292, 3) := by decide +kernel
theorem dX11_ask_44 : decode cX11_ask 44 = .ok (.goto 10, 3) := by decide +kernel
theorem dX11_ask_47 : decode cX11_ask 47 = .ok (.aload_n 0, 1) := by decide +kernel
theorem dX11_ask_48 : decode cX11_ask 48 = .ok (.getfield 65, 3) := by decide +kernel
theorem dX11_ask_51 : decode cX11_ask 51 = .ok (.getfield 295, 3) := by decide +kernel
theorem dX11_ask_54 : decode cX11_ask 54 = .ok (.ireturn, 1) := by decide +kernel
theorem dX11_image_0 : decode cX11_image 0 = .ok (.iload_n 1, 1) := by decide +kernel
theorem dX11_image_1 : decode cX11_image 1 = .ok (.ifCond .lt 8, 3) := by decide +kernel
theorem dX11_image_4 : decode cX11_image 4 = .ok (.iload_n 1, 1) := by decide +kernel
theorem dX11_image_5 : decode cX11_image 5 = .ok (.iconst 3, 1) := by decide +kernel
theorem dX11_image_6 : decode cX11_image 6 = .ok (.if_icmp .lt 5, 3) := by decide +kernel
theorem dX11_image_9 : decode cX11_image 9 = .ok (.iconst (-1), 1) := by decide +kernel
theorem dX11_image_10 : decode cX11_image 10 = .ok (.ireturn, 1) := by decide +kernel
theorem dX11_image_11 : decode cX11_image 11 = .ok (.aload_n 0, 1) := by decide +kernel
theorem dX11_image_12 : decode cX11_image 12 = .ok (.getfield 23, 3) := by decide +kernel
theorem dX11_image_15 : decode cX11_image 15 = .ok (.aload_n 0, 1) := by decide +kernel
theorem dX11_image_16 : decode cX11_image 16 = .ok (.getfield 69, 3) := by decide +kernel
theorem dX11_image_19 : decode cX11_image 19 = .ok (.iload_n 1, 1) := by decide +kernel
theorem dX11_image_20 : decode cX11_image 20 = .ok (.bipush 63, 2) := by decide +kernel
theorem dX11_image_22 : decode cX11_image 22 = .ok (.imul, 1) := by decide +kernel
theorem dX11_image_23 : decode cX11_image 23 = .ok (.invokevirtual 298, 3) := by decide +kernel
theorem dX11_image_26 : decode cX11_image 26 = .ok (.aload_n 0, 1) := by decide +kernel
theorem dX11_image_27 : decode cX11_image 27 = .ok (.getfield 73, 3) := by decide +kernel
theorem dX11_image_30 : decode cX11_image 30 = .ok (.iload_n 1, 1) := by decide +kernel
theorem dX11_image_31 : decode cX11_image 31 = .ok (.iconst 1, 1) := by decide +kernel
theorem dX11_image_32 : decode cX11_image 32 = .ok (.bastore, 1) := by decide +kernel
theorem dX11_image_33 : decode cX11_image 33 = .ok (.aload_n 0, 1) := by decide +kernel
theorem dX11_image_34 : decode cX11_image 34 = .ok (.getfield 23, 3) := by decide +kernel
theorem dX11_image_37 : decode cX11_image 37 = .ok (.getfield 191, 3) := by decide +kernel
theorem dX11_image_40 : decode cX11_image 40 = .ok (.ireturn, 1) := by decide +kernel
theorem dX11_back_0 : decode cX11_back 0 = .ok (.iload_n 1, 1) := by decide +kernel
theorem dX11_back_1 : decode cX11_back 1 = .ok (.ifCond .lt 17, 3) := by decide +kernel
theorem dX11_back_4 : decode cX11_back 4 = .ok (.iload_n 1, 1) := by decide +kernel
theorem dX11_back_5 : decode cX11_back 5 = .ok (.iconst 3, 1) := by decide +kernel
theorem dX11_back_6 : decode cX11_back 6 = .ok (.if_icmp .ge 12, 3) := by decide +kernel
theorem dX11_back_9 : decode cX11_back 9 = .ok (.aload_n 0, 1) := by decide +kernel
theorem dX11_back_10 : decode cX11_back 10 = .ok (.getfield 73, 3) := by decide +kernel
theorem dX11_back_13 : decode cX11_back 13 = .ok (.iload_n 1, 1) := by decide +kernel
theorem dX11_back_14 : decode cX11_back 14 = .ok (.baload, 1) := by decide +kernel
theorem dX11_back_15 : decode cX11_back 15 = .ok (.ifCond .ne 5, 3) := by decide +kernel
theorem dX11_back_18 : decode cX11_back 18 = .ok (.iconst (-1), 1) := by decide +kernel
theorem dX11_back_19 : decode cX11_back 19 = .ok (.ireturn, 1) := by decide +kernel
theorem dX11_back_20 : decode cX11_back 20 = .ok (.aload_n 0, 1) := by decide +kernel
theorem dX11_back_21 : decode cX11_back 21 = .ok (.getfield 23, 3) := by decide +kernel
theorem dX11_back_24 : decode cX11_back 24 = .ok (.aload_n 0, 1) := by decide +kernel
theorem dX11_back_25 : decode cX11_back 25 = .ok (.getfield 69, 3) := by decide +kernel
theorem dX11_back_28 : decode cX11_back 28 = .ok (.iload_n 1, 1) := by decide +kernel
theorem dX11_back_29 : decode cX11_back 29 = .ok (.bipush 63, 2) := by decide +kernel
theorem dX11_back_31 : decode cX11_back 31 = .ok (.imul, 1) := by decide +kernel
theorem dX11_back_32 : decode cX11_back 32 = .ok (.invokevirtual 301, 3) := by decide +kernel
theorem dX11_back_35 : decode cX11_back 35 = .ok (.aload_n 0, 1) := by decide +kernel
theorem dX11_back_36 : decode cX11_back 36 = .ok (.getfield 30, 3) := by decide +kernel
theorem dX11_back_39 : decode cX11_back 39 = .ok (.aload_n 0, 1) := by decide +kernel
theorem dX11_back_40 : decode cX11_back 40 = .ok (.getfield 23, 3) := by decide +kernel
theorem dX11_back_43 : decode cX11_back 43 = .ok (.invokevirtual 110, 3) := by decide +kernel
theorem dX11_back_46 : decode cX11_back 46 = .ok (.aload_n 0, 1) := by decide +kernel
theorem dX11_back_47 : decode cX11_back 47 = .ok (.getfield 23, 3) := by decide +kernel
theorem dX11_back_50 : decode cX11_back 50 = .ok (.getfield 191, 3) := by decide +kernel
theorem dX11_back_53 : decode cX11_back 53 = .ok (.ireturn, 1) := by decide +kernel
theorem dX11_about_0 : decode cX11_about 0 = .ok (.iload_n 1, 1) := by decide +kernel
theorem dX11_about_1 : decode cX11_about 1 = .ok (.tableswitch 188 0 13 #[71, 79, 87, 95, 103, 111, 119, 135, 143, 151, 156, 164, 175, 180], 71) := by decide +kernel
theorem dX11_about_72 : decode cX11_about 72 = .ok (.aload_n 0, 1) := by decide +kernel
theorem dX11_about_73 : decode cX11_about 73 = .ok (.getfield 83, 3) := by decide +kernel
theorem dX11_about_76 : decode cX11_about 76 = .ok (.getfield 116, 3) := by decide +kernel
theorem dX11_about_79 : decode cX11_about 79 = .ok (.ireturn, 1) := by decide +kernel
theorem dX11_about_80 : decode cX11_about 80 = .ok (.aload_n 0, 1) := by decide +kernel
theorem dX11_about_81 : decode cX11_about 81 = .ok (.getfield 83, 3) := by decide +kernel
theorem dX11_about_84 : decode cX11_about 84 = .ok (.getfield 177, 3) := by decide +kernel
theorem dX11_about_87 : decode cX11_about 87 = .ok (.ireturn, 1) := by decide +kernel
theorem dX11_about_88 : decode cX11_about 88 = .ok (.aload_n 0, 1) := by decide +kernel
theorem dX11_about_89 : decode cX11_about 89 = .ok (.getfield 23, 3) := by decide +kernel
theorem dX11_about_92 : decode cX11_about 92 = .ok (.getfield 304, 3) := by decide +kernel
theorem dX11_about_95 : decode cX11_about 95 = .ok (.ireturn, 1) := by decide +kernel
theorem dX11_about_96 : decode cX11_about 96 = .ok (.aload_n 0, 1) := by decide +kernel
theorem dX11_about_97 : decode cX11_about 97 = .ok (.getfield 23, 3) := by decide +kernel
theorem dX11_about_100 : decode cX11_about 100 = .ok (.getfield 307, 3) := by decide +kernel
theorem dX11_about_103 : decode cX11_about 103 = .ok (.ireturn, 1) := by decide +kernel
theorem dX11_about_104 : decode cX11_about 104 = .ok (.aload_n 0, 1) := by decide +kernel
theorem dX11_about_105 : decode cX11_about 105 = .ok (.getfield 23, 3) := by decide +kernel
theorem dX11_about_108 : decode cX11_about 108 = .ok (.getfield 191, 3) := by decide +kernel
theorem dX11_about_111 : decode cX11_about 111 = .ok (.ireturn, 1) := by decide +kernel
theorem dX11_about_112 : decode cX11_about 112 = .ok (.aload_n 0, 1) := by decide +kernel
theorem dX11_about_113 : decode cX11_about 113 = .ok (.getfield 30, 3) := by decide +kernel
theorem dX11_about_116 : decode cX11_about 116 = .ok (.getfield 310, 3) := by decide +kernel
theorem dX11_about_119 : decode cX11_about 119 = .ok (.ireturn, 1) := by decide +kernel
theorem dX11_about_120 : decode cX11_about 120 = .ok (.aload_n 0, 1) := by decide +kernel
theorem dX11_about_121 : decode cX11_about 121 = .ok (.getfield 30, 3) := by decide +kernel
theorem dX11_about_124 : decode cX11_about 124 = .ok (.getfield 313, 3) := by decide +kernel
theorem dX11_about_127 : decode cX11_about 127 = .ok (.aload_n 0, 1) := by decide +kernel
theorem dX11_about_128 : decode cX11_about 128 = .ok (.getfield 30, 3) := by decide +kernel
theorem dX11_about_131 : decode cX11_about 131 = .ok (.getfield 310, 3) := by decide +kernel
theorem dX11_about_134 : decode cX11_about 134 = .ok (.isub, 1) := by decide +kernel
theorem dX11_about_135 : decode cX11_about 135 = .ok (.ireturn, 1) := by decide +kernel
theorem dX11_about_136 : decode cX11_about 136 = .ok (.aload_n 0, 1) := by decide +kernel
theorem dX11_about_137 : decode cX11_about 137 = .ok (.getfield 65, 3) := by decide +kernel
theorem dX11_about_140 : decode cX11_about 140 = .ok (.getfield 316, 3) := by decide +kernel
theorem dX11_about_143 : decode cX11_about 143 = .ok (.ireturn, 1) := by decide +kernel
theorem dX11_about_144 : decode cX11_about 144 = .ok (.aload_n 0, 1) := by decide +kernel
theorem dX11_about_145 : decode cX11_about 145 = .ok (.getfield 65, 3) := by decide +kernel
theorem dX11_about_148 : decode cX11_about 148 = .ok (.getfield 317, 3) := by decide +kernel
theorem dX11_about_151 : decode cX11_about 151 = .ok (.ireturn, 1) := by decide +kernel
theorem dX11_about_152 : decode cX11_about 152 = .ok (.aload_n 0, 1) := by decide +kernel
theorem dX11_about_153 : decode cX11_about 153 = .ok (.getfield 87, 3) := by decide +kernel
theorem dX11_about_156 : decode cX11_about 156 = .ok (.ireturn, 1) := by decide +kernel
theorem dX11_about_157 : decode cX11_about 157 = .ok (.aload_n 0, 1) := by decide +kernel
theorem dX11_about_158 : decode cX11_about 158 = .ok (.getfield 83, 3) := by decide +kernel
theorem dX11_about_161 : decode cX11_about 161 = .ok (.getfield 320, 3) := by decide +kernel
theorem dX11_about_164 : decode cX11_about 164 = .ok (.ireturn, 1) := by decide +kernel
theorem dX11_about_165 : decode cX11_about 165 = .ok (.aload_n 0, 1) := by decide +kernel
theorem dX11_about_166 : decode cX11_about 166 = .ok (.getfield 83, 3) := by decide +kernel
theorem dX11_about_169 : decode cX11_about 169 = .ok (.getfield 323, 3) := by decide +kernel
theorem dX11_about_172 : decode cX11_about 172 = .ok (.getfield 327, 3) := by decide +kernel
theorem dX11_about_175 : decode cX11_about 175 = .ok (.ireturn, 1) := by decide +kernel
theorem dX11_about_176 : decode cX11_about 176 = .ok (.aload_n 0, 1) := by decide +kernel
theorem dX11_about_177 : decode cX11_about 177 = .ok (.getfield 91, 3) := by decide +kernel
theorem dX11_about_180 : decode cX11_about 180 = .ok (.ireturn, 1) := by decide +kernel
theorem dX11_about_181 : decode cX11_about 181 = .ok (.aload_n 0, 1) := by decide +kernel
theorem dX11_about_182 : decode cX11_about 182 = .ok (.getfield 23, 3) := by decide +kernel
theorem dX11_about_185 : decode cX11_about 185 = .ok (.invokevirtual 332, 3) := by decide +kernel
theorem dX11_about_188 : decode cX11_about 188 = .ok (.ireturn, 1) := by decide +kernel
theorem dX11_about_189 : decode cX11_about 189 = .ok (.iconst (-1), 1) := by decide +kernel
theorem dX11_about_190 : decode cX11_about 190 = .ok (.ireturn, 1) := by decide +kernel
theorem dX11_putOnTape_0 : decode cX11_putOnTape 0 = .ok (.bipush 24, 2) := by decide +kernel
theorem dX11_putOnTape_2 : decode cX11_putOnTape 2 = .ok (.istore_n 2, 1) := by decide +kernel
theorem dX11_putOnTape_3 : decode cX11_putOnTape 3 = .ok (.iload_n 2, 1) := by decide +kernel
theorem dX11_putOnTape_4 : decode cX11_putOnTape 4 = .ok (.ifCond .lt 42, 3) := by decide +kernel
theorem dX11_putOnTape_7 : decode cX11_putOnTape 7 = .ok (.aload_n 0, 1) := by decide +kernel
theorem dX11_putOnTape_8 : decode cX11_putOnTape 8 = .ok (.getfield 87, 3) := by decide +kernel
theorem dX11_putOnTape_11 : decode cX11_putOnTape 11 = .ok (.sipush 1600, 3) := by decide +kernel
theorem dX11_putOnTape_14 : decode cX11_putOnTape 14 = .ok (.if_icmp .ge 32, 3) := by decide +kernel
theorem dX11_putOnTape_17 : decode cX11_putOnTape 17 = .ok (.aload_n 0, 1) := by decide +kernel
theorem dX11_putOnTape_18 : decode cX11_putOnTape 18 = .ok (.getfield 9, 3) := by decide +kernel
theorem dX11_putOnTape_21 : decode cX11_putOnTape 21 = .ok (.aload_n 0, 1) := by decide +kernel
theorem dX11_putOnTape_22 : decode cX11_putOnTape 22 = .ok (.getfield 87, 3) := by decide +kernel
theorem dX11_putOnTape_25 : decode cX11_putOnTape 25 = .ok (.iload_n 1, 1) := by decide +kernel
theorem dX11_putOnTape_26 : decode cX11_putOnTape 26 = .ok (.iload_n 2, 1) := by decide +kernel
theorem dX11_putOnTape_27 : decode cX11_putOnTape 27 = .ok (.iushr, 1) := by decide +kernel
theorem dX11_putOnTape_28 : decode cX11_putOnTape 28 = .ok (.i2b, 1) := by decide +kernel
theorem dX11_putOnTape_29 : decode cX11_putOnTape 29 = .ok (.bastore, 1) := by decide +kernel
theorem dX11_putOnTape_30 : decode cX11_putOnTape 30 = .ok (.aload_n 0, 1) := by decide +kernel
theorem dX11_putOnTape_31 : decode cX11_putOnTape 31 = .ok (.dup, 1) := by decide +kernel
theorem dX11_putOnTape_32 : decode cX11_putOnTape 32 = .ok (.getfield 87, 3) := by decide +kernel
theorem dX11_putOnTape_35 : decode cX11_putOnTape 35 = .ok (.iconst 1, 1) := by decide +kernel
theorem dX11_putOnTape_36 : decode cX11_putOnTape 36 = .ok (.iadd, 1) := by decide +kernel
theorem dX11_putOnTape_37 : decode cX11_putOnTape 37 = .ok (.putfield 87, 3) := by decide +kernel
theorem dX11_putOnTape_40 : decode cX11_putOnTape 40 = .ok (.iinc 2 (-8), 3) := by decide +kernel
theorem dX11_putOnTape_43 : decode cX11_putOnTape 43 = .ok (.goto (-40), 3) := by decide +kernel
theorem dX11_putOnTape_46 : decode cX11_putOnTape 46 = .ok (.return_, 1) := by decide +kernel
theorem dX11_layDown_0 : decode cX11_layDown 0 = .ok (.aload_n 0, 1) := by decide +kernel
theorem dX11_layDown_1 : decode cX11_layDown 1 = .ok (.iload_n 2, 1) := by decide +kernel
theorem dX11_layDown_2 : decode cX11_layDown 2 = .ok (.aload_n 0, 1) := by decide +kernel
theorem dX11_layDown_3 : decode cX11_layDown 3 = .ok (.getfield 77, 3) := by decide +kernel
theorem dX11_layDown_6 : decode cX11_layDown 6 = .ok (.arraylength, 1) := by decide +kernel
theorem dX11_layDown_7 : decode cX11_layDown 7 = .ok (.invokestatic 198, 3) := by decide +kernel
theorem dX11_layDown_10 : decode cX11_layDown 10 = .ok (.putfield 91, 3) := by decide +kernel
theorem dX11_layDown_13 : decode cX11_layDown 13 = .ok (.aload_n 1, 1) := by decide +kernel
theorem dX11_layDown_14 : decode cX11_layDown 14 = .ok (.iconst 0, 1) := by decide +kernel
theorem dX11_layDown_15 : decode cX11_layDown 15 = .ok (.aload_n 0, 1) := by decide +kernel
theorem dX11_layDown_16 : decode cX11_layDown 16 = .ok (.getfield 77, 3) := by decide +kernel
theorem dX11_layDown_19 : decode cX11_layDown 19 = .ok (.iconst 0, 1) := by decide +kernel
theorem dX11_layDown_20 : decode cX11_layDown 20 = .ok (.aload_n 0, 1) := by decide +kernel
theorem dX11_layDown_21 : decode cX11_layDown 21 = .ok (.getfield 91, 3) := by decide +kernel
theorem dX11_layDown_24 : decode cX11_layDown 24 = .ok (.invokestatic 336, 3) := by decide +kernel
theorem dX11_layDown_27 : decode cX11_layDown 27 = .ok (.return_, 1) := by decide +kernel
theorem dX11_isPerson_0 : decode cX11_isPerson 0 = .ok (.iload_n 1, 1) := by decide +kernel
theorem dX11_isPerson_1 : decode cX11_isPerson 1 = .ok (.ifCond .lt 18, 3) := by decide +kernel
theorem dX11_isPerson_4 : decode cX11_isPerson 4 = .ok (.iload_n 1, 1) := by decide +kernel
theorem dX11_isPerson_5 : decode cX11_isPerson 5 = .ok (.aload_n 0, 1) := by decide +kernel
theorem dX11_isPerson_6 : decode cX11_isPerson 6 = .ok (.getfield 83, 3) := by decide +kernel
theorem dX11_isPerson_9 : decode cX11_isPerson 9 = .ok (.getfield 116, 3) := by decide +kernel
theorem dX11_isPerson_12 : decode cX11_isPerson 12 = .ok (.if_icmp .ge 7, 3) := by decide +kernel
theorem dX11_isPerson_15 : decode cX11_isPerson 15 = .ok (.iconst 1, 1) := by decide +kernel
theorem dX11_isPerson_16 : decode cX11_isPerson 16 = .ok (.goto 4, 3) := by decide +kernel
theorem dX11_isPerson_19 : decode cX11_isPerson 19 = .ok (.iconst 0, 1) := by decide +kernel
theorem dX11_isPerson_20 : decode cX11_isPerson 20 = .ok (.ireturn, 1) := by decide +kernel
theorem dX11_isPair_0 : decode cX11_isPair 0 = .ok (.aload_n 0, 1) := by decide +kernel
theorem dX11_isPair_1 : decode cX11_isPair 1 = .ok (.iload_n 1, 1) := by decide +kernel
theorem dX11_isPair_2 : decode cX11_isPair 2 = .ok (.invokevirtual 125, 3) := by decide +kernel
theorem dX11_isPair_5 : decode cX11_isPair 5 = .ok (.ifCond .eq 20, 3) := by decide +kernel
theorem dX11_isPair_8 : decode cX11_isPair 8 = .ok (.aload_n 0, 1) := by decide +kernel
theorem dX11_isPair_9 : decode cX11_isPair 9 = .ok (.iload_n 2, 1) := by decide +kernel
theorem dX11_isPair_10 : decode cX11_isPair 10 = .ok (.invokevirtual 125, 3) := by decide +kernel
theorem dX11_isPair_13 : decode cX11_isPair 13 = .ok (.ifCond .eq 12, 3) := by decide +kernel
theorem dX11_isPair_16 : decode cX11_isPair 16 = .ok (.iload_n 1, 1) := by decide +kernel
theorem dX11_isPair_17 : decode cX11_isPair 17 = .ok (.iload_n 2, 1) := by decide +kernel
theorem dX11_isPair_18 : decode cX11_isPair 18 = .ok (.if_icmp .eq 7, 3) := by decide +kernel
theorem dX11_isPair_21 : decode cX11_isPair 21 = .ok (.iconst 1, 1) := by decide +kernel
theorem dX11_isPair_22 : decode cX11_isPair 22 = .ok (.goto 4, 3) := by decide +kernel
theorem dX11_isPair_25 : decode cX11_isPair 25 = .ok (.iconst 0, 1) := by decide +kernel
theorem dX11_isPair_26 : decode cX11_isPair 26 = .ok (.ireturn, 1) := by decide +kernel
theorem dX11_isZeroOrOne_0 : decode cX11_isZeroOrOne 0 = .ok (.iload_n 0, 1) := by decide +kernel
theorem dX11_isZeroOrOne_1 : decode cX11_isZeroOrOne 1 = .ok (.ifCond .eq 8, 3) := by decide +kernel
theorem dX11_isZeroOrOne_4 : decode cX11_isZeroOrOne 4 = .ok (.iload_n 0, 1) := by decide +kernel
theorem dX11_isZeroOrOne_5 : decode cX11_isZeroOrOne 5 = .ok (.iconst 1, 1) := by decide +kernel
theorem dX11_isZeroOrOne_6 : decode cX11_isZeroOrOne 6 = .ok (.if_icmp .ne 7, 3) := by decide +kernel
theorem dX11_isZeroOrOne_9 : decode cX11_isZeroOrOne 9 = .ok (.iconst 1, 1) := by decide +kernel
theorem dX11_isZeroOrOne_10 : decode cX11_isZeroOrOne 10 = .ok (.goto 4, 3) := by decide +kernel
theorem dX11_isZeroOrOne_13 : decode cX11_isZeroOrOne 13 = .ok (.iconst 0, 1) := by decide +kernel
theorem dX11_isZeroOrOne_14 : decode cX11_isZeroOrOne 14 = .ok (.ireturn, 1) := by decide +kernel
theorem dX11_cell_0 : decode cX11_cell 0 = .ok (.iload_n 0, 1) := by decide +kernel
theorem dX11_cell_1 : decode cX11_cell 1 = .ok (.bipush 6, 2) := by decide +kernel
theorem dX11_cell_3 : decode cX11_cell 3 = .ok (.imul, 1) := by decide +kernel
theorem dX11_cell_4 : decode cX11_cell 4 = .ok (.iload_n 1, 1) := by decide +kernel
theorem dX11_cell_5 : decode cX11_cell 5 = .ok (.iadd, 1) := by decide +kernel
theorem dX11_cell_6 : decode cX11_cell 6 = .ok (.ireturn, 1) := by decide +kernel
