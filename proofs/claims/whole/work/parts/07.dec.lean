theorem dX9_approve_116 : decode cX9_approve 116 = .ok (.iadd, 1) := by decide +kernel
theorem dX9_approve_117 : decode cX9_approve 117 = .ok (.iaload, 1) := by decide +kernel
theorem dX9_approve_118 : decode cX9_approve 118 = .ok (.invokestatic 167, 3) := by decide +kernel
theorem dX9_approve_121 : decode cX9_approve 121 = .ok (.ireturn, 1) := by decide +kernel
theorem dX9_dismiss_0 : decode cX9_dismiss 0 = .ok (.aload_n 0, 1) := by decide +kernel
theorem dX9_dismiss_1 : decode cX9_dismiss 1 = .ok (.iload_n 1, 1) := by decide +kernel
theorem dX9_dismiss_2 : decode cX9_dismiss 2 = .ok (.i2l, 1) := by decide +kernel
theorem dX9_dismiss_3 : decode cX9_dismiss 3 = .ok (.lconst 0, 1) := by decide +kernel
theorem dX9_dismiss_4 : decode cX9_dismiss 4 = .ok (.ldc2_w 214, 3) := by decide +kernel
theorem dX9_dismiss_7 : decode cX9_dismiss 7 = .ok (.invokestatic 82, 3) := by decide +kernel
theorem dX9_dismiss_10 : decode cX9_dismiss 10 = .ok (.ifCond .eq 7, 3) := by decide +kernel
theorem dX9_dismiss_13 : decode cX9_dismiss 13 = .ok (.iconst 0, 1) := by decide +kernel
theorem dX9_dismiss_14 : decode cX9_dismiss 14 = .ok (.goto 4, 3) := by decide +kernel
theorem dX9_dismiss_17 : decode cX9_dismiss 17 = .ok (.iconst 1, 1) := by decide +kernel
theorem dX9_dismiss_18 : decode cX9_dismiss 18 = .ok (.invokevirtual 93, 3) := by decide +kernel
theorem dX9_dismiss_21 : decode cX9_dismiss 21 = .ok (.ifCond .eq 5, 3) := by decide +kernel
theorem dX9_dismiss_24 : decode cX9_dismiss 24 = .ok (.iconst 0, 1) := by decide +kernel
theorem dX9_dismiss_25 : decode cX9_dismiss 25 = .ok (.ireturn, 1) := by decide +kernel
theorem dX9_dismiss_26 : decode cX9_dismiss 26 = .ok (.aload_n 0, 1) := by decide +kernel
theorem dX9_dismiss_27 : decode cX9_dismiss 27 = .ok (.invokevirtual 79, 3) := by decide +kernel
theorem dX9_dismiss_30 : decode cX9_dismiss 30 = .ok (.iconst 0, 1) := by decide +kernel
theorem dX9_dismiss_31 : decode cX9_dismiss 31 = .ok (.istore_n 2, 1) := by decide +kernel
theorem dX9_dismiss_32 : decode cX9_dismiss 32 = .ok (.iconst 0, 1) := by decide +kernel
theorem dX9_dismiss_33 : decode cX9_dismiss 33 = .ok (.istore_n 3, 1) := by decide +kernel
theorem dX9_dismiss_34 : decode cX9_dismiss 34 = .ok (.iload_n 3, 1) := by decide +kernel
theorem dX9_dismiss_35 : decode cX9_dismiss 35 = .ok (.aload_n 0, 1) := by decide +kernel
theorem dX9_dismiss_36 : decode cX9_dismiss 36 = .ok (.getfield 17, 3) := by decide +kernel
theorem dX9_dismiss_39 : decode cX9_dismiss 39 = .ok (.if_icmp .ge 67, 3) := by decide +kernel
theorem dX9_dismiss_42 : decode cX9_dismiss 42 = .ok (.iconst 0, 1) := by decide +kernel
theorem dX9_dismiss_43 : decode cX9_dismiss 43 = .ok (.istore 4, 2) := by decide +kernel
theorem dX9_dismiss_45 : decode cX9_dismiss 45 = .ok (.iload 4, 2) := by decide +kernel
theorem dX9_dismiss_47 : decode cX9_dismiss 47 = .ok (.iconst 4, 1) := by decide +kernel
theorem dX9_dismiss_48 : decode cX9_dismiss 48 = .ok (.if_icmp .ge 52, 3) := by decide +kernel
theorem dX9_dismiss_51 : decode cX9_dismiss 51 = .ok (.iload_n 2, 1) := by decide +kernel
theorem dX9_dismiss_52 : decode cX9_dismiss 52 = .ok (.aload_n 0, 1) := by decide +kernel
theorem dX9_dismiss_53 : decode cX9_dismiss 53 = .ok (.getfield 41, 3) := by decide +kernel
theorem dX9_dismiss_56 : decode cX9_dismiss 56 = .ok (.iload_n 3, 1) := by decide +kernel
theorem dX9_dismiss_57 : decode cX9_dismiss 57 = .ok (.invokestatic 119, 3) := by decide +kernel
theorem dX9_dismiss_60 : decode cX9_dismiss 60 = .ok (.iconst 1, 1) := by decide +kernel
theorem dX9_dismiss_61 : decode cX9_dismiss 61 = .ok (.iadd, 1) := by decide +kernel
theorem dX9_dismiss_62 : decode cX9_dismiss 62 = .ok (.iload 4, 2) := by decide +kernel
theorem dX9_dismiss_64 : decode cX9_dismiss 64 = .ok (.iadd, 1) := by decide +kernel
theorem dX9_dismiss_65 : decode cX9_dismiss 65 = .ok (.iaload, 1) := by decide +kernel
theorem dX9_dismiss_66 : decode cX9_dismiss 66 = .ok (.iload_n 1, 1) := by decide +kernel
theorem dX9_dismiss_67 : decode cX9_dismiss 67 = .ok (.ishr, 1) := by decide +kernel
theorem dX9_dismiss_68 : decode cX9_dismiss 68 = .ok (.iconst 1, 1) := by decide +kernel
theorem dX9_dismiss_69 : decode cX9_dismiss 69 = .ok (.iand, 1) := by decide +kernel
theorem dX9_dismiss_70 : decode cX9_dismiss 70 = .ok (.iadd, 1) := by decide +kernel
theorem dX9_dismiss_71 : decode cX9_dismiss 71 = .ok (.istore_n 2, 1) := by decide +kernel
theorem dX9_dismiss_72 : decode cX9_dismiss 72 = .ok (.aload_n 0, 1) := by decide +kernel
theorem dX9_dismiss_73 : decode cX9_dismiss 73 = .ok (.getfield 41, 3) := by decide +kernel
theorem dX9_dismiss_76 : decode cX9_dismiss 76 = .ok (.iload_n 3, 1) := by decide +kernel
theorem dX9_dismiss_77 : decode cX9_dismiss 77 = .ok (.invokestatic 119, 3) := by decide +kernel
theorem dX9_dismiss_80 : decode cX9_dismiss 80 = .ok (.iconst 1, 1) := by decide +kernel
theorem dX9_dismiss_81 : decode cX9_dismiss 81 = .ok (.iadd, 1) := by decide +kernel
theorem dX9_dismiss_82 : decode cX9_dismiss 82 = .ok (.iload 4, 2) := by decide +kernel
theorem dX9_dismiss_84 : decode cX9_dismiss 84 = .ok (.iadd, 1) := by decide +kernel
theorem dX9_dismiss_85 : decode cX9_dismiss 85 = .ok (.dup2, 1) := by decide +kernel
theorem dX9_dismiss_86 : decode cX9_dismiss 86 = .ok (.iaload, 1) := by decide +kernel
theorem dX9_dismiss_87 : decode cX9_dismiss 87 = .ok (.iconst 1, 1) := by decide +kernel
theorem dX9_dismiss_88 : decode cX9_dismiss 88 = .ok (.iload_n 1, 1) := by decide +kernel
theorem dX9_dismiss_89 : decode cX9_dismiss 89 = .ok (.ishl, 1) := by decide +kernel
theorem dX9_dismiss_90 : decode cX9_dismiss 90 = .ok (.iconst (-1), 1) := by decide +kernel
theorem dX9_dismiss_91 : decode cX9_dismiss 91 = .ok (.ixor, 1) := by decide +kernel
theorem dX9_dismiss_92 : decode cX9_dismiss 92 = .ok (.iand, 1) := by decide +kernel
theorem dX9_dismiss_93 : decode cX9_dismiss 93 = .ok (.iastore, 1) := by decide +kernel
theorem dX9_dismiss_94 : decode cX9_dismiss 94 = .ok (.iinc 4 1, 3) := by decide +kernel
theorem dX9_dismiss_97 : decode cX9_dismiss 97 = .ok (.goto (-52), 3) := by decide +kernel
theorem dX9_dismiss_100 : decode cX9_dismiss 100 = .ok (.iinc 3 1, 3) := by decide +kernel
theorem dX9_dismiss_103 : decode cX9_dismiss 103 = .ok (.goto (-69), 3) := by decide +kernel
theorem dX9_dismiss_106 : decode cX9_dismiss 106 = .ok (.iload_n 2, 1) := by decide +kernel
theorem dX9_dismiss_107 : decode cX9_dismiss 107 = .ok (.ireturn, 1) := by decide +kernel
theorem dX9_setQuorum_0 : decode cX9_setQuorum 0 = .ok (.aload_n 0, 1) := by decide +kernel
theorem dX9_setQuorum_1 : decode cX9_setQuorum 1 = .ok (.aload_n 0, 1) := by decide +kernel
theorem dX9_setQuorum_2 : decode cX9_setQuorum 2 = .ok (.iload_n 1, 1) := by decide +kernel
theorem dX9_setQuorum_3 : decode cX9_setQuorum 3 = .ok (.invokevirtual 211, 3) := by decide +kernel
theorem dX9_setQuorum_6 : decode cX9_setQuorum 6 = .ok (.ifCond .ne 7, 3) := by decide +kernel
theorem dX9_setQuorum_9 : decode cX9_setQuorum 9 = .ok (.iconst 1, 1) := by decide +kernel
theorem dX9_setQuorum_10 : decode cX9_setQuorum 10 = .ok (.goto 20, 3) := by decide +kernel
theorem dX9_setQuorum_13 : decode cX9_setQuorum 13 = .ok (.iload_n 2, 1) := by decide +kernel
theorem dX9_setQuorum_14 : decode cX9_setQuorum 14 = .ok (.i2l, 1) := by decide +kernel
theorem dX9_setQuorum_15 : decode cX9_setQuorum 15 = .ok (.lconst 0, 1) := by decide +kernel
theorem dX9_setQuorum_16 : decode cX9_setQuorum 16 = .ok (.ldc2_w 224, 3) := by decide +kernel
theorem dX9_setQuorum_19 : decode cX9_setQuorum 19 = .ok (.invokestatic 82, 3) := by decide +kernel
theorem dX9_setQuorum_22 : decode cX9_setQuorum 22 = .ok (.ifCond .ne 7, 3) := by decide +kernel
theorem dX9_setQuorum_25 : decode cX9_setQuorum 25 = .ok (.iconst 2, 1) := by decide +kernel
theorem dX9_setQuorum_26 : decode cX9_setQuorum 26 = .ok (.goto 4, 3) := by decide +kernel
theorem dX9_setQuorum_29 : decode cX9_setQuorum 29 = .ok (.iconst 0, 1) := by decide +kernel
theorem dX9_setQuorum_30 : decode cX9_setQuorum 30 = .ok (.invokevirtual 93, 3) := by decide +kernel
theorem dX9_setQuorum_33 : decode cX9_setQuorum 33 = .ok (.ifCond .eq 5, 3) := by decide +kernel
theorem dX9_setQuorum_36 : decode cX9_setQuorum 36 = .ok (.iconst 0, 1) := by decide +kernel
theorem dX9_setQuorum_37 : decode cX9_setQuorum 37 = .ok (.ireturn, 1) := by decide +kernel
theorem dX9_setQuorum_38 : decode cX9_setQuorum 38 = .ok (.aload_n 0, 1) := by decide +kernel
theorem dX9_setQuorum_39 : decode cX9_setQuorum 39 = .ok (.iload_n 1, 1) := by decide +kernel
theorem dX9_setQuorum_40 : decode cX9_setQuorum 40 = .ok (.invokestatic 119, 3) := by decide +kernel
theorem dX9_setQuorum_43 : decode cX9_setQuorum 43 = .ok (.iload_n 2, 1) := by decide +kernel
theorem dX9_setQuorum_44 : decode cX9_setQuorum 44 = .ok (.invokevirtual 219, 3) := by decide +kernel
theorem dX9_setQuorum_47 : decode cX9_setQuorum 47 = .ok (.ireturn, 1) := by decide +kernel
theorem dX9_setFaults_0 : decode cX9_setFaults 0 = .ok (.aload_n 0, 1) := by decide +kernel
theorem dX9_setFaults_1 : decode cX9_setFaults 1 = .ok (.aload_n 0, 1) := by decide +kernel
theorem dX9_setFaults_2 : decode cX9_setFaults 2 = .ok (.iload_n 1, 1) := by decide +kernel
theorem dX9_setFaults_3 : decode cX9_setFaults 3 = .ok (.invokevirtual 203, 3) := by decide +kernel
theorem dX9_setFaults_6 : decode cX9_setFaults 6 = .ok (.ifCond .ne 7, 3) := by decide +kernel
theorem dX9_setFaults_9 : decode cX9_setFaults 9 = .ok (.iconst 1, 1) := by decide +kernel
theorem dX9_setFaults_10 : decode cX9_setFaults 10 = .ok (.goto 20, 3) := by decide +kernel
theorem dX9_setFaults_13 : decode cX9_setFaults 13 = .ok (.iload_n 2, 1) := by decide +kernel
theorem dX9_setFaults_14 : decode cX9_setFaults 14 = .ok (.i2l, 1) := by decide +kernel
theorem dX9_setFaults_15 : decode cX9_setFaults 15 = .ok (.lconst 0, 1) := by decide +kernel
theorem dX9_setFaults_16 : decode cX9_setFaults 16 = .ok (.ldc2_w 226, 3) := by decide +kernel
theorem dX9_setFaults_19 : decode cX9_setFaults 19 = .ok (.invokestatic 82, 3) := by decide +kernel
theorem dX9_setFaults_22 : decode cX9_setFaults 22 = .ok (.ifCond .ne 7, 3) := by decide +kernel
theorem dX9_setFaults_25 : decode cX9_setFaults 25 = .ok (.iconst 2, 1) := by decide +kernel
theorem dX9_setFaults_26 : decode cX9_setFaults 26 = .ok (.goto 4, 3) := by decide +kernel
theorem dX9_setFaults_29 : decode cX9_setFaults 29 = .ok (.iconst 0, 1) := by decide +kernel
theorem dX9_setFaults_30 : decode cX9_setFaults 30 = .ok (.invokevirtual 93, 3) := by decide +kernel
theorem dX9_setFaults_33 : decode cX9_setFaults 33 = .ok (.ifCond .eq 5, 3) := by decide +kernel
theorem dX9_setFaults_36 : decode cX9_setFaults 36 = .ok (.iconst 0, 1) := by decide +kernel
theorem dX9_setFaults_37 : decode cX9_setFaults 37 = .ok (.ireturn, 1) := by decide +kernel
theorem dX9_setFaults_38 : decode cX9_setFaults 38 = .ok (.aload_n 0, 1) := by decide +kernel
theorem dX9_setFaults_39 : decode cX9_setFaults 39 = .ok (.iload_n 1, 1) := by decide +kernel
theorem dX9_setFaults_40 : decode cX9_setFaults 40 = .ok (.invokestatic 126, 3) := by decide +kernel
theorem dX9_setFaults_43 : decode cX9_setFaults 43 = .ok (.bipush 12, 2) := by decide +kernel
theorem dX9_setFaults_45 : decode cX9_setFaults 45 = .ok (.iadd, 1) := by decide +kernel
theorem dX9_setFaults_46 : decode cX9_setFaults 46 = .ok (.iload_n 2, 1) := by decide +kernel
theorem dX9_setFaults_47 : decode cX9_setFaults 47 = .ok (.invokevirtual 219, 3) := by decide +kernel
theorem dX9_setFaults_50 : decode cX9_setFaults 50 = .ok (.ireturn, 1) := by decide +kernel
theorem dX9_pardon_0 : decode cX9_pardon 0 = .ok (.aload_n 0, 1) := by decide +kernel
theorem dX9_pardon_1 : decode cX9_pardon 1 = .ok (.aload_n 0, 1) := by decide +kernel
theorem dX9_pardon_2 : decode cX9_pardon 2 = .ok (.iload_n 1, 1) := by decide +kernel
theorem dX9_pardon_3 : decode cX9_pardon 3 = .ok (.invokevirtual 203, 3) := by decide +kernel
theorem dX9_pardon_6 : decode cX9_pardon 6 = .ok (.ifCond .ne 7, 3) := by decide +kernel
theorem dX9_pardon_9 : decode cX9_pardon 9 = .ok (.iconst 1, 1) := by decide +kernel
theorem dX9_pardon_10 : decode cX9_pardon 10 = .ok (.goto 19, 3) := by decide +kernel
theorem dX9_pardon_13 : decode cX9_pardon 13 = .ok (.aload_n 0, 1) := by decide +kernel
theorem dX9_pardon_14 : decode cX9_pardon 14 = .ok (.getfield 41, 3) := by decide +kernel
theorem dX9_pardon_17 : decode cX9_pardon 17 = .ok (.iload_n 1, 1) := by decide +kernel
theorem dX9_pardon_18 : decode cX9_pardon 18 = .ok (.invokestatic 170, 3) := by decide +kernel
theorem dX9_pardon_21 : decode cX9_pardon 21 = .ok (.ifCond .ne 7, 3) := by decide +kernel
theorem dX9_pardon_24 : decode cX9_pardon 24 = .ok (.iconst 2, 1) := by decide +kernel
theorem dX9_pardon_25 : decode cX9_pardon 25 = .ok (.goto 4, 3) := by decide +kernel
theorem dX9_pardon_28 : decode cX9_pardon 28 = .ok (.iconst 0, 1) := by decide +kernel
theorem dX9_pardon_29 : decode cX9_pardon 29 = .ok (.invokevirtual 93, 3) := by decide +kernel
theorem dX9_pardon_32 : decode cX9_pardon 32 = .ok (.ifCond .eq 5, 3) := by decide +kernel
theorem dX9_pardon_35 : decode cX9_pardon 35 = .ok (.iconst 0, 1) := by decide +kernel
theorem dX9_pardon_36 : decode cX9_pardon 36 = .ok (.ireturn, 1) := by decide +kernel
theorem dX9_pardon_37 : decode cX9_pardon 37 = .ok (.aload_n 0, 1) := by decide +kernel
theorem dX9_pardon_38 : decode cX9_pardon 38 = .ok (.invokevirtual 79, 3) := by decide +kernel
theorem dX9_pardon_41 : decode cX9_pardon 41 = .ok (.aload_n 0, 1) := by decide +kernel
theorem dX9_pardon_42 : decode cX9_pardon 42 = .ok (.getfield 41, 3) := by decide +kernel
theorem dX9_pardon_45 : decode cX9_pardon 45 = .ok (.iload_n 1, 1) := by decide +kernel
theorem dX9_pardon_46 : decode cX9_pardon 46 = .ok (.invokestatic 126, 3) := by decide +kernel
theorem dX9_pardon_49 : decode cX9_pardon 49 = .ok (.bipush 14, 2) := by decide +kernel
theorem dX9_pardon_51 : decode cX9_pardon 51 = .ok (.iadd, 1) := by decide +kernel
theorem dX9_pardon_52 : decode cX9_pardon 52 = .ok (.iaload, 1) := by decide +kernel
theorem dX9_pardon_53 : decode cX9_pardon 53 = .ok (.aload_n 0, 1) := by decide +kernel
theorem dX9_pardon_54 : decode cX9_pardon 54 = .ok (.getfield 41, 3) := by decide +kernel
theorem dX9_pardon_57 : decode cX9_pardon 57 = .ok (.iconst 0, 1) := by decide +kernel
theorem dX9_pardon_58 : decode cX9_pardon 58 = .ok (.iaload, 1) := by decide +kernel
theorem dX9_pardon_59 : decode cX9_pardon 59 = .ok (.isub, 1) := by decide +kernel
theorem dX9_pardon_60 : decode cX9_pardon 60 = .ok (.istore_n 2, 1) := by decide +kernel
theorem dX9_pardon_61 : decode cX9_pardon 61 = .ok (.aload_n 0, 1) := by decide +kernel
theorem dX9_pardon_62 : decode cX9_pardon 62 = .ok (.getfield 41, 3) := by decide +kernel
theorem dX9_pardon_65 : decode cX9_pardon 65 = .ok (.iload_n 1, 1) := by decide +kernel
theorem dX9_pardon_66 : decode cX9_pardon 66 = .ok (.invokestatic 126, 3) := by decide +kernel
theorem dX9_pardon_69 : decode cX9_pardon 69 = .ok (.bipush 14, 2) := by decide +kernel
theorem dX9_pardon_71 : decode cX9_pardon 71 = .ok (.iadd, 1) := by decide +kernel
theorem dX9_pardon_72 : decode cX9_pardon 72 = .ok (.aload_n 0, 1) := by decide +kernel
theorem dX9_pardon_73 : decode cX9_pardon 73 = .ok (.getfield 41, 3) := by decide +kernel
theorem dX9_pardon_76 : decode cX9_pardon 76 = .ok (.iconst 0, 1) := by decide +kernel
theorem dX9_pardon_77 : decode cX9_pardon 77 = .ok (.iaload, 1) := by decide +kernel
theorem dX9_pardon_78 : decode cX9_pardon 78 = .ok (.iastore, 1) := by decide +kernel
theorem dX9_pardon_79 : decode cX9_pardon 79 = .ok (.aload_n 0, 1) := by decide +kernel
theorem dX9_pardon_80 : decode cX9_pardon 80 = .ok (.getfield 41, 3) := by decide +kernel
theorem dX9_pardon_83 : decode cX9_pardon 83 = .ok (.iload_n 1, 1) := by decide +kernel
theorem dX9_pardon_84 : decode cX9_pardon 84 = .ok (.invokestatic 126, 3) := by decide +kernel
theorem dX9_pardon_87 : decode cX9_pardon 87 = .ok (.bipush 13, 2) := by decide +kernel
theorem dX9_pardon_89 : decode cX9_pardon 89 = .ok (.iadd, 1) := by decide +kernel
theorem dX9_pardon_90 : decode cX9_pardon 90 = .ok (.iconst 0, 1) := by decide +kernel
theorem dX9_pardon_91 : decode cX9_pardon 91 = .ok (.iastore, 1) := by decide +kernel
theorem dX9_pardon_92 : decode cX9_pardon 92 = .ok (.iload_n 2, 1) := by decide +kernel
theorem dX9_pardon_93 : decode cX9_pardon 93 = .ok (.ireturn, 1) := by decide +kernel
theorem dX9_tick_0 : decode cX9_tick 0 = .ok (.aload_n 0, 1) := by decide +kernel
theorem dX9_tick_1 : decode cX9_tick 1 = .ok (.iload_n 1, 1) := by decide +kernel
theorem dX9_tick_2 : decode cX9_tick 2 = .ok (.i2l, 1) := by decide +kernel
theorem dX9_tick_3 : decode cX9_tick 3 = .ok (.lconst 1, 1) := by decide +kernel
theorem dX9_tick_4 : decode cX9_tick 4 = .ok (.ldc2_w 228, 3) := by decide +kernel
theorem dX9_tick_7 : decode cX9_tick 7 = .ok (.invokestatic 82, 3) := by decide +kernel
theorem dX9_tick_10 : decode cX9_tick 10 = .ok (.ifCond .eq 7, 3) := by decide +kernel
theorem dX9_tick_13 : decode cX9_tick 13 = .ok (.iconst 0, 1) := by decide +kernel
theorem dX9_tick_14 : decode cX9_tick 14 = .ok (.goto 4, 3) := by decide +kernel
theorem dX9_tick_17 : decode cX9_tick 17 = .ok (.iconst 1, 1) := by decide +kernel
theorem dX9_tick_18 : decode cX9_tick 18 = .ok (.invokevirtual 93, 3) := by decide +kernel
theorem dX9_tick_21 : decode cX9_tick 21 = .ok (.ifCond .eq 5, 3) := by decide +kernel
theorem dX9_tick_24 : decode cX9_tick 24 = .ok (.iconst 0, 1) := by decide +kernel
theorem dX9_tick_25 : decode cX9_tick 25 = .ok (.ireturn, 1) := by decide +kernel
theorem dX9_tick_26 : decode cX9_tick 26 = .ok (.aload_n 0, 1) := by decide +kernel
theorem dX9_tick_27 : decode cX9_tick 27 = .ok (.invokevirtual 79, 3) := by decide +kernel
theorem dX9_tick_30 : decode cX9_tick 30 = .ok (.aload_n 0, 1) := by decide +kernel
theorem dX9_tick_31 : decode cX9_tick 31 = .ok (.getfield 41, 3) := by decide +kernel
theorem dX9_tick_34 : decode cX9_tick 34 = .ok (.iconst 1, 1) := by decide +kernel
theorem dX9_tick_35 : decode cX9_tick 35 = .ok (.iaload, 1) := by decide +kernel
theorem dX9_tick_36 : decode cX9_tick 36 = .ok (.istore_n 2, 1) := by decide +kernel
theorem dX9_tick_37 : decode cX9_tick 37 = .ok (.iconst 0, 1) := by decide +kernel
theorem dX9_tick_38 : decode cX9_tick 38 = .ok (.istore_n 3, 1) := by decide +kernel
theorem dX9_tick_39 : decode cX9_tick 39 = .ok (.iload_n 3, 1) := by decide +kernel
theorem dX9_tick_40 : decode cX9_tick 40 = .ok (.iload_n 1, 1) := by decide +kernel
theorem dX9_tick_41 : decode cX9_tick 41 = .ok (.if_icmp .ge 17, 3) := by decide +kernel
theorem dX9_tick_44 : decode cX9_tick 44 = .ok (.aload_n 0, 1) := by decide +kernel
theorem dX9_tick_45 : decode cX9_tick 45 = .ok (.aload_n 0, 1) := by decide +kernel
theorem dX9_tick_46 : decode cX9_tick 46 = .ok (.getfield 41, 3) := by decide +kernel
theorem dX9_tick_49 : decode cX9_tick 49 = .ok (.invokevirtual 230, 3) := by decide +kernel
theorem dX9_tick_52 : decode cX9_tick 52 = .ok (.iinc 3 1, 3) := by decide +kernel
theorem dX9_tick_55 : decode cX9_tick 55 = .ok (.goto (-16), 3) := by decide +kernel
theorem dX9_tick_58 : decode cX9_tick 58 = .ok (.aload_n 0, 1) := by decide +kernel
theorem dX9_tick_59 : decode cX9_tick 59 = .ok (.getfield 41, 3) := by decide +kernel
theorem dX9_tick_62 : decode cX9_tick 62 = .ok (.iconst 1, 1) := by decide +kernel
theorem dX9_tick_63 : decode cX9_tick 63 = .ok (.iaload, 1) := by decide +kernel
theorem dX9_tick_64 : decode cX9_tick 64 = .ok (.iload_n 2, 1) := by decide +kernel
theorem dX9_tick_65 : decode cX9_tick 65 = .ok (.isub, 1) := by decide +kernel
theorem dX9_tick_66 : decode cX9_tick 66 = .ok (.ireturn, 1) := by decide +kernel
theorem dX9_undo_0 : decode cX9_undo 0 = .ok (.aload_n 0, 1) := by decide +kernel
theorem dX9_undo_1 : decode cX9_undo 1 = .ok (.aload_n 0, 1) := by decide +kernel
theorem dX9_undo_2 : decode cX9_undo 2 = .ok (.getfield 72, 3) := by decide +kernel
theorem dX9_undo_5 : decode cX9_undo 5 = .ok (.ifCond .ne 7, 3) := by decide +kernel
theorem dX9_undo_8 : decode cX9_undo 8 = .ok (.iconst 1, 1) := by decide +kernel
theorem dX9_undo_9 : decode cX9_undo 9 = .ok (.goto 4, 3) := by decide +kernel
theorem dX9_undo_12 : decode cX9_undo 12 = .ok (.iconst 0, 1) := by decide +kernel
theorem dX9_undo_13 : decode cX9_undo 13 = .ok (.invokevirtual 93, 3) := by decide +kernel
theorem dX9_undo_16 : decode cX9_undo 16 = .ok (.ifCond .eq 5, 3) := by decide +kernel
theorem dX9_undo_19 : decode cX9_undo 19 = .ok (.iconst 0, 1) := by decide +kernel
theorem dX9_undo_20 : decode cX9_undo 20 = .ok (.ireturn, 1) := by decide +kernel
theorem dX9_undo_21 : decode cX9_undo 21 = .ok (.aload_n 0, 1) := by decide +kernel
theorem dX9_undo_22 : decode cX9_undo 22 = .ok (.dup, 1) := by decide +kernel
theorem dX9_undo_23 : decode cX9_undo 23 = .ok (.getfield 72, 3) := by decide +kernel
theorem dX9_undo_26 : decode cX9_undo 26 = .ok (.iconst 1, 1) := by decide +kernel
theorem dX9_undo_27 : decode cX9_undo 27 = .ok (.isub, 1) := by decide +kernel
theorem dX9_undo_28 : decode cX9_undo 28 = .ok (.putfield 72, 3) := by decide +kernel
theorem dX9_undo_31 : decode cX9_undo 31 = .ok (.aload_n 0, 1) := by decide +kernel
theorem dX9_undo_32 : decode cX9_undo 32 = .ok (.getfield 47, 3) := by decide +kernel
theorem dX9_undo_35 : decode cX9_undo 35 = .ok (.bipush 107, 2) := by decide +kernel
theorem dX9_undo_37 : decode cX9_undo 37 = .ok (.aload_n 0, 1) := by decide +kernel
theorem dX9_undo_38 : decode cX9_undo 38 = .ok (.getfield 72, 3) := by decide +kernel
theorem dX9_undo_41 : decode cX9_undo 41 = .ok (.imul, 1) := by decide +kernel
theorem dX9_undo_42 : decode cX9_undo 42 = .ok (.aload_n 0, 1) := by decide +kernel
theorem dX9_undo_43 : decode cX9_undo 43 = .ok (.getfield 41, 3) := by decide +kernel
theorem dX9_undo_46 : decode cX9_undo 46 = .ok (.iconst 0, 1) := by decide +kernel
theorem dX9_undo_47 : decode cX9_undo 47 = .ok (.bipush 107, 2) := by decide +kernel
theorem dX9_undo_49 : decode cX9_undo 49 = .ok (.invokestatic 75, 3) := by decide +kernel
theorem dX9_undo_52 : decode cX9_undo 52 = .ok (.aload_n 0, 1) := by decide +kernel
theorem dX9_undo_53 : decode cX9_undo 53 = .ok (.getfield 72, 3) := by decide +kernel
theorem dX9_undo_56 : decode cX9_undo 56 = .ok (.ireturn, 1) := by decide +kernel
theorem dX9_state_0 : decode cX9_state 0 = .ok (.aload_n 0, 1) := by decide +kernel
theorem dX9_state_1 : decode cX9_state 1 = .ok (.aload_n 0, 1) := by decide +kernel
theorem dX9_state_2 : decode cX9_state 2 = .ok (.iload_n 1, 1) := by decide +kernel
theorem dX9_state_3 : decode cX9_state 3 = .ok (.invokevirtual 203, 3) := by decide +kernel
theorem dX9_state_6 : decode cX9_state 6 = .ok (.ifCond .eq 15, 3) := by decide +kernel
theorem dX9_state_9 : decode cX9_state 9 = .ok (.aload_n 0, 1) := by decide +kernel
theorem dX9_state_10 : decode cX9_state 10 = .ok (.iload_n 2, 1) := by decide +kernel
theorem dX9_state_11 : decode cX9_state 11 = .ok (.invokevirtual 211, 3) := by decide +kernel
theorem dX9_state_14 : decode cX9_state 14 = .ok (.ifCond .eq 7, 3) := by decide +kernel
theorem dX9_state_17 : decode cX9_state 17 = .ok (.iconst 0, 1) := by decide +kernel
theorem dX9_state_18 : decode cX9_state 18 = .ok (.goto 4, 3) := by decide +kernel
theorem dX9_state_21 : decode cX9_state 21 = .ok (.iconst 1, 1) := by decide +kernel
theorem dX9_state_22 : decode cX9_state 22 = .ok (.invokevirtual 93, 3) := by decide +kernel
theorem dX9_state_25 : decode cX9_state 25 = .ok (.ifCond .eq 5, 3) := by decide +kernel
theorem dX9_state_28 : decode cX9_state 28 = .ok (.iconst 0, 1) := by decide +kernel
theorem dX9_state_29 : decode cX9_state 29 = .ok (.ireturn, 1) := by decide +kernel
theorem dX9_state_30 : decode cX9_state 30 = .ok (.aload_n 0, 1) := by decide +kernel
theorem dX9_state_31 : decode cX9_state 31 = .ok (.aload_n 0, 1) := by decide +kernel
theorem dX9_state_32 : decode cX9_state 32 = .ok (.getfield 41, 3) := by decide +kernel
theorem dX9_state_35 : decode cX9_state 35 = .ok (.iload_n 1, 1) := by decide +kernel
theorem dX9_state_36 : decode cX9_state 36 = .ok (.iload_n 2, 1) := by decide +kernel
theorem dX9_state_37 : decode cX9_state 37 = .ok (.invokevirtual 184, 3) := by decide +kernel
theorem dX9_state_40 : decode cX9_state 40 = .ok (.ireturn, 1) := by decide +kernel
theorem dX9_next_0 : decode cX9_next 0 = .ok (.aload_n 0, 1) := by decide +kernel
theorem dX9_next_1 : decode cX9_next 1 = .ok (.aload_n 0, 1) := by decide +kernel
theorem dX9_next_2 : decode cX9_next 2 = .ok (.iload_n 1, 1) := by decide +kernel
theorem dX9_next_3 : decode cX9_next 3 = .ok (.invokevirtual 203, 3) := by decide +kernel
theorem dX9_next_6 : decode cX9_next 6 = .ok (.ifCond .eq 7, 3) := by decide +kernel
theorem dX9_next_9 : decode cX9_next 9 = .ok (.iconst 0, 1) := by decide +kernel
theorem dX9_next_10 : decode cX9_next 10 = .ok (.goto 4, 3) := by decide +kernel
theorem dX9_next_13 : decode cX9_next 13 = .ok (.iconst 1, 1) := by decide +kernel
theorem dX9_next_14 : decode cX9_next 14 = .ok (.invokevirtual 93, 3) := by decide +kernel
theorem dX9_next_17 : decode cX9_next 17 = .ok (.ifCond .eq 7, 3) := by decide +kernel
theorem dX9_next_20 : decode cX9_next 20 = .ok (.iconst 0, 1) := by decide +kernel
theorem dX9_next_21 : decode cX9_next 21 = .ok (.goto 12, 3) := by decide +kernel
theorem dX9_next_24 : decode cX9_next 24 = .ok (.aload_n 0, 1) := by decide +kernel
theorem dX9_next_25 : decode cX9_next 25 = .ok (.aload_n 0, 1) := by decide +kernel
theorem dX9_next_26 : decode cX9_next 26 = .ok (.getfield 41, 3) := by decide +kernel
theorem dX9_next_29 : decode cX9_next 29 = .ok (.iload_n 1, 1) := by decide +kernel
theorem dX9_next_30 : decode cX9_next 30 = .ok (.invokevirtual 187, 3) := by decide +kernel
theorem dX9_next_33 : decode cX9_next 33 = .ok (.ireturn, 1) := by decide +kernel
theorem dX9_breaks_0 : decode cX9_breaks 0 = .ok (.aload_n 0, 1) := by decide +kernel
theorem dX9_breaks_1 : decode cX9_breaks 1 = .ok (.aload_n 0, 1) := by decide +kernel
theorem dX9_breaks_2 : decode cX9_breaks 2 = .ok (.iload_n 1, 1) := by decide +kernel
theorem dX9_breaks_3 : decode cX9_breaks 3 = .ok (.invokevirtual 203, 3) := by decide +kernel
theorem dX9_breaks_6 : decode cX9_breaks 6 = .ok (.ifCond .eq 11, 3) := by decide +kernel
theorem dX9_breaks_9 : decode cX9_breaks 9 = .ok (.aload_n 0, 1) := by decide +kernel
theorem dX9_breaks_10 : decode cX9_breaks 10 = .ok (.iload_n 2, 1) := by decide +kernel
theorem dX9_breaks_11 : decode cX9_breaks 11 = .ok (.invokevirtual 211, 3) := by decide +kernel
theorem dX9_breaks_14 : decode cX9_breaks 14 = .ok (.ifCond .ne 7, 3) := by decide +kernel
theorem dX9_breaks_17 : decode cX9_breaks 17 = .ok (.iconst 1, 1) := by decide +kernel
theorem dX9_breaks_18 : decode cX9_breaks 18 = .ok (.goto 15, 3) := by decide +kernel
theorem dX9_breaks_21 : decode cX9_breaks 21 = .ok (.iload_n 3, 1) := by decide +kernel
theorem dX9_breaks_22 : decode cX9_breaks 22 = .ok (.invokestatic 216, 3) := by decide +kernel
theorem dX9_breaks_25 : decode cX9_breaks 25 = .ok (.ifCond .ne 7, 3) := by decide +kernel
theorem dX9_breaks_28 : decode cX9_breaks 28 = .ok (.iconst 2, 1) := by decide +kernel
theorem dX9_breaks_29 : decode cX9_breaks 29 = .ok (.goto 4, 3) := by decide +kernel
theorem dX9_breaks_32 : decode cX9_breaks 32 = .ok (.iconst 0, 1) := by decide +kernel
theorem dX9_breaks_33 : decode cX9_breaks 33 = .ok (.invokevirtual 93, 3) := by decide +kernel
theorem dX9_breaks_36 : decode cX9_breaks 36 = .ok (.ifCond .eq 5, 3) := by decide +kernel
theorem dX9_breaks_39 : decode cX9_breaks 39 = .ok (.iconst 0, 1) := by decide +kernel
theorem dX9_breaks_40 : decode cX9_breaks 40 = .ok (.ireturn, 1) := by decide +kernel
theorem dX9_breaks_41 : decode cX9_breaks 41 = .ok (.aload_n 0, 1) := by decide +kernel
theorem dX9_breaks_42 : decode cX9_breaks 42 = .ok (.aload_n 0, 1) := by decide +kernel
theorem dX9_breaks_43 : decode cX9_breaks 43 = .ok (.getfield 41, 3) := by decide +kernel
theorem dX9_breaks_46 : decode cX9_breaks 46 = .ok (.iload_n 1, 1) := by decide +kernel
theorem dX9_breaks_47 : decode cX9_breaks 47 = .ok (.iload_n 2, 1) := by decide +kernel
theorem dX9_breaks_48 : decode cX9_breaks 48 = .ok (.iload_n 3, 1) := by decide +kernel
theorem dX9_breaks_49 : decode cX9_breaks 49 = .ok (.invokevirtual 180, 3) := by decide +kernel
theorem dX9_breaks_52 : decode cX9_breaks 52 = .ok (.ireturn, 1) := by decide +kernel
theorem dX9_holdsUp_0 : decode cX9_holdsUp 0 = .ok (.aload_n 0, 1) := by decide +kernel
theorem dX9_holdsUp_1 : decode cX9_holdsUp 1 = .ok (.iload_n 1, 1) := by decide +kernel
theorem dX9_holdsUp_2 : decode cX9_holdsUp 2 = .ok (.i2l, 1) := by decide +kernel
theorem dX9_holdsUp_3 : decode cX9_holdsUp 3 = .ok (.lconst 0, 1) := by decide +kernel
theorem dX9_holdsUp_4 : decode cX9_holdsUp 4 = .ok (.aload_n 0, 1) := by decide +kernel
theorem dX9_holdsUp_5 : decode cX9_holdsUp 5 = .ok (.getfield 146, 3) := by decide +kernel
theorem dX9_holdsUp_8 : decode cX9_holdsUp 8 = .ok (.iconst 1, 1) := by decide +kernel
theorem dX9_holdsUp_9 : decode cX9_holdsUp 9 = .ok (.isub, 1) := by decide +kernel
theorem dX9_holdsUp_10 : decode cX9_holdsUp 10 = .ok (.i2l, 1) := by decide +kernel
theorem dX9_holdsUp_11 : decode cX9_holdsUp 11 = .ok (.invokestatic 82, 3) := by decide +kernel
theorem dX9_holdsUp_14 : decode cX9_holdsUp 14 = .ok (.ifCond .eq 7, 3) := by decide +kernel
theorem dX9_holdsUp_17 : decode cX9_holdsUp 17 = .ok (.iconst 0, 1) := by decide +kernel
theorem dX9_holdsUp_18 : decode cX9_holdsUp 18 = .ok (.goto 4, 3) := by decide +kernel
theorem dX9_holdsUp_21 : decode cX9_holdsUp 21 = .ok (.iconst 1, 1) := by decide +kernel
theorem dX9_holdsUp_22 : decode cX9_holdsUp 22 = .ok (.invokevirtual 93, 3) := by decide +kernel
theorem dX9_holdsUp_25 : decode cX9_holdsUp 25 = .ok (.ifCond .eq 5, 3) := by decide +kernel
theorem dX9_holdsUp_28 : decode cX9_holdsUp 28 = .ok (.iconst 0, 1) := by decide +kernel
theorem dX9_holdsUp_29 : decode cX9_holdsUp 29 = .ok (.ireturn, 1) := by decide +kernel
theorem dX9_holdsUp_30 : decode cX9_holdsUp 30 = .ok (.iconst 0, 1) := by decide +kernel
theorem dX9_holdsUp_31 : decode cX9_holdsUp 31 = .ok (.istore_n 2, 1) := by decide +kernel
theorem dX9_holdsUp_32 : decode cX9_holdsUp 32 = .ok (.iconst 0, 1) := by decide +kernel
theorem dX9_holdsUp_33 : decode cX9_holdsUp 33 = .ok (.istore_n 3, 1) := by decide +kernel
theorem dX9_holdsUp_34 : decode cX9_holdsUp 34 = .ok (.iload_n 3, 1) := by decide +kernel
theorem dX9_holdsUp_35 : decode cX9_holdsUp 35 = .ok (.aload_n 0, 1) := by decide +kernel
theorem dX9_holdsUp_36 : decode cX9_holdsUp 36 = .ok (.getfield 13, 3) := by decide +kernel
theorem dX9_holdsUp_39 : decode cX9_holdsUp 39 = .ok (.if_icmp .ge 94, 3) := by decide +kernel
theorem dX9_holdsUp_42 : decode cX9_holdsUp 42 = .ok (.iconst 0, 1) := by decide +kernel
theorem dX9_holdsUp_43 : decode cX9_holdsUp 43 = .ok (.istore 4, 2) := by decide +kernel
theorem dX9_holdsUp_45 : decode cX9_holdsUp 45 = .ok (.iload 4, 2) := by decide +kernel
theorem dX9_holdsUp_47 : decode cX9_holdsUp 47 = .ok (.aload_n 0, 1) := by decide +kernel
theorem dX9_holdsUp_48 : decode cX9_holdsUp 48 = .ok (.getfield 17, 3) := by decide +kernel
theorem dX9_holdsUp_51 : decode cX9_holdsUp 51 = .ok (.if_icmp .ge 76, 3) := by decide +kernel
theorem dX9_holdsUp_54 : decode cX9_holdsUp 54 = .ok (.aload_n 0, 1) := by decide +kernel
theorem dX9_holdsUp_55 : decode cX9_holdsUp 55 = .ok (.aload_n 0, 1) := by decide +kernel
theorem dX9_holdsUp_56 : decode cX9_holdsUp 56 = .ok (.getfield 41, 3) := by decide +kernel
theorem dX9_holdsUp_59 : decode cX9_holdsUp 59 = .ok (.iload_n 3, 1) := by decide +kernel
theorem dX9_holdsUp_60 : decode cX9_holdsUp 60 = .ok (.iload 4, 2) := by decide +kernel
theorem dX9_holdsUp_62 : decode cX9_holdsUp 62 = .ok (.aload_n 0, 1) := by decide +kernel
theorem dX9_holdsUp_63 : decode cX9_holdsUp 63 = .ok (.getfield 41, 3) := by decide +kernel
theorem dX9_holdsUp_66 : decode cX9_holdsUp 66 = .ok (.iload_n 3, 1) := by decide +kernel
theorem dX9_holdsUp_67 : decode cX9_holdsUp 67 = .ok (.invokestatic 126, 3) := by decide +kernel
theorem dX9_holdsUp_70 : decode cX9_holdsUp 70 = .ok (.bipush 6, 2) := by decide +kernel
theorem dX9_holdsUp_72 : decode cX9_holdsUp 72 = .ok (.iadd, 1) := by decide +kernel
theorem dX9_holdsUp_73 : decode cX9_holdsUp 73 = .ok (.iload 4, 2) := by decide +kernel
theorem dX9_holdsUp_75 : decode cX9_holdsUp 75 = .ok (.iadd, 1) := by decide +kernel
theorem dX9_holdsUp_76 : decode cX9_holdsUp 76 = .ok (.iaload, 1) := by decide +kernel
theorem dX9_holdsUp_77 : decode cX9_holdsUp 77 = .ok (.invokevirtual 180, 3) := by decide +kernel
theorem dX9_holdsUp_80 : decode cX9_holdsUp 80 = .ok (.iconst 1, 1) := by decide +kernel
theorem dX9_holdsUp_81 : decode cX9_holdsUp 81 = .ok (.iload_n 1, 1) := by decide +kernel
theorem dX9_holdsUp_82 : decode cX9_holdsUp 82 = .ok (.ishl, 1) := by decide +kernel
theorem dX9_holdsUp_83 : decode cX9_holdsUp 83 = .ok (.if_icmp .ne 7, 3) := by decide +kernel
theorem dX9_holdsUp_86 : decode cX9_holdsUp 86 = .ok (.iconst 1, 1) := by decide +kernel
theorem dX9_holdsUp_87 : decode cX9_holdsUp 87 = .ok (.goto 4, 3) := by decide +kernel
theorem dX9_holdsUp_90 : decode cX9_holdsUp 90 = .ok (.iconst 0, 1) := by decide +kernel
theorem dX9_holdsUp_91 : decode cX9_holdsUp 91 = .ok (.istore 5, 2) := by decide +kernel
theorem dX9_holdsUp_93 : decode cX9_holdsUp 93 = .ok (.iload_n 2, 1) := by decide +kernel
theorem dX9_holdsUp_94 : decode cX9_holdsUp 94 = .ok (.iload 5, 2) := by decide +kernel
theorem dX9_holdsUp_96 : decode cX9_holdsUp 96 = .ok (.ifCond .eq 22, 3) := by decide +kernel
theorem dX9_holdsUp_99 : decode cX9_holdsUp 99 = .ok (.aload_n 0, 1) := by decide +kernel
theorem dX9_holdsUp_100 : decode cX9_holdsUp 100 = .ok (.aload_n 0, 1) := by decide +kernel
theorem dX9_holdsUp_101 : decode cX9_holdsUp 101 = .ok (.getfield 41, 3) := by decide +kernel
theorem dX9_holdsUp_104 : decode cX9_holdsUp 104 = .ok (.iload_n 3, 1) := by decide +kernel
theorem dX9_holdsUp_105 : decode cX9_holdsUp 105 = .ok (.iload 4, 2) := by decide +kernel
theorem dX9_holdsUp_107 : decode cX9_holdsUp 107 = .ok (.invokevirtual 184, 3) := by decide +kernel
theorem dX9_holdsUp_110 : decode cX9_holdsUp 110 = .ok (.iconst 5, 1) := by decide +kernel
theorem dX9_holdsUp_111 : decode cX9_holdsUp 111 = .ok (.if_icmp .ne 7, 3) := by decide +kernel
theorem dX9_holdsUp_114 : decode cX9_holdsUp 114 = .ok (.iconst 1, 1) := by decide +kernel
theorem dX9_holdsUp_115 : decode cX9_holdsUp 115 = .ok (.goto 4, 3) := by decide +kernel
theorem dX9_holdsUp_118 : decode cX9_holdsUp 118 = .ok (.iconst 0, 1) := by decide +kernel
theorem dX9_holdsUp_119 : decode cX9_holdsUp 119 = .ok (.iadd, 1) := by decide +kernel
theorem dX9_holdsUp_120 : decode cX9_holdsUp 120 = .ok (.istore_n 2, 1) := by decide +kernel
theorem dX9_holdsUp_121 : decode cX9_holdsUp 121 = .ok (.iinc 4 1, 3) := by decide +kernel
theorem dX9_holdsUp_124 : decode cX9_holdsUp 124 = .ok (.goto (-79), 3) := by decide +kernel
theorem dX9_holdsUp_127 : decode cX9_holdsUp 127 = .ok (.iinc 3 1, 3) := by decide +kernel
theorem dX9_holdsUp_130 : decode cX9_holdsUp 130 = .ok (.goto (-96), 3) := by decide +kernel
theorem dX9_holdsUp_133 : decode cX9_holdsUp 133 = .ok (.iload_n 2, 1) := by decide +kernel
theorem dX9_holdsUp_134 : decode cX9_holdsUp 134 = .ok (.ireturn, 1) := by decide +kernel
theorem dX9_missing_0 : decode cX9_missing 0 = .ok (.aload_n 0, 1) := by decide +kernel
theorem dX9_missing_1 : decode cX9_missing 1 = .ok (.aload_n 0, 1) := by decide +kernel
theorem dX9_missing_2 : decode cX9_missing 2 = .ok (.iload_n 1, 1) := by decide +kernel
theorem dX9_missing_3 : decode cX9_missing 3 = .ok (.invokevirtual 211, 3) := by decide +kernel
theorem dX9_missing_6 : decode cX9_missing 6 = .ok (.ifCond .eq 7, 3) := by decide +kernel
theorem dX9_missing_9 : decode cX9_missing 9 = .ok (.iconst 0, 1) := by decide +kernel
theorem dX9_missing_10 : decode cX9_missing 10 = .ok (.goto 4, 3) := by decide +kernel
theorem dX9_missing_13 : decode cX9_missing 13 = .ok (.iconst 1, 1) := by decide +kernel
theorem dX9_missing_14 : decode cX9_missing 14 = .ok (.invokevirtual 93, 3) := by decide +kernel
theorem dX9_missing_17 : decode cX9_missing 17 = .ok (.ifCond .eq 5, 3) := by decide +kernel
theorem dX9_missing_20 : decode cX9_missing 20 = .ok (.iconst 0, 1) := by decide +kernel
theorem dX9_missing_21 : decode cX9_missing 21 = .ok (.ireturn, 1) := by decide +kernel
theorem dX9_missing_22 : decode cX9_missing 22 = .ok (.iconst 0, 1) := by decide +kernel
theorem dX9_missing_23 : decode cX9_missing 23 = .ok (.istore_n 2, 1) := by decide +kernel
theorem dX9_missing_24 : decode cX9_missing 24 = .ok (.iconst 0, 1) := by decide +kernel
theorem dX9_missing_25 : decode cX9_missing 25 = .ok (.istore_n 3, 1) := by decide +kernel
theorem dX9_missing_26 : decode cX9_missing 26 = .ok (.iload_n 3, 1) := by decide +kernel
theorem dX9_missing_27 : decode cX9_missing 27 = .ok (.iconst 4, 1) := by decide +kernel
theorem dX9_missing_28 : decode cX9_missing 28 = .ok (.if_icmp .ge 96, 3) := by decide +kernel
theorem dX9_missing_31 : decode cX9_missing 31 = .ok (.iconst 0, 1) := by decide +kernel
theorem dX9_missing_32 : decode cX9_missing 32 = .ok (.istore 4, 2) := by decide +kernel
theorem dX9_missing_34 : decode cX9_missing 34 = .ok (.iconst 0, 1) := by decide +kernel
theorem dX9_missing_35 : decode cX9_missing 35 = .ok (.istore 5, 2) := by decide +kernel
theorem dX9_missing_37 : decode cX9_missing 37 = .ok (.iload 5, 2) := by decide +kernel
theorem dX9_missing_39 : decode cX9_missing 39 = .ok (.aload_n 0, 1) := by decide +kernel
theorem dX9_missing_40 : decode cX9_missing 40 = .ok (.getfield 13, 3) := by decide +kernel
theorem dX9_missing_43 : decode cX9_missing 43 = .ok (.if_icmp .ge 54, 3) := by decide +kernel
theorem dX9_missing_46 : decode cX9_missing 46 = .ok (.iload 4, 2) := by decide +kernel
theorem dX9_missing_48 : decode cX9_missing 48 = .ok (.ifCond .ne 36, 3) := by decide +kernel
theorem dX9_missing_51 : decode cX9_missing 51 = .ok (.aload_n 0, 1) := by decide +kernel
theorem dX9_missing_52 : decode cX9_missing 52 = .ok (.aload_n 0, 1) := by decide +kernel
theorem dX9_missing_53 : decode cX9_missing 53 = .ok (.getfield 41, 3) := by decide +kernel
theorem dX9_missing_56 : decode cX9_missing 56 = .ok (.iload 5, 2) := by decide +kernel
theorem dX9_missing_58 : decode cX9_missing 58 = .ok (.iload_n 1, 1) := by decide +kernel
theorem dX9_missing_59 : decode cX9_missing 59 = .ok (.invokevirtual 163, 3) := by decide +kernel
theorem dX9_missing_62 : decode cX9_missing 62 = .ok (.ifCond .eq 26, 3) := by decide +kernel
theorem dX9_missing_65 : decode cX9_missing 65 = .ok (.aload_n 0, 1) := by decide +kernel
theorem dX9_missing_66 : decode cX9_missing 66 = .ok (.getfield 41, 3) := by decide +kernel
theorem dX9_missing_69 : decode cX9_missing 69 = .ok (.iload 5, 2) := by decide +kernel
theorem dX9_missing_71 : decode cX9_missing 71 = .ok (.invokestatic 126, 3) := by decide +kernel
theorem dX9_missing_74 : decode cX9_missing 74 = .ok (.bipush 6, 2) := by decide +kernel
theorem dX9_missing_76 : decode cX9_missing 76 = .ok (.iadd, 1) := by decide +kernel
theorem dX9_missing_77 : decode cX9_missing 77 = .ok (.iload_n 1, 1) := by decide +kernel
theorem dX9_missing_78 : decode cX9_missing 78 = .ok (.iadd, 1) := by decide +kernel
theorem dX9_missing_79 : decode cX9_missing 79 = .ok (.iaload, 1) := by decide +kernel
theorem dX9_missing_80 : decode cX9_missing 80 = .ok (.iload_n 3, 1) := by decide +kernel
theorem dX9_missing_81 : decode cX9_missing 81 = .ok (.if_icmp .ne 7, 3) := by decide +kernel
theorem dX9_missing_84 : decode cX9_missing 84 = .ok (.iconst 1, 1) := by decide +kernel
theorem dX9_missing_85 : decode cX9_missing 85 = .ok (.goto 4, 3) := by decide +kernel
theorem dX9_missing_88 : decode cX9_missing 88 = .ok (.iconst 0, 1) := by decide +kernel
theorem dX9_missing_89 : decode cX9_missing 89 = .ok (.istore 4, 2) := by decide +kernel
theorem dX9_missing_91 : decode cX9_missing 91 = .ok (.iinc 5 1, 3) := by decide +kernel
theorem dX9_missing_94 : decode cX9_missing 94 = .ok (.goto (-57), 3) := by decide +kernel
theorem dX9_missing_97 : decode cX9_missing 97 = .ok (.iload_n 2, 1) := by decide +kernel
theorem dX9_missing_98 : decode cX9_missing 98 = .ok (.iload 4, 2) := by decide +kernel
theorem dX9_missing_100 : decode cX9_missing 100 = .ok (.ifCond .eq 15, 3) := by decide +kernel
theorem dX9_missing_103 : decode cX9_missing 103 = .ok (.aload_n 0, 1) := by decide +kernel
theorem dX9_missing_104 : decode cX9_missing 104 = .ok (.getfield 41, 3) := by decide +kernel
theorem dX9_missing_107 : decode cX9_missing 107 = .ok (.iload_n 1, 1) := by decide +kernel
theorem dX9_missing_108 : decode cX9_missing 108 = .ok (.iload_n 3, 1) := by decide +kernel
theorem dX9_missing_109 : decode cX9_missing 109 = .ok (.invokestatic 174, 3) := by decide +kernel
theorem dX9_missing_112 : decode cX9_missing 112 = .ok (.goto 4, 3) := by decide +kernel
theorem dX9_missing_115 : decode cX9_missing 115 = .ok (.iconst 0, 1) := by decide +kernel
theorem dX9_missing_116 : decode cX9_missing 116 = .ok (.iadd, 1) := by decide +kernel
theorem dX9_missing_117 : decode cX9_missing 117 = .ok (.istore_n 2, 1) := by decide +kernel
theorem dX9_missing_118 : decode cX9_missing 118 = .ok (.iinc 3 1, 3) := by decide +kernel
theorem dX9_missing_121 : decode cX9_missing 121 = .ok (.goto (-95), 3) := by decide +kernel
theorem dX9_missing_124 : decode cX9_missing 124 = .ok (.iload_n 2, 1) := by decide +kernel
theorem dX9_missing_125 : decode cX9_missing 125 = .ok (.ireturn, 1) := by decide +kernel
theorem dX9_ahead_0 : decode cX9_ahead 0 = .ok (.aload_n 0, 1) := by decide +kernel
theorem dX9_ahead_1 : decode cX9_ahead 1 = .ok (.aload_n 0, 1) := by decide +kernel
theorem dX9_ahead_2 : decode cX9_ahead 2 = .ok (.iload_n 2, 1) := by decide +kernel
theorem dX9_ahead_3 : decode cX9_ahead 3 = .ok (.invokevirtual 203, 3) := by decide +kernel
theorem dX9_ahead_6 : decode cX9_ahead 6 = .ok (.ifCond .ne 7, 3) := by decide +kernel
theorem dX9_ahead_9 : decode cX9_ahead 9 = .ok (.iconst 1, 1) := by decide +kernel
theorem dX9_ahead_10 : decode cX9_ahead 10 = .ok (.goto 32, 3) := by decide +kernel
theorem dX9_ahead_13 : decode cX9_ahead 13 = .ok (.iload_n 1, 1) := by decide +kernel
theorem dX9_ahead_14 : decode cX9_ahead 14 = .ok (.i2l, 1) := by decide +kernel
theorem dX9_ahead_15 : decode cX9_ahead 15 = .ok (.lconst 0, 1) := by decide +kernel
theorem dX9_ahead_16 : decode cX9_ahead 16 = .ok (.ldc2_w 234, 3) := by decide +kernel
theorem dX9_ahead_19 : decode cX9_ahead 19 = .ok (.invokestatic 82, 3) := by decide +kernel
theorem dX9_ahead_22 : decode cX9_ahead 22 = .ok (.ifCond .eq 15, 3) := by decide +kernel
theorem dX9_ahead_25 : decode cX9_ahead 25 = .ok (.iload_n 3, 1) := by decide +kernel
theorem dX9_ahead_26 : decode cX9_ahead 26 = .ok (.i2l, 1) := by decide +kernel
theorem dX9_ahead_27 : decode cX9_ahead 27 = .ok (.lconst 0, 1) := by decide +kernel
theorem dX9_ahead_28 : decode cX9_ahead 28 = .ok (.ldc2_w 206, 3) := by decide +kernel
theorem dX9_ahead_31 : decode cX9_ahead 31 = .ok (.invokestatic 82, 3) := by decide +kernel
theorem dX9_ahead_34 : decode cX9_ahead 34 = .ok (.ifCond .ne 7, 3) := by decide +kernel
theorem dX9_ahead_37 : decode cX9_ahead 37 = .ok (.iconst 2, 1) := by decide +kernel
theorem dX9_ahead_38 : decode cX9_ahead 38 = .ok (.goto 4, 3) := by decide +kernel
theorem dX9_ahead_41 : decode cX9_ahead 41 = .ok (.iconst 0, 1) := by decide +kernel
theorem dX9_ahead_42 : decode cX9_ahead 42 = .ok (.invokevirtual 93, 3) := by decide +kernel
theorem dX9_ahead_45 : decode cX9_ahead 45 = .ok (.ifCond .eq 5, 3) := by decide +kernel
theorem dX9_ahead_48 : decode cX9_ahead 48 = .ok (.iconst 0, 1) := by decide +kernel
theorem dX9_ahead_49 : decode cX9_ahead 49 = .ok (.ireturn, 1) := by decide +kernel
theorem dX9_ahead_50 : decode cX9_ahead 50 = .ok (.aload_n 0, 1) := by decide +kernel
theorem dX9_ahead_51 : decode cX9_ahead 51 = .ok (.getfield 41, 3) := by decide +kernel
theorem dX9_ahead_54 : decode cX9_ahead 54 = .ok (.iconst 0, 1) := by decide +kernel
theorem dX9_ahead_55 : decode cX9_ahead 55 = .ok (.aload_n 0, 1) := by decide +kernel
theorem dX9_ahead_56 : decode cX9_ahead 56 = .ok (.getfield 44, 3) := by decide +kernel
theorem dX9_ahead_59 : decode cX9_ahead 59 = .ok (.iconst 0, 1) := by decide +kernel
theorem dX9_ahead_60 : decode cX9_ahead 60 = .ok (.bipush 107, 2) := by decide +kernel
theorem dX9_ahead_62 : decode cX9_ahead 62 = .ok (.invokestatic 75, 3) := by decide +kernel
theorem dX9_ahead_65 : decode cX9_ahead 65 = .ok (.iconst 0, 1) := by decide +kernel
theorem dX9_ahead_66 : decode cX9_ahead 66 = .ok (.istore 4, 2) := by decide +kernel
theorem dX9_ahead_68 : decode cX9_ahead 68 = .ok (.iload 4, 2) := by decide +kernel
theorem dX9_ahead_70 : decode cX9_ahead 70 = .ok (.iload_n 1, 1) := by decide +kernel
theorem dX9_ahead_71 : decode cX9_ahead 71 = .ok (.if_icmp .ge 17, 3) := by decide +kernel
theorem dX9_ahead_74 : decode cX9_ahead 74 = .ok (.aload_n 0, 1) := by decide +kernel
theorem dX9_ahead_75 : decode cX9_ahead 75 = .ok (.aload_n 0, 1) := by decide +kernel
theorem dX9_ahead_76 : decode cX9_ahead 76 = .ok (.getfield 44, 3) := by decide +kernel
theorem dX9_ahead_79 : decode cX9_ahead 79 = .ok (.invokevirtual 230, 3) := by decide +kernel
theorem dX9_ahead_82 : decode cX9_ahead 82 = .ok (.iinc 4 1, 3) := by decide +kernel
theorem dX9_ahead_85 : decode cX9_ahead 85 = .ok (.goto (-17), 3) := by decide +kernel
theorem dX9_ahead_88 : decode cX9_ahead 88 = .ok (.aload_n 0, 1) := by decide +kernel
theorem dX9_ahead_89 : decode cX9_ahead 89 = .ok (.aload_n 0, 1) := by decide +kernel
theorem dX9_ahead_90 : decode cX9_ahead 90 = .ok (.getfield 44, 3) := by decide +kernel
theorem dX9_ahead_93 : decode cX9_ahead 93 = .ok (.iload_n 2, 1) := by decide +kernel
theorem dX9_ahead_94 : decode cX9_ahead 94 = .ok (.iload_n 3, 1) := by decide +kernel
theorem dX9_ahead_95 : decode cX9_ahead 95 = .ok (.invokevirtual 208, 3) := by decide +kernel
theorem dX9_ahead_98 : decode cX9_ahead 98 = .ok (.ireturn, 1) := by decide +kernel
theorem dX9_calmAfter_0 : decode cX9_calmAfter 0 = .ok (.aload_n 0, 1) := by decide +kernel
theorem dX9_calmAfter_1 : decode cX9_calmAfter 1 = .ok (.iconst 0, 1) := by decide +kernel
theorem dX9_calmAfter_2 : decode cX9_calmAfter 2 = .ok (.putfield 69, 3) := by decide +kernel
theorem dX9_calmAfter_5 : decode cX9_calmAfter 5 = .ok (.aload_n 0, 1) := by decide +kernel
theorem dX9_calmAfter_6 : decode cX9_calmAfter 6 = .ok (.getfield 41, 3) := by decide +kernel
theorem dX9_calmAfter_9 : decode cX9_calmAfter 9 = .ok (.iconst 0, 1) := by decide +kernel
theorem dX9_calmAfter_10 : decode cX9_calmAfter 10 = .ok (.aload_n 0, 1) := by decide +kernel
theorem dX9_calmAfter_11 : decode cX9_calmAfter 11 = .ok (.getfield 44, 3) := by decide +kernel
theorem dX9_calmAfter_14 : decode cX9_calmAfter 14 = .ok (.iconst 0, 1) := by decide +kernel
theorem dX9_calmAfter_15 : decode cX9_calmAfter 15 = .ok (.bipush 107, 2) := by decide +kernel
theorem dX9_calmAfter_17 : decode cX9_calmAfter 17 = .ok (.invokestatic 75, 3) := by decide +kernel
theorem dX9_calmAfter_20 : decode cX9_calmAfter 20 = .ok (.iconst 0, 1) := by decide +kernel
theorem dX9_calmAfter_21 : decode cX9_calmAfter 21 = .ok (.istore_n 1, 1) := by decide +kernel
theorem dX9_calmAfter_22 : decode cX9_calmAfter 22 = .ok (.iload_n 1, 1) := by decide +kernel
theorem dX9_calmAfter_23 : decode cX9_calmAfter 23 = .ok (.bipush 100, 2) := by decide +kernel
theorem dX9_calmAfter_25 : decode cX9_calmAfter 25 = .ok (.if_icmp .ge 38, 3) := by decide +kernel
theorem dX9_calmAfter_28 : decode cX9_calmAfter 28 = .ok (.aload_n 0, 1) := by decide +kernel
theorem dX9_calmAfter_29 : decode cX9_calmAfter 29 = .ok (.aload_n 0, 1) := by decide +kernel
theorem dX9_calmAfter_30 : decode cX9_calmAfter 30 = .ok (.getfield 44, 3) := by decide +kernel
theorem dX9_calmAfter_33 : decode cX9_calmAfter 33 = .ok (.invokevirtual 196, 3) := by decide +kernel
theorem dX9_calmAfter_36 : decode cX9_calmAfter 36 = .ok (.iconst 1, 1) := by decide +kernel
theorem dX9_calmAfter_37 : decode cX9_calmAfter 37 = .ok (.aload_n 0, 1) := by decide +kernel
theorem dX9_calmAfter_38 : decode cX9_calmAfter 38 = .ok (.getfield 13, 3) := by decide +kernel
theorem dX9_calmAfter_41 : decode cX9_calmAfter 41 = .ok (.ishl, 1) := by decide +kernel
theorem dX9_calmAfter_42 : decode cX9_calmAfter 42 = .ok (.iconst 1, 1) := by decide +kernel
theorem dX9_calmAfter_43 : decode cX9_calmAfter 43 = .ok (.isub, 1) := by decide +kernel
theorem dX9_calmAfter_44 : decode cX9_calmAfter 44 = .ok (.if_icmp .ne 5, 3) := by decide +kernel
theorem dX9_calmAfter_47 : decode cX9_calmAfter 47 = .ok (.iload_n 1, 1) := by decide +kernel
theorem dX9_calmAfter_48 : decode cX9_calmAfter 48 = .ok (.ireturn, 1) := by decide +kernel
theorem dX9_calmAfter_49 : decode cX9_calmAfter 49 = .ok (.aload_n 0, 1) := by decide +kernel
theorem dX9_calmAfter_50 : decode cX9_calmAfter 50 = .ok (.aload_n 0, 1) := by decide +kernel
theorem dX9_calmAfter_51 : decode cX9_calmAfter 51 = .ok (.getfield 44, 3) := by decide +kernel
theorem dX9_calmAfter_54 : decode cX9_calmAfter 54 = .ok (.invokevirtual 230, 3) := by decide +kernel
theorem dX9_calmAfter_57 : decode cX9_calmAfter 57 = .ok (.iinc 1 1, 3) := by decide +kernel
theorem dX9_calmAfter_60 : decode cX9_calmAfter 60 = .ok (.goto (-38), 3) := by decide +kernel
theorem dX9_calmAfter_63 : decode cX9_calmAfter 63 = .ok (.bipush (-9), 2) := by decide +kernel
theorem dX9_calmAfter_65 : decode cX9_calmAfter 65 = .ok (.ireturn, 1) := by decide +kernel
theorem dX9_layWays_0 : decode cX9_layWays 0 = .ok (.iconst 1, 1) := by decide +kernel
theorem dX9_layWays_1 : decode cX9_layWays 1 = .ok (.iconst 2, 1) := by decide +kernel
theorem dX9_layWays_2 : decode cX9_layWays 2 = .ok (.aload_n 0, 1) := by decide +kernel
theorem dX9_layWays_3 : decode cX9_layWays 3 = .ok (.getfield 17, 3) := by decide +kernel
theorem dX9_layWays_6 : decode cX9_layWays 6 = .ok (.imul, 1) := by decide +kernel
theorem dX9_layWays_7 : decode cX9_layWays 7 = .ok (.ishl, 1) := by decide +kernel
theorem dX9_layWays_8 : decode cX9_layWays 8 = .ok (.istore_n 2, 1) := by decide +kernel
theorem dX9_layWays_9 : decode cX9_layWays 9 = .ok (.iconst 0, 1) := by decide +kernel
theorem dX9_layWays_10 : decode cX9_layWays 10 = .ok (.istore_n 3, 1) := by decide +kernel
theorem dX9_layWays_11 : decode cX9_layWays 11 = .ok (.iload_n 3, 1) := by decide +kernel
theorem dX9_layWays_12 : decode cX9_layWays 12 = .ok (.iload_n 2, 1) := by decide +kernel
theorem dX9_layWays_13 : decode cX9_layWays 13 = .ok (.if_icmp .ge 28, 3) := by decide +kernel
theorem dX9_layWays_16 : decode cX9_layWays 16 = .ok (.aload_n 0, 1) := by decide +kernel
theorem dX9_layWays_17 : decode cX9_layWays 17 = .ok (.getfield 57, 3) := by decide +kernel
theorem dX9_layWays_20 : decode cX9_layWays 20 = .ok (.iload_n 3, 1) := by decide +kernel
theorem dX9_layWays_21 : decode cX9_layWays 21 = .ok (.aload_n 0, 1) := by decide +kernel
theorem dX9_layWays_22 : decode cX9_layWays 22 = .ok (.iload_n 3, 1) := by decide +kernel
theorem dX9_layWays_23 : decode cX9_layWays 23 = .ok (.invokevirtual 160, 3) := by decide +kernel
theorem dX9_layWays_26 : decode cX9_layWays 26 = .ok (.iastore, 1) := by decide +kernel
theorem dX9_layWays_27 : decode cX9_layWays 27 = .ok (.aload_n 0, 1) := by decide +kernel
theorem dX9_layWays_28 : decode cX9_layWays 28 = .ok (.getfield 60, 3) := by decide +kernel
theorem dX9_layWays_31 : decode cX9_layWays 31 = .ok (.iload_n 3, 1) := by decide +kernel
theorem dX9_layWays_32 : decode cX9_layWays 32 = .ok (.bipush (-9), 2) := by decide +kernel
theorem dX9_layWays_34 : decode cX9_layWays 34 = .ok (.iastore, 1) := by decide +kernel
theorem dX9_layWays_35 : decode cX9_layWays 35 = .ok (.iinc 3 1, 3) := by decide +kernel
theorem dX9_layWays_38 : decode cX9_layWays 38 = .ok (.goto (-27), 3) := by decide +kernel
theorem dX9_layWays_41 : decode cX9_layWays 41 = .ok (.aload_n 0, 1) := by decide +kernel
theorem dX9_layWays_42 : decode cX9_layWays 42 = .ok (.getfield 60, 3) := by decide +kernel
theorem dX9_layWays_45 : decode cX9_layWays 45 = .ok (.iload_n 1, 1) := by decide +kernel
theorem dX9_layWays_46 : decode cX9_layWays 46 = .ok (.iconst 0, 1) := by decide +kernel
theorem dX9_layWays_47 : decode cX9_layWays 47 = .ok (.iastore, 1) := by decide +kernel
theorem dX9_layWays_48 : decode cX9_layWays 48 = .ok (.aload_n 0, 1) := by decide +kernel
theorem dX9_layWays_49 : decode cX9_layWays 49 = .ok (.getfield 63, 3) := by decide +kernel
theorem dX9_layWays_52 : decode cX9_layWays 52 = .ok (.iconst 0, 1) := by decide +kernel
theorem dX9_layWays_53 : decode cX9_layWays 53 = .ok (.iload_n 1, 1) := by decide +kernel
theorem dX9_layWays_54 : decode cX9_layWays 54 = .ok (.iastore, 1) := by decide +kernel
theorem dX9_layWays_55 : decode cX9_layWays 55 = .ok (.iconst 0, 1) := by decide +kernel
theorem dX9_layWays_56 : decode cX9_layWays 56 = .ok (.istore_n 3, 1) := by decide +kernel
theorem dX9_layWays_57 : decode cX9_layWays 57 = .ok (.iconst 1, 1) := by decide +kernel
theorem dX9_layWays_58 : decode cX9_layWays 58 = .ok (.istore 4, 2) := by decide +kernel
theorem dX9_layWays_60 : decode cX9_layWays 60 = .ok (.iload_n 3, 1) := by decide +kernel
theorem dX9_layWays_61 : decode cX9_layWays 61 = .ok (.iload 4, 2) := by decide +kernel
theorem dX9_layWays_63 : decode cX9_layWays 63 = .ok (.if_icmp .ge 121, 3) := by decide +kernel
theorem dX9_layWays_66 : decode cX9_layWays 66 = .ok (.aload_n 0, 1) := by decide +kernel
theorem dX9_layWays_67 : decode cX9_layWays 67 = .ok (.getfield 63, 3) := by decide +kernel
theorem dX9_layWays_70 : decode cX9_layWays 70 = .ok (.iload_n 3, 1) := by decide +kernel
theorem dX9_layWays_71 : decode cX9_layWays 71 = .ok (.iaload, 1) := by decide +kernel
theorem dX9_layWays_72 : decode cX9_layWays 72 = .ok (.istore 5, 2) := by decide +kernel
theorem dX9_layWays_74 : decode cX9_layWays 74 = .ok (.iinc 3 1, 3) := by decide +kernel
theorem dX9_layWays_77 : decode cX9_layWays 77 = .ok (.iconst 0, 1) := by decide +kernel
theorem dX9_layWays_78 : decode cX9_layWays 78 = .ok (.istore 6, 2) := by decide +kernel
theorem dX9_layWays_80 : decode cX9_layWays 80 = .ok (.iload 6, 2) := by decide +kernel
theorem dX9_layWays_82 : decode cX9_layWays 82 = .ok (.aload_n 0, 1) := by decide +kernel
theorem dX9_layWays_83 : decode cX9_layWays 83 = .ok (.getfield 17, 3) := by decide +kernel
theorem dX9_layWays_86 : decode cX9_layWays 86 = .ok (.if_icmp .ge 95, 3) := by decide +kernel
theorem dX9_layWays_89 : decode cX9_layWays 89 = .ok (.iconst 0, 1) := by decide +kernel
theorem dX9_layWays_90 : decode cX9_layWays 90 = .ok (.istore 7, 2) := by decide +kernel
theorem dX9_layWays_92 : decode cX9_layWays 92 = .ok (.iload 7, 2) := by decide +kernel
theorem dX9_layWays_94 : decode cX9_layWays 94 = .ok (.iconst 4, 1) := by decide +kernel
theorem dX9_layWays_95 : decode cX9_layWays 95 = .ok (.if_icmp .ge 80, 3) := by decide +kernel
theorem dX9_layWays_98 : decode cX9_layWays 98 = .ok (.iload 5, 2) := by decide +kernel
theorem dX9_layWays_100 : decode cX9_layWays 100 = .ok (.iload 6, 2) := by decide +kernel
theorem dX9_layWays_102 : decode cX9_layWays 102 = .ok (.iload 7, 2) := by decide +kernel
theorem dX9_layWays_104 : decode cX9_layWays 104 = .ok (.invokestatic 157, 3) := by decide +kernel
theorem dX9_layWays_107 : decode cX9_layWays 107 = .ok (.istore 8, 2) := by decide +kernel
theorem dX9_layWays_109 : decode cX9_layWays 109 = .ok (.aload_n 0, 1) := by decide +kernel
theorem dX9_layWays_110 : decode cX9_layWays 110 = .ok (.getfield 60, 3) := by decide +kernel
theorem dX9_layWays_113 : decode cX9_layWays 113 = .ok (.iload 8, 2) := by decide +kernel
theorem dX9_layWays_115 : decode cX9_layWays 115 = .ok (.iaload, 1) := by decide +kernel
theorem dX9_layWays_116 : decode cX9_layWays 116 = .ok (.bipush (-9), 2) := by decide +kernel
theorem dX9_layWays_118 : decode cX9_layWays 118 = .ok (.if_icmp .ne 51, 3) := by decide +kernel
theorem dX9_layWays_121 : decode cX9_layWays 121 = .ok (.aload_n 0, 1) := by decide +kernel
theorem dX9_layWays_122 : decode cX9_layWays 122 = .ok (.getfield 57, 3) := by decide +kernel
theorem dX9_layWays_125 : decode cX9_layWays 125 = .ok (.iload 5, 2) := by decide +kernel
theorem dX9_layWays_127 : decode cX9_layWays 127 = .ok (.iaload, 1) := by decide +kernel
theorem dX9_layWays_128 : decode cX9_layWays 128 = .ok (.aload_n 0, 1) := by decide +kernel
theorem dX9_layWays_129 : decode cX9_layWays 129 = .ok (.getfield 57, 3) := by decide +kernel
theorem dX9_layWays_132 : decode cX9_layWays 132 = .ok (.iload 8, 2) := by decide +kernel
theorem dX9_layWays_134 : decode cX9_layWays 134 = .ok (.iaload, 1) := by decide +kernel
theorem dX9_layWays_135 : decode cX9_layWays 135 = .ok (.iconst (-1), 1) := by decide +kernel
theorem dX9_layWays_136 : decode cX9_layWays 136 = .ok (.ixor, 1) := by decide +kernel
theorem dX9_layWays_137 : decode cX9_layWays 137 = .ok (.iand, 1) := by decide +kernel
theorem dX9_layWays_138 : decode cX9_layWays 138 = .ok (.ifCond .ne 31, 3) := by decide +kernel
theorem dX9_layWays_141 : decode cX9_layWays 141 = .ok (.aload_n 0, 1) := by decide +kernel
theorem dX9_layWays_142 : decode cX9_layWays 142 = .ok (.getfield 60, 3) := by decide +kernel
theorem dX9_layWays_145 : decode cX9_layWays 145 = .ok (.iload 8, 2) := by decide +kernel
theorem dX9_layWays_147 : decode cX9_layWays 147 = .ok (.aload_n 0, 1) := by decide +kernel
theorem dX9_layWays_148 : decode cX9_layWays 148 = .ok (.getfield 60, 3) := by decide +kernel
theorem dX9_layWays_151 : decode cX9_layWays 151 = .ok (.iload 5, 2) := by decide +kernel
theorem dX9_layWays_153 : decode cX9_layWays 153 = .ok (.iaload, 1) := by decide +kernel
theorem dX9_layWays_154 : decode cX9_layWays 154 = .ok (.iconst 1, 1) := by decide +kernel
theorem dX9_layWays_155 : decode cX9_layWays 155 = .ok (.iadd, 1) := by decide +kernel
theorem dX9_layWays_156 : decode cX9_layWays 156 = .ok (.iastore, 1) := by decide +kernel
theorem dX9_layWays_157 : decode cX9_layWays 157 = .ok (.aload_n 0, 1) := by decide +kernel
theorem dX9_layWays_158 : decode cX9_layWays 158 = .ok (.getfield 63, 3) := by decide +kernel
theorem dX9_layWays_161 : decode cX9_layWays 161 = .ok (.iload 4, 2) := by decide +kernel
theorem dX9_layWays_163 : decode cX9_layWays 163 = .ok (.iload 8, 2) := by decide +kernel
theorem dX9_layWays_165 : decode cX9_layWays 165 = .ok (.iastore, 1) := by decide +kernel
theorem dX9_layWays_166 : decode cX9_layWays 166 = .ok (.iinc 4 1, 3) := by decide +kernel
theorem dX9_layWays_169 : decode cX9_layWays 169 = .ok (.iinc 7 1, 3) := by decide +kernel
theorem dX9_layWays_172 : decode cX9_layWays 172 = .ok (.goto (-80), 3) := by decide +kernel
theorem dX9_layWays_175 : decode cX9_layWays 175 = .ok (.iinc 6 1, 3) := by decide +kernel
theorem dX9_layWays_178 : decode cX9_layWays 178 = .ok (.goto (-98), 3) := by decide +kernel
theorem dX9_layWays_181 : decode cX9_layWays 181 = .ok (.goto (-121), 3) := by decide +kernel
theorem dX9_layWays_184 : decode cX9_layWays 184 = .ok (.return_, 1) := by decide +kernel
theorem dX9_fewest_0 : decode cX9_fewest 0 = .ok (.aload_n 0, 1) := by decide +kernel
theorem dX9_fewest_1 : decode cX9_fewest 1 = .ok (.aload_n 0, 1) := by decide +kernel
theorem dX9_fewest_2 : decode cX9_fewest 2 = .ok (.iload_n 1, 1) := by decide +kernel
theorem dX9_fewest_3 : decode cX9_fewest 3 = .ok (.invokevirtual 203, 3) := by decide +kernel
theorem dX9_fewest_6 : decode cX9_fewest 6 = .ok (.ifCond .eq 7, 3) := by decide +kernel
theorem dX9_fewest_9 : decode cX9_fewest 9 = .ok (.iconst 0, 1) := by decide +kernel
theorem dX9_fewest_10 : decode cX9_fewest 10 = .ok (.goto 4, 3) := by decide +kernel
theorem dX9_fewest_13 : decode cX9_fewest 13 = .ok (.iconst 1, 1) := by decide +kernel
theorem dX9_fewest_14 : decode cX9_fewest 14 = .ok (.invokevirtual 93, 3) := by decide +kernel
theorem dX9_fewest_17 : decode cX9_fewest 17 = .ok (.ifCond .eq 5, 3) := by decide +kernel
theorem dX9_fewest_20 : decode cX9_fewest 20 = .ok (.iconst 0, 1) := by decide +kernel
theorem dX9_fewest_21 : decode cX9_fewest 21 = .ok (.ireturn, 1) := by decide +kernel
theorem dX9_fewest_22 : decode cX9_fewest 22 = .ok (.aload_n 0, 1) := by decide +kernel
theorem dX9_fewest_23 : decode cX9_fewest 23 = .ok (.aload_n 0, 1) := by decide +kernel
theorem dX9_fewest_24 : decode cX9_fewest 24 = .ok (.aload_n 0, 1) := by decide +kernel
theorem dX9_fewest_25 : decode cX9_fewest 25 = .ok (.getfield 41, 3) := by decide +kernel
theorem dX9_fewest_28 : decode cX9_fewest 28 = .ok (.iload_n 1, 1) := by decide +kernel
theorem dX9_fewest_29 : decode cX9_fewest 29 = .ok (.bipush 6, 2) := by decide +kernel
theorem dX9_fewest_31 : decode cX9_fewest 31 = .ok (.invokevirtual 153, 3) := by decide +kernel
theorem dX9_fewest_34 : decode cX9_fewest 34 = .ok (.invokevirtual 236, 3) := by decide +kernel
theorem dX9_fewest_37 : decode cX9_fewest 37 = .ok (.aload_n 0, 1) := by decide +kernel
theorem dX9_fewest_38 : decode cX9_fewest 38 = .ok (.getfield 60, 3) := by decide +kernel
theorem dX9_fewest_41 : decode cX9_fewest 41 = .ok (.aload_n 0, 1) := by decide +kernel
theorem dX9_fewest_42 : decode cX9_fewest 42 = .ok (.aload_n 0, 1) := by decide +kernel
theorem dX9_fewest_43 : decode cX9_fewest 43 = .ok (.getfield 41, 3) := by decide +kernel
theorem dX9_fewest_46 : decode cX9_fewest 46 = .ok (.iload_n 1, 1) := by decide +kernel
theorem dX9_fewest_47 : decode cX9_fewest 47 = .ok (.iconst 0, 1) := by decide +kernel
theorem dX9_fewest_48 : decode cX9_fewest 48 = .ok (.invokevirtual 153, 3) := by decide +kernel
theorem dX9_fewest_51 : decode cX9_fewest 51 = .ok (.iaload, 1) := by decide +kernel
theorem dX9_fewest_52 : decode cX9_fewest 52 = .ok (.ireturn, 1) := by decide +kernel
theorem dX9_firstStep_0 : decode cX9_firstStep 0 = .ok (.iconst 0, 1) := by decide +kernel
theorem dX9_firstStep_1 : decode cX9_firstStep 1 = .ok (.istore_n 2, 1) := by decide +kernel
theorem dX9_firstStep_2 : decode cX9_firstStep 2 = .ok (.iload_n 2, 1) := by decide +kernel
theorem dX9_firstStep_3 : decode cX9_firstStep 3 = .ok (.iconst 4, 1) := by decide +kernel
theorem dX9_firstStep_4 : decode cX9_firstStep 4 = .ok (.aload_n 0, 1) := by decide +kernel
theorem dX9_firstStep_5 : decode cX9_firstStep 5 = .ok (.getfield 17, 3) := by decide +kernel
theorem dX9_firstStep_8 : decode cX9_firstStep 8 = .ok (.imul, 1) := by decide +kernel
theorem dX9_firstStep_9 : decode cX9_firstStep 9 = .ok (.if_icmp .ge 62, 3) := by decide +kernel
theorem dX9_firstStep_12 : decode cX9_firstStep 12 = .ok (.iload_n 1, 1) := by decide +kernel
theorem dX9_firstStep_13 : decode cX9_firstStep 13 = .ok (.iload_n 2, 1) := by decide +kernel
theorem dX9_firstStep_14 : decode cX9_firstStep 14 = .ok (.iconst 4, 1) := by decide +kernel
theorem dX9_firstStep_15 : decode cX9_firstStep 15 = .ok (.idiv, 1) := by decide +kernel
theorem dX9_firstStep_16 : decode cX9_firstStep 16 = .ok (.iload_n 2, 1) := by decide +kernel
theorem dX9_firstStep_17 : decode cX9_firstStep 17 = .ok (.iconst 4, 1) := by decide +kernel
theorem dX9_firstStep_18 : decode cX9_firstStep 18 = .ok (.irem, 1) := by decide +kernel
theorem dX9_firstStep_19 : decode cX9_firstStep 19 = .ok (.invokestatic 157, 3) := by decide +kernel
theorem dX9_firstStep_22 : decode cX9_firstStep 22 = .ok (.istore_n 3, 1) := by decide +kernel
theorem dX9_firstStep_23 : decode cX9_firstStep 23 = .ok (.iload_n 3, 1) := by decide +kernel
theorem dX9_firstStep_24 : decode cX9_firstStep 24 = .ok (.iload_n 1, 1) := by decide +kernel
theorem dX9_firstStep_25 : decode cX9_firstStep 25 = .ok (.if_icmp .eq 40, 3) := by decide +kernel
theorem dX9_firstStep_28 : decode cX9_firstStep 28 = .ok (.aload_n 0, 1) := by decide +kernel
theorem dX9_firstStep_29 : decode cX9_firstStep 29 = .ok (.getfield 60, 3) := by decide +kernel
theorem dX9_firstStep_32 : decode cX9_firstStep 32 = .ok (.iload_n 3, 1) := by decide +kernel
theorem dX9_firstStep_33 : decode cX9_firstStep 33 = .ok (.iaload, 1) := by decide +kernel
theorem dX9_firstStep_34 : decode cX9_firstStep 34 = .ok (.aload_n 0, 1) := by decide +kernel
theorem dX9_firstStep_35 : decode cX9_firstStep 35 = .ok (.getfield 60, 3) := by decide +kernel
theorem dX9_firstStep_38 : decode cX9_firstStep 38 = .ok (.iload_n 1, 1) := by decide +kernel
theorem dX9_firstStep_39 : decode cX9_firstStep 39 = .ok (.iaload, 1) := by decide +kernel
theorem dX9_firstStep_40 : decode cX9_firstStep 40 = .ok (.iconst 1, 1) := by decide +kernel
theorem dX9_firstStep_41 : decode cX9_firstStep 41 = .ok (.isub, 1) := by decide +kernel
theorem dX9_firstStep_42 : decode cX9_firstStep 42 = .ok (.if_icmp .ne 23, 3) := by decide +kernel
theorem dX9_firstStep_45 : decode cX9_firstStep 45 = .ok (.aload_n 0, 1) := by decide +kernel
theorem dX9_firstStep_46 : decode cX9_firstStep 46 = .ok (.getfield 57, 3) := by decide +kernel
theorem dX9_firstStep_49 : decode cX9_firstStep 49 = .ok (.iload_n 3, 1) := by decide +kernel
theorem dX9_firstStep_50 : decode cX9_firstStep 50 = .ok (.iaload, 1) := by decide +kernel
theorem dX9_firstStep_51 : decode cX9_firstStep 51 = .ok (.aload_n 0, 1) := by decide +kernel
theorem dX9_firstStep_52 : decode cX9_firstStep 52 = .ok (.getfield 57, 3) := by decide +kernel
theorem dX9_firstStep_55 : decode cX9_firstStep 55 = .ok (.iload_n 1, 1) := by decide +kernel
theorem dX9_firstStep_56 : decode cX9_firstStep 56 = .ok (.iaload, 1) := by decide +kernel
theorem dX9_firstStep_57 : decode cX9_firstStep 57 = .ok (.iconst (-1), 1) := by decide +kernel
theorem dX9_firstStep_58 : decode cX9_firstStep 58 = .ok (.ixor, 1) := by decide +kernel
theorem dX9_firstStep_59 : decode cX9_firstStep 59 = .ok (.iand, 1) := by decide +kernel
theorem dX9_firstStep_60 : decode cX9_firstStep 60 = .ok (.ifCond .ne 5, 3) := by decide +kernel
theorem dX9_firstStep_63 : decode cX9_firstStep 63 = .ok (.iload_n 2, 1) := by decide +kernel
theorem dX9_firstStep_64 : decode cX9_firstStep 64 = .ok (.ireturn, 1) := by decide +kernel
theorem dX9_firstStep_65 : decode cX9_firstStep 65 = .ok (.iinc 2 1, 3) := by decide +kernel
theorem dX9_firstStep_68 : decode cX9_firstStep 68 = .ok (.goto (-66), 3) := by decide +kernel
theorem dX9_firstStep_71 : decode cX9_firstStep 71 = .ok (.bipush (-9), 2) := by decide +kernel
theorem dX9_firstStep_73 : decode cX9_firstStep 73 = .ok (.ireturn, 1) := by decide +kernel
theorem dX9_step_0 : decode cX9_step 0 = .ok (.aload_n 0, 1) := by decide +kernel
theorem dX9_step_1 : decode cX9_step 1 = .ok (.aload_n 0, 1) := by decide +kernel
theorem dX9_step_2 : decode cX9_step 2 = .ok (.iload_n 1, 1) := by decide +kernel
theorem dX9_step_3 : decode cX9_step 3 = .ok (.invokevirtual 203, 3) := by decide +kernel
theorem dX9_step_6 : decode cX9_step 6 = .ok (.ifCond .ne 7, 3) := by decide +kernel
theorem dX9_step_9 : decode cX9_step 9 = .ok (.iconst 1, 1) := by decide +kernel
theorem dX9_step_10 : decode cX9_step 10 = .ok (.goto 12, 3) := by decide +kernel
theorem dX9_step_13 : decode cX9_step 13 = .ok (.iload_n 2, 1) := by decide +kernel
theorem dX9_step_14 : decode cX9_step 14 = .ok (.ifCond .ge 7, 3) := by decide +kernel
theorem dX9_step_17 : decode cX9_step 17 = .ok (.iconst 2, 1) := by decide +kernel
theorem dX9_step_18 : decode cX9_step 18 = .ok (.goto 4, 3) := by decide +kernel
theorem dX9_step_21 : decode cX9_step 21 = .ok (.iconst 0, 1) := by decide +kernel
theorem dX9_step_22 : decode cX9_step 22 = .ok (.invokevirtual 93, 3) := by decide +kernel
theorem dX9_step_25 : decode cX9_step 25 = .ok (.ifCond .eq 5, 3) := by decide +kernel
theorem dX9_step_28 : decode cX9_step 28 = .ok (.iconst 0, 1) := by decide +kernel
theorem dX9_step_29 : decode cX9_step 29 = .ok (.ireturn, 1) := by decide +kernel
theorem dX9_step_30 : decode cX9_step 30 = .ok (.aload_n 0, 1) := by decide +kernel
theorem dX9_step_31 : decode cX9_step 31 = .ok (.aload_n 0, 1) := by decide +kernel
theorem dX9_step_32 : decode cX9_step 32 = .ok (.aload_n 0, 1) := by decide +kernel
theorem dX9_step_33 : decode cX9_step 33 = .ok (.getfield 41, 3) := by decide +kernel
theorem dX9_step_36 : decode cX9_step 36 = .ok (.iload_n 1, 1) := by decide +kernel
theorem dX9_step_37 : decode cX9_step 37 = .ok (.bipush 6, 2) := by decide +kernel
theorem dX9_step_39 : decode cX9_step 39 = .ok (.invokevirtual 153, 3) := by decide +kernel
theorem dX9_step_42 : decode cX9_step 42 = .ok (.invokevirtual 236, 3) := by decide +kernel
theorem dX9_step_45 : decode cX9_step 45 = .ok (.aload_n 0, 1) := by decide +kernel
theorem dX9_step_46 : decode cX9_step 46 = .ok (.aload_n 0, 1) := by decide +kernel
theorem dX9_step_47 : decode cX9_step 47 = .ok (.getfield 41, 3) := by decide +kernel
theorem dX9_step_50 : decode cX9_step 50 = .ok (.iload_n 1, 1) := by decide +kernel
theorem dX9_step_51 : decode cX9_step 51 = .ok (.iconst 0, 1) := by decide +kernel
theorem dX9_step_52 : decode cX9_step 52 = .ok (.invokevirtual 153, 3) := by decide +kernel
theorem dX9_step_55 : decode cX9_step 55 = .ok (.istore_n 3, 1) := by decide +kernel
theorem dX9_step_56 : decode cX9_step 56 = .ok (.iload_n 2, 1) := by decide +kernel
theorem dX9_step_57 : decode cX9_step 57 = .ok (.aload_n 0, 1) := by decide +kernel
theorem dX9_step_58 : decode cX9_step 58 = .ok (.getfield 60, 3) := by decide +kernel
theorem dX9_step_61 : decode cX9_step 61 = .ok (.iload_n 3, 1) := by decide +kernel
theorem dX9_step_62 : decode cX9_step 62 = .ok (.iaload, 1) := by decide +kernel
theorem dX9_step_63 : decode cX9_step 63 = .ok (.if_icmp .lt 6, 3) := by decide +kernel
theorem dX9_step_66 : decode cX9_step 66 = .ok (.bipush (-9), 2) := by decide +kernel
theorem dX9_step_68 : decode cX9_step 68 = .ok (.ireturn, 1) := by decide +kernel
theorem dX9_step_69 : decode cX9_step 69 = .ok (.aload_n 0, 1) := by decide +kernel
theorem dX9_step_70 : decode cX9_step 70 = .ok (.iload_n 3, 1) := by decide +kernel
theorem dX9_step_71 : decode cX9_step 71 = .ok (.invokevirtual 240, 3) := by decide +kernel
theorem dX9_step_74 : decode cX9_step 74 = .ok (.istore 4, 2) := by decide +kernel
theorem dX9_step_76 : decode cX9_step 76 = .ok (.iconst 0, 1) := by decide +kernel
theorem dX9_step_77 : decode cX9_step 77 = .ok (.istore 5, 2) := by decide +kernel
theorem dX9_step_79 : decode cX9_step 79 = .ok (.iload 5, 2) := by decide +kernel
theorem dX9_step_81 : decode cX9_step 81 = .ok (.iload_n 2, 1) := by decide +kernel
theorem dX9_step_82 : decode cX9_step 82 = .ok (.if_icmp .ge 29, 3) := by decide +kernel
theorem dX9_step_85 : decode cX9_step 85 = .ok (.iload_n 3, 1) := by decide +kernel
theorem dX9_step_86 : decode cX9_step 86 = .ok (.iload 4, 2) := by decide +kernel
theorem dX9_step_88 : decode cX9_step 88 = .ok (.iconst 4, 1) := by decide +kernel
theorem dX9_step_89 : decode cX9_step 89 = .ok (.idiv, 1) := by decide +kernel
theorem dX9_step_90 : decode cX9_step 90 = .ok (.iload 4, 2) := by decide +kernel
theorem dX9_step_92 : decode cX9_step 92 = .ok (.iconst 4, 1) := by decide +kernel
theorem dX9_step_93 : decode cX9_step 93 = .ok (.irem, 1) := by decide +kernel
theorem dX9_step_94 : decode cX9_step 94 = .ok (.invokestatic 157, 3) := by decide +kernel
theorem dX9_step_97 : decode cX9_step 97 = .ok (.istore_n 3, 1) := by decide +kernel
theorem dX9_step_98 : decode cX9_step 98 = .ok (.aload_n 0, 1) := by decide +kernel
theorem dX9_step_99 : decode cX9_step 99 = .ok (.iload_n 3, 1) := by decide +kernel
theorem dX9_step_100 : decode cX9_step 100 = .ok (.invokevirtual 240, 3) := by decide +kernel
theorem dX9_step_103 : decode cX9_step 103 = .ok (.istore 4, 2) := by decide +kernel
theorem dX9_step_105 : decode cX9_step 105 = .ok (.iinc 5 1, 3) := by decide +kernel
theorem dX9_step_108 : decode cX9_step 108 = .ok (.goto (-29), 3) := by decide +kernel
theorem dX9_step_111 : decode cX9_step 111 = .ok (.iload 4, 2) := by decide +kernel
theorem dX9_step_113 : decode cX9_step 113 = .ok (.ireturn, 1) := by decide +kernel
theorem dX9_layNeeds_0 : decode cX9_layNeeds 0 = .ok (.iconst 0, 1) := by decide +kernel
theorem dX9_layNeeds_1 : decode cX9_layNeeds 1 = .ok (.istore_n 3, 1) := by decide +kernel
theorem dX9_layNeeds_2 : decode cX9_layNeeds 2 = .ok (.iload_n 3, 1) := by decide +kernel
theorem dX9_layNeeds_3 : decode cX9_layNeeds 3 = .ok (.bipush 6, 2) := by decide +kernel
theorem dX9_layNeeds_5 : decode cX9_layNeeds 5 = .ok (.if_icmp .ge 25, 3) := by decide +kernel
theorem dX9_layNeeds_8 : decode cX9_layNeeds 8 = .ok (.aload_n 0, 1) := by decide +kernel
theorem dX9_layNeeds_9 : decode cX9_layNeeds 9 = .ok (.getfield 66, 3) := by decide +kernel
theorem dX9_layNeeds_12 : decode cX9_layNeeds 12 = .ok (.iload_n 3, 1) := by decide +kernel
theorem dX9_layNeeds_13 : decode cX9_layNeeds 13 = .ok (.iload_n 3, 1) := by decide +kernel
theorem dX9_layNeeds_14 : decode cX9_layNeeds 14 = .ok (.iload_n 1, 1) := by decide +kernel
theorem dX9_layNeeds_15 : decode cX9_layNeeds 15 = .ok (.if_icmp .ne 7, 3) := by decide +kernel
theorem dX9_layNeeds_18 : decode cX9_layNeeds 18 = .ok (.iload_n 2, 1) := by decide +kernel
theorem dX9_layNeeds_19 : decode cX9_layNeeds 19 = .ok (.goto 4, 3) := by decide +kernel
theorem dX9_layNeeds_22 : decode cX9_layNeeds 22 = .ok (.iconst 0, 1) := by decide +kernel
theorem dX9_layNeeds_23 : decode cX9_layNeeds 23 = .ok (.iastore, 1) := by decide +kernel
theorem dX9_layNeeds_24 : decode cX9_layNeeds 24 = .ok (.iinc 3 1, 3) := by decide +kernel
theorem dX9_layNeeds_27 : decode cX9_layNeeds 27 = .ok (.goto (-25), 3) := by decide +kernel
theorem dX9_layNeeds_30 : decode cX9_layNeeds 30 = .ok (.iconst 1, 1) := by decide +kernel
theorem dX9_layNeeds_31 : decode cX9_layNeeds 31 = .ok (.istore_n 3, 1) := by decide +kernel
theorem dX9_layNeeds_32 : decode cX9_layNeeds 32 = .ok (.iload_n 3, 1) := by decide +kernel
theorem dX9_layNeeds_33 : decode cX9_layNeeds 33 = .ok (.ifCond .eq 119, 3) := by decide +kernel
theorem dX9_layNeeds_36 : decode cX9_layNeeds 36 = .ok (.iconst 0, 1) := by decide +kernel
theorem dX9_layNeeds_37 : decode cX9_layNeeds 37 = .ok (.istore_n 3, 1) := by decide +kernel
theorem dX9_layNeeds_38 : decode cX9_layNeeds 38 = .ok (.iconst 0, 1) := by decide +kernel
theorem dX9_layNeeds_39 : decode cX9_layNeeds 39 = .ok (.istore 4, 2) := by decide +kernel
theorem dX9_layNeeds_41 : decode cX9_layNeeds 41 = .ok (.iload 4, 2) := by decide +kernel
theorem dX9_layNeeds_43 : decode cX9_layNeeds 43 = .ok (.aload_n 0, 1) := by decide +kernel
theorem dX9_layNeeds_44 : decode cX9_layNeeds 44 = .ok (.getfield 146, 3) := by decide +kernel
theorem dX9_layNeeds_47 : decode cX9_layNeeds 47 = .ok (.if_icmp .ge 102, 3) := by decide +kernel
theorem dX9_layNeeds_50 : decode cX9_layNeeds 50 = .ok (.iconst 5, 1) := by decide +kernel
theorem dX9_layNeeds_51 : decode cX9_layNeeds 51 = .ok (.iload 4, 2) := by decide +kernel
theorem dX9_layNeeds_53 : decode cX9_layNeeds 53 = .ok (.imul, 1) := by decide +kernel
theorem dX9_layNeeds_54 : decode cX9_layNeeds 54 = .ok (.istore 5, 2) := by decide +kernel
theorem dX9_layNeeds_56 : decode cX9_layNeeds 56 = .ok (.aload_n 0, 1) := by decide +kernel
theorem dX9_layNeeds_57 : decode cX9_layNeeds 57 = .ok (.getfield 29, 3) := by decide +kernel
theorem dX9_layNeeds_60 : decode cX9_layNeeds 60 = .ok (.iload 5, 2) := by decide +kernel
theorem dX9_layNeeds_62 : decode cX9_layNeeds 62 = .ok (.iaload, 1) := by decide +kernel
theorem dX9_layNeeds_63 : decode cX9_layNeeds 63 = .ok (.ifCond .ne 80, 3) := by decide +kernel
theorem dX9_layNeeds_66 : decode cX9_layNeeds 66 = .ok (.aload_n 0, 1) := by decide +kernel
theorem dX9_layNeeds_67 : decode cX9_layNeeds 67 = .ok (.getfield 66, 3) := by decide +kernel
theorem dX9_layNeeds_70 : decode cX9_layNeeds 70 = .ok (.aload_n 0, 1) := by decide +kernel
theorem dX9_layNeeds_71 : decode cX9_layNeeds 71 = .ok (.getfield 29, 3) := by decide +kernel
theorem dX9_layNeeds_74 : decode cX9_layNeeds 74 = .ok (.iload 5, 2) := by decide +kernel
theorem dX9_layNeeds_76 : decode cX9_layNeeds 76 = .ok (.iconst 1, 1) := by decide +kernel
theorem dX9_layNeeds_77 : decode cX9_layNeeds 77 = .ok (.iadd, 1) := by decide +kernel
theorem dX9_layNeeds_78 : decode cX9_layNeeds 78 = .ok (.iaload, 1) := by decide +kernel
theorem dX9_layNeeds_79 : decode cX9_layNeeds 79 = .ok (.iaload, 1) := by decide +kernel
theorem dX9_layNeeds_80 : decode cX9_layNeeds 80 = .ok (.aload_n 0, 1) := by decide +kernel
theorem dX9_layNeeds_81 : decode cX9_layNeeds 81 = .ok (.getfield 29, 3) := by decide +kernel
theorem dX9_layNeeds_84 : decode cX9_layNeeds 84 = .ok (.iload 5, 2) := by decide +kernel
theorem dX9_layNeeds_86 : decode cX9_layNeeds 86 = .ok (.iconst 2, 1) := by decide +kernel
theorem dX9_layNeeds_87 : decode cX9_layNeeds 87 = .ok (.iadd, 1) := by decide +kernel
theorem dX9_layNeeds_88 : decode cX9_layNeeds 88 = .ok (.iaload, 1) := by decide +kernel
theorem dX9_layNeeds_89 : decode cX9_layNeeds 89 = .ok (.if_icmp .lt 54, 3) := by decide +kernel
theorem dX9_layNeeds_92 : decode cX9_layNeeds 92 = .ok (.aload_n 0, 1) := by decide +kernel
theorem dX9_layNeeds_93 : decode cX9_layNeeds 93 = .ok (.getfield 66, 3) := by decide +kernel
theorem dX9_layNeeds_96 : decode cX9_layNeeds 96 = .ok (.aload_n 0, 1) := by decide +kernel
theorem dX9_layNeeds_97 : decode cX9_layNeeds 97 = .ok (.getfield 29, 3) := by decide +kernel
theorem dX9_layNeeds_100 : decode cX9_layNeeds 100 = .ok (.iload 5, 2) := by decide +kernel
theorem dX9_layNeeds_102 : decode cX9_layNeeds 102 = .ok (.iconst 3, 1) := by decide +kernel
theorem dX9_layNeeds_103 : decode cX9_layNeeds 103 = .ok (.iadd, 1) := by decide +kernel
theorem dX9_layNeeds_104 : decode cX9_layNeeds 104 = .ok (.iaload, 1) := by decide +kernel
theorem dX9_layNeeds_105 : decode cX9_layNeeds 105 = .ok (.iaload, 1) := by decide +kernel
theorem dX9_layNeeds_106 : decode cX9_layNeeds 106 = .ok (.aload_n 0, 1) := by decide +kernel
theorem dX9_layNeeds_107 : decode cX9_layNeeds 107 = .ok (.getfield 29, 3) := by decide +kernel
theorem dX9_layNeeds_110 : decode cX9_layNeeds 110 = .ok (.iload 5, 2) := by decide +kernel
theorem dX9_layNeeds_112 : decode cX9_layNeeds 112 = .ok (.iconst 4, 1) := by decide +kernel
theorem dX9_layNeeds_113 : decode cX9_layNeeds 113 = .ok (.iadd, 1) := by decide +kernel
theorem dX9_layNeeds_114 : decode cX9_layNeeds 114 = .ok (.iaload, 1) := by decide +kernel
theorem dX9_layNeeds_115 : decode cX9_layNeeds 115 = .ok (.if_icmp .ge 28, 3) := by decide +kernel
theorem dX9_layNeeds_118 : decode cX9_layNeeds 118 = .ok (.aload_n 0, 1) := by decide +kernel
theorem dX9_layNeeds_119 : decode cX9_layNeeds 119 = .ok (.getfield 66, 3) := by decide +kernel
theorem dX9_layNeeds_122 : decode cX9_layNeeds 122 = .ok (.aload_n 0, 1) := by decide +kernel
theorem dX9_layNeeds_123 : decode cX9_layNeeds 123 = .ok (.getfield 29, 3) := by decide +kernel
theorem dX9_layNeeds_126 : decode cX9_layNeeds 126 = .ok (.iload 5, 2) := by decide +kernel
theorem dX9_layNeeds_128 : decode cX9_layNeeds 128 = .ok (.iconst 3, 1) := by decide +kernel
theorem dX9_layNeeds_129 : decode cX9_layNeeds 129 = .ok (.iadd, 1) := by decide +kernel
theorem dX9_layNeeds_130 : decode cX9_layNeeds 130 = .ok (.iaload, 1) := by decide +kernel
theorem dX9_layNeeds_131 : decode cX9_layNeeds 131 = .ok (.aload_n 0, 1) := by decide +kernel
theorem dX9_layNeeds_132 : decode cX9_layNeeds 132 = .ok (.getfield 29, 3) := by decide +kernel
theorem dX9_layNeeds_135 : decode cX9_layNeeds 135 = .ok (.iload 5, 2) := by decide +kernel
theorem dX9_layNeeds_137 : decode cX9_layNeeds 137 = .ok (.iconst 4, 1) := by decide +kernel
theorem dX9_layNeeds_138 : decode cX9_layNeeds 138 = .ok (.iadd, 1) := by decide +kernel
theorem dX9_layNeeds_139 : decode cX9_layNeeds 139 = .ok (.iaload, 1) := by decide +kernel
theorem dX9_layNeeds_140 : decode cX9_layNeeds 140 = .ok (.iastore, 1) := by decide +kernel
theorem dX9_layNeeds_141 : decode cX9_layNeeds 141 = .ok (.iconst 1, 1) := by decide +kernel
theorem dX9_layNeeds_142 : decode cX9_layNeeds 142 = .ok (.istore_n 3, 1) := by decide +kernel
theorem dX9_layNeeds_143 : decode cX9_layNeeds 143 = .ok (.iinc 4 1, 3) := by decide +kernel
theorem dX9_layNeeds_146 : decode cX9_layNeeds 146 = .ok (.goto (-105), 3) := by decide +kernel
theorem dX9_layNeeds_149 : decode cX9_layNeeds 149 = .ok (.goto (-117), 3) := by decide +kernel
theorem dX9_layNeeds_152 : decode cX9_layNeeds 152 = .ok (.return_, 1) := by decide +kernel
theorem dX9_needed_0 : decode cX9_needed 0 = .ok (.aload_n 0, 1) := by decide +kernel
theorem dX9_needed_1 : decode cX9_needed 1 = .ok (.aload_n 0, 1) := by decide +kernel
theorem dX9_needed_2 : decode cX9_needed 2 = .ok (.iload_n 1, 1) := by decide +kernel
theorem dX9_needed_3 : decode cX9_needed 3 = .ok (.invokevirtual 211, 3) := by decide +kernel
theorem dX9_needed_6 : decode cX9_needed 6 = .ok (.ifCond .eq 11, 3) := by decide +kernel
theorem dX9_needed_9 : decode cX9_needed 9 = .ok (.aload_n 0, 1) := by decide +kernel
theorem dX9_needed_10 : decode cX9_needed 10 = .ok (.iload_n 3, 1) := by decide +kernel
theorem dX9_needed_11 : decode cX9_needed 11 = .ok (.invokevirtual 211, 3) := by decide +kernel
theorem dX9_needed_14 : decode cX9_needed 14 = .ok (.ifCond .ne 7, 3) := by decide +kernel
theorem dX9_needed_17 : decode cX9_needed 17 = .ok (.iconst 1, 1) := by decide +kernel
theorem dX9_needed_18 : decode cX9_needed 18 = .ok (.goto 15, 3) := by decide +kernel
theorem dX9_needed_21 : decode cX9_needed 21 = .ok (.iload_n 2, 1) := by decide +kernel
theorem dX9_needed_22 : decode cX9_needed 22 = .ok (.invokestatic 216, 3) := by decide +kernel
theorem dX9_needed_25 : decode cX9_needed 25 = .ok (.ifCond .ne 7, 3) := by decide +kernel
theorem dX9_needed_28 : decode cX9_needed 28 = .ok (.iconst 2, 1) := by decide +kernel
theorem dX9_needed_29 : decode cX9_needed 29 = .ok (.goto 4, 3) := by decide +kernel
theorem dX9_needed_32 : decode cX9_needed 32 = .ok (.iconst 0, 1) := by decide +kernel
theorem dX9_needed_33 : decode cX9_needed 33 = .ok (.invokevirtual 93, 3) := by decide +kernel
theorem dX9_needed_36 : decode cX9_needed 36 = .ok (.ifCond .eq 5, 3) := by decide +kernel
theorem dX9_needed_39 : decode cX9_needed 39 = .ok (.iconst 0, 1) := by decide +kernel
theorem dX9_needed_40 : decode cX9_needed 40 = .ok (.ireturn, 1) := by decide +kernel
theorem dX9_needed_41 : decode cX9_needed 41 = .ok (.aload_n 0, 1) := by decide +kernel
theorem dX9_needed_42 : decode cX9_needed 42 = .ok (.iload_n 1, 1) := by decide +kernel
theorem dX9_needed_43 : decode cX9_needed 43 = .ok (.iload_n 2, 1) := by decide +kernel
theorem dX9_needed_44 : decode cX9_needed 44 = .ok (.invokevirtual 243, 3) := by decide +kernel
theorem dX9_needed_47 : decode cX9_needed 47 = .ok (.aload_n 0, 1) := by decide +kernel
theorem dX9_needed_48 : decode cX9_needed 48 = .ok (.getfield 66, 3) := by decide +kernel
theorem dX9_needed_51 : decode cX9_needed 51 = .ok (.iload_n 3, 1) := by decide +kernel
theorem dX9_needed_52 : decode cX9_needed 52 = .ok (.iaload, 1) := by decide +kernel
theorem dX9_needed_53 : decode cX9_needed 53 = .ok (.ireturn, 1) := by decide +kernel
theorem dX9_isPossible_0 : decode cX9_isPossible 0 = .ok (.aload_n 0, 1) := by decide +kernel
theorem dX9_isPossible_1 : decode cX9_isPossible 1 = .ok (.aload_n 0, 1) := by decide +kernel
theorem dX9_isPossible_2 : decode cX9_isPossible 2 = .ok (.iload_n 1, 1) := by decide +kernel
theorem dX9_isPossible_3 : decode cX9_isPossible 3 = .ok (.invokevirtual 211, 3) := by decide +kernel
theorem dX9_isPossible_6 : decode cX9_isPossible 6 = .ok (.ifCond .ne 7, 3) := by decide +kernel
theorem dX9_isPossible_9 : decode cX9_isPossible 9 = .ok (.iconst 1, 1) := by decide +kernel
theorem dX9_isPossible_10 : decode cX9_isPossible 10 = .ok (.goto 15, 3) := by decide +kernel
theorem dX9_isPossible_13 : decode cX9_isPossible 13 = .ok (.iload_n 2, 1) := by decide +kernel
theorem dX9_isPossible_14 : decode cX9_isPossible 14 = .ok (.invokestatic 216, 3) := by decide +kernel
theorem dX9_isPossible_17 : decode cX9_isPossible 17 = .ok (.ifCond .ne 7, 3) := by decide +kernel
theorem dX9_isPossible_20 : decode cX9_isPossible 20 = .ok (.iconst 2, 1) := by decide +kernel
theorem dX9_isPossible_21 : decode cX9_isPossible 21 = .ok (.goto 4, 3) := by decide +kernel
theorem dX9_isPossible_24 : decode cX9_isPossible 24 = .ok (.iconst 0, 1) := by decide +kernel
theorem dX9_isPossible_25 : decode cX9_isPossible 25 = .ok (.invokevirtual 93, 3) := by decide +kernel
theorem dX9_isPossible_28 : decode cX9_isPossible 28 = .ok (.ifCond .eq 5, 3) := by decide +kernel
theorem dX9_isPossible_31 : decode cX9_isPossible 31 = .ok (.iconst 0, 1) := by decide +kernel
theorem dX9_isPossible_32 : decode cX9_isPossible 32 = .ok (.ireturn, 1) := by decide +kernel
theorem dX9_isPossible_33 : decode cX9_isPossible 33 = .ok (.aload_n 0, 1) := by decide +kernel
theorem dX9_isPossible_34 : decode cX9_isPossible 34 = .ok (.iload_n 1, 1) := by decide +kernel
theorem dX9_isPossible_35 : decode cX9_isPossible 35 = .ok (.iload_n 2, 1) := by decide +kernel
theorem dX9_isPossible_36 : decode cX9_isPossible 36 = .ok (.invokevirtual 243, 3) := by decide +kernel
theorem dX9_isPossible_39 : decode cX9_isPossible 39 = .ok (.iconst 1, 1) := by decide +kernel
theorem dX9_isPossible_40 : decode cX9_isPossible 40 = .ok (.istore_n 3, 1) := by decide +kernel
theorem dX9_isPossible_41 : decode cX9_isPossible 41 = .ok (.iconst 0, 1) := by decide +kernel
theorem dX9_isPossible_42 : decode cX9_isPossible 42 = .ok (.istore 4, 2) := by decide +kernel
theorem dX9_isPossible_44 : decode cX9_isPossible 44 = .ok (.iload 4, 2) := by decide +kernel
theorem dX9_isPossible_46 : decode cX9_isPossible 46 = .ok (.aload_n 0, 1) := by decide +kernel
theorem dX9_isPossible_47 : decode cX9_isPossible 47 = .ok (.getfield 146, 3) := by decide +kernel
theorem dX9_isPossible_50 : decode cX9_isPossible 50 = .ok (.if_icmp .ge 88, 3) := by decide +kernel
theorem dX9_isPossible_53 : decode cX9_isPossible 53 = .ok (.iconst 5, 1) := by decide +kernel
theorem dX9_isPossible_54 : decode cX9_isPossible 54 = .ok (.iload 4, 2) := by decide +kernel
theorem dX9_isPossible_56 : decode cX9_isPossible 56 = .ok (.imul, 1) := by decide +kernel
theorem dX9_isPossible_57 : decode cX9_isPossible 57 = .ok (.istore 5, 2) := by decide +kernel
theorem dX9_isPossible_59 : decode cX9_isPossible 59 = .ok (.iload_n 3, 1) := by decide +kernel
theorem dX9_isPossible_60 : decode cX9_isPossible 60 = .ok (.ifCond .eq 70, 3) := by decide +kernel
theorem dX9_isPossible_63 : decode cX9_isPossible 63 = .ok (.aload_n 0, 1) := by decide +kernel
theorem dX9_isPossible_64 : decode cX9_isPossible 64 = .ok (.getfield 29, 3) := by decide +kernel
theorem dX9_isPossible_67 : decode cX9_isPossible 67 = .ok (.iload 5, 2) := by decide +kernel
theorem dX9_isPossible_69 : decode cX9_isPossible 69 = .ok (.iaload, 1) := by decide +kernel
theorem dX9_isPossible_70 : decode cX9_isPossible 70 = .ok (.iconst 1, 1) := by decide +kernel
theorem dX9_isPossible_71 : decode cX9_isPossible 71 = .ok (.if_icmp .ne 55, 3) := by decide +kernel
theorem dX9_isPossible_74 : decode cX9_isPossible 74 = .ok (.aload_n 0, 1) := by decide +kernel
theorem dX9_isPossible_75 : decode cX9_isPossible 75 = .ok (.getfield 66, 3) := by decide +kernel
theorem dX9_isPossible_78 : decode cX9_isPossible 78 = .ok (.aload_n 0, 1) := by decide +kernel
theorem dX9_isPossible_79 : decode cX9_isPossible 79 = .ok (.getfield 29, 3) := by decide +kernel
theorem dX9_isPossible_82 : decode cX9_isPossible 82 = .ok (.iload 5, 2) := by decide +kernel
theorem dX9_isPossible_84 : decode cX9_isPossible 84 = .ok (.iconst 1, 1) := by decide +kernel
theorem dX9_isPossible_85 : decode cX9_isPossible 85 = .ok (.iadd, 1) := by decide +kernel
theorem dX9_isPossible_86 : decode cX9_isPossible 86 = .ok (.iaload, 1) := by decide +kernel
theorem dX9_isPossible_87 : decode cX9_isPossible 87 = .ok (.iaload, 1) := by decide +kernel
theorem dX9_isPossible_88 : decode cX9_isPossible 88 = .ok (.aload_n 0, 1) := by decide +kernel
theorem dX9_isPossible_89 : decode cX9_isPossible 89 = .ok (.getfield 29, 3) := by decide +kernel
theorem dX9_isPossible_92 : decode cX9_isPossible 92 = .ok (.iload 5, 2) := by decide +kernel
theorem dX9_isPossible_94 : decode cX9_isPossible 94 = .ok (.iconst 2, 1) := by decide +kernel
theorem dX9_isPossible_95 : decode cX9_isPossible 95 = .ok (.iadd, 1) := by decide +kernel
theorem dX9_isPossible_96 : decode cX9_isPossible 96 = .ok (.iaload, 1) := by decide +kernel
theorem dX9_isPossible_97 : decode cX9_isPossible 97 = .ok (.if_icmp .lt 29, 3) := by decide +kernel
theorem dX9_isPossible_100 : decode cX9_isPossible 100 = .ok (.aload_n 0, 1) := by decide +kernel
theorem dX9_isPossible_101 : decode cX9_isPossible 101 = .ok (.getfield 66, 3) := by decide +kernel
theorem dX9_isPossible_104 : decode cX9_isPossible 104 = .ok (.aload_n 0, 1) := by decide +kernel
theorem dX9_isPossible_105 : decode cX9_isPossible 105 = .ok (.getfield 29, 3) := by decide +kernel
theorem dX9_isPossible_108 : decode cX9_isPossible 108 = .ok (.iload 5, 2) := by decide +kernel
theorem dX9_isPossible_110 : decode cX9_isPossible 110 = .ok (.iconst 3, 1) := by decide +kernel
theorem dX9_isPossible_111 : decode cX9_isPossible 111 = .ok (.iadd, 1) := by decide +kernel
theorem dX9_isPossible_112 : decode cX9_isPossible 112 = .ok (.iaload, 1) := by decide +kernel
theorem dX9_isPossible_113 : decode cX9_isPossible 113 = .ok (.iaload, 1) := by decide +kernel
theorem dX9_isPossible_114 : decode cX9_isPossible 114 = .ok (.aload_n 0, 1) := by decide +kernel
theorem dX9_isPossible_115 : decode cX9_isPossible 115 = .ok (.getfield 29, 3) := by decide +kernel
theorem dX9_isPossible_118 : decode cX9_isPossible 118 = .ok (.iload 5, 2) := by decide +kernel
theorem dX9_isPossible_120 : decode cX9_isPossible 120 = .ok (.iconst 4, 1) := by decide +kernel
theorem dX9_isPossible_121 : decode cX9_isPossible 121 = .ok (.iadd, 1) := by decide +kernel
theorem dX9_isPossible_122 : decode cX9_isPossible 122 = .ok (.iaload, 1) := by decide +kernel
theorem dX9_isPossible_123 : decode cX9_isPossible 123 = .ok (.if_icmp .ge 7, 3) := by decide +kernel
theorem dX9_isPossible_126 : decode cX9_isPossible 126 = .ok (.iconst 1, 1) := by decide +kernel
theorem dX9_isPossible_127 : decode cX9_isPossible 127 = .ok (.goto 4, 3) := by decide +kernel
theorem dX9_isPossible_130 : decode cX9_isPossible 130 = .ok (.iconst 0, 1) := by decide +kernel
theorem dX9_isPossible_131 : decode cX9_isPossible 131 = .ok (.istore_n 3, 1) := by decide +kernel
theorem dX9_isPossible_132 : decode cX9_isPossible 132 = .ok (.iinc 4 1, 3) := by decide +kernel
theorem dX9_isPossible_135 : decode cX9_isPossible 135 = .ok (.goto (-91), 3) := by decide +kernel
theorem dX9_isPossible_138 : decode cX9_isPossible 138 = .ok (.iload_n 3, 1) := by decide +kernel
theorem dX9_isPossible_139 : decode cX9_isPossible 139 = .ok (.ireturn, 1) := by decide +kernel
theorem dX9_explains_0 : decode cX9_explains 0 = .ok (.aload_n 0, 1) := by decide +kernel
theorem dX9_explains_1 : decode cX9_explains 1 = .ok (.aload_n 0, 1) := by decide +kernel
theorem dX9_explains_2 : decode cX9_explains 2 = .ok (.iload_n 1, 1) := by decide +kernel
theorem dX9_explains_3 : decode cX9_explains 3 = .ok (.invokevirtual 203, 3) := by decide +kernel
theorem dX9_explains_6 : decode cX9_explains 6 = .ok (.ifCond .ne 7, 3) := by decide +kernel
theorem dX9_explains_9 : decode cX9_explains 9 = .ok (.iconst 1, 1) := by decide +kernel
theorem dX9_explains_10 : decode cX9_explains 10 = .ok (.goto 20, 3) := by decide +kernel
theorem dX9_explains_13 : decode cX9_explains 13 = .ok (.iload_n 2, 1) := by decide +kernel
theorem dX9_explains_14 : decode cX9_explains 14 = .ok (.i2l, 1) := by decide +kernel
theorem dX9_explains_15 : decode cX9_explains 15 = .ok (.lconst 0, 1) := by decide +kernel
theorem dX9_explains_16 : decode cX9_explains 16 = .ok (.ldc2_w 247, 3) := by decide +kernel
theorem dX9_explains_19 : decode cX9_explains 19 = .ok (.invokestatic 82, 3) := by decide +kernel
theorem dX9_explains_22 : decode cX9_explains 22 = .ok (.ifCond .ne 7, 3) := by decide +kernel
theorem dX9_explains_25 : decode cX9_explains 25 = .ok (.iconst 2, 1) := by decide +kernel
theorem dX9_explains_26 : decode cX9_explains 26 = .ok (.goto 4, 3) := by decide +kernel
theorem dX9_explains_29 : decode cX9_explains 29 = .ok (.iconst 0, 1) := by decide +kernel
theorem dX9_explains_30 : decode cX9_explains 30 = .ok (.invokevirtual 93, 3) := by decide +kernel
theorem dX9_explains_33 : decode cX9_explains 33 = .ok (.ifCond .eq 5, 3) := by decide +kernel
theorem dX9_explains_36 : decode cX9_explains 36 = .ok (.iconst 0, 1) := by decide +kernel
theorem dX9_explains_37 : decode cX9_explains 37 = .ok (.ireturn, 1) := by decide +kernel
theorem dX9_explains_38 : decode cX9_explains 38 = .ok (.iconst 0, 1) := by decide +kernel
theorem dX9_explains_39 : decode cX9_explains 39 = .ok (.istore_n 3, 1) := by decide +kernel
theorem dX9_explains_40 : decode cX9_explains 40 = .ok (.aload_n 0, 1) := by decide +kernel
theorem dX9_explains_41 : decode cX9_explains 41 = .ok (.aload_n 0, 1) := by decide +kernel
theorem dX9_explains_42 : decode cX9_explains 42 = .ok (.getfield 41, 3) := by decide +kernel
theorem dX9_explains_45 : decode cX9_explains 45 = .ok (.iload_n 1, 1) := by decide +kernel
theorem dX9_explains_46 : decode cX9_explains 46 = .ok (.invokevirtual 200, 3) := by decide +kernel
theorem dX9_explains_49 : decode cX9_explains 49 = .ok (.istore 4, 2) := by decide +kernel
theorem dX9_explains_51 : decode cX9_explains 51 = .ok (.iconst 0, 1) := by decide +kernel
theorem dX9_explains_52 : decode cX9_explains 52 = .ok (.istore 5, 2) := by decide +kernel
theorem dX9_explains_54 : decode cX9_explains 54 = .ok (.iload 5, 2) := by decide +kernel
theorem dX9_explains_56 : decode cX9_explains 56 = .ok (.iconst 4, 1) := by decide +kernel
theorem dX9_explains_57 : decode cX9_explains 57 = .ok (.aload_n 0, 1) := by decide +kernel
theorem dX9_explains_58 : decode cX9_explains 58 = .ok (.getfield 17, 3) := by decide +kernel
theorem dX9_explains_61 : decode cX9_explains 61 = .ok (.imul, 1) := by decide +kernel
theorem dX9_explains_62 : decode cX9_explains 62 = .ok (.if_icmp .ge 80, 3) := by decide +kernel
theorem dX9_explains_65 : decode cX9_explains 65 = .ok (.iload 5, 2) := by decide +kernel
theorem dX9_explains_67 : decode cX9_explains 67 = .ok (.iconst 4, 1) := by decide +kernel
theorem dX9_explains_68 : decode cX9_explains 68 = .ok (.idiv, 1) := by decide +kernel
theorem dX9_explains_69 : decode cX9_explains 69 = .ok (.istore 6, 2) := by decide +kernel
theorem dX9_explains_71 : decode cX9_explains 71 = .ok (.aload_n 0, 1) := by decide +kernel
theorem dX9_explains_72 : decode cX9_explains 72 = .ok (.getfield 41, 3) := by decide +kernel
theorem dX9_explains_75 : decode cX9_explains 75 = .ok (.iload_n 1, 1) := by decide +kernel
theorem dX9_explains_76 : decode cX9_explains 76 = .ok (.invokestatic 126, 3) := by decide +kernel
theorem dX9_explains_79 : decode cX9_explains 79 = .ok (.iload 6, 2) := by decide +kernel
theorem dX9_explains_81 : decode cX9_explains 81 = .ok (.iadd, 1) := by decide +kernel
theorem dX9_explains_82 : decode cX9_explains 82 = .ok (.iaload, 1) := by decide +kernel
theorem dX9_explains_83 : decode cX9_explains 83 = .ok (.istore 7, 2) := by decide +kernel
theorem dX9_explains_85 : decode cX9_explains 85 = .ok (.iload 5, 2) := by decide +kernel
theorem dX9_explains_87 : decode cX9_explains 87 = .ok (.iconst 4, 1) := by decide +kernel
theorem dX9_explains_88 : decode cX9_explains 88 = .ok (.irem, 1) := by decide +kernel
theorem dX9_explains_89 : decode cX9_explains 89 = .ok (.iload 7, 2) := by decide +kernel
theorem dX9_explains_91 : decode cX9_explains 91 = .ok (.if_icmp .eq 26, 3) := by decide +kernel
theorem dX9_explains_94 : decode cX9_explains 94 = .ok (.iload 4, 2) := by decide +kernel
theorem dX9_explains_96 : decode cX9_explains 96 = .ok (.iload 6, 2) := by decide +kernel
theorem dX9_explains_98 : decode cX9_explains 98 = .ok (.iconst 1, 1) := by decide +kernel
theorem dX9_explains_99 : decode cX9_explains 99 = .ok (.iadd, 1) := by decide +kernel
theorem dX9_explains_100 : decode cX9_explains 100 = .ok (.iload 5, 2) := by decide +kernel
theorem dX9_explains_102 : decode cX9_explains 102 = .ok (.iconst 4, 1) := by decide +kernel
theorem dX9_explains_103 : decode cX9_explains 103 = .ok (.irem, 1) := by decide +kernel
theorem dX9_explains_104 : decode cX9_explains 104 = .ok (.iload 7, 2) := by decide +kernel
theorem dX9_explains_106 : decode cX9_explains 106 = .ok (.isub, 1) := by decide +kernel
theorem dX9_explains_107 : decode cX9_explains 107 = .ok (.imul, 1) := by decide +kernel
theorem dX9_explains_108 : decode cX9_explains 108 = .ok (.iadd, 1) := by decide +kernel
theorem dX9_explains_109 : decode cX9_explains 109 = .ok (.iload_n 2, 1) := by decide +kernel
theorem dX9_explains_110 : decode cX9_explains 110 = .ok (.if_icmp .ne 7, 3) := by decide +kernel
theorem dX9_explains_113 : decode cX9_explains 113 = .ok (.iconst 1, 1) := by decide +kernel
theorem dX9_explains_114 : decode cX9_explains 114 = .ok (.goto 4, 3) := by decide +kernel
theorem dX9_explains_117 : decode cX9_explains 117 = .ok (.iconst 0, 1) := by decide +kernel
theorem dX9_explains_118 : decode cX9_explains 118 = .ok (.istore 8, 2) := by decide +kernel
theorem dX9_explains_120 : decode cX9_explains 120 = .ok (.iload_n 3, 1) := by decide +kernel
theorem dX9_explains_121 : decode cX9_explains 121 = .ok (.iload 8, 2) := by decide +kernel
theorem dX9_explains_123 : decode cX9_explains 123 = .ok (.ifCond .eq 10, 3) := by decide +kernel
theorem dX9_explains_126 : decode cX9_explains 126 = .ok (.iconst 1, 1) := by decide +kernel
theorem dX9_explains_127 : decode cX9_explains 127 = .ok (.iload 5, 2) := by decide +kernel
theorem dX9_explains_129 : decode cX9_explains 129 = .ok (.ishl, 1) := by decide +kernel
theorem dX9_explains_130 : decode cX9_explains 130 = .ok (.goto 4, 3) := by decide +kernel
theorem dX9_explains_133 : decode cX9_explains 133 = .ok (.iconst 0, 1) := by decide +kernel
theorem dX9_explains_134 : decode cX9_explains 134 = .ok (.ior, 1) := by decide +kernel
theorem dX9_explains_135 : decode cX9_explains 135 = .ok (.istore_n 3, 1) := by decide +kernel
theorem dX9_explains_136 : decode cX9_explains 136 = .ok (.iinc 5 1, 3) := by decide +kernel
theorem dX9_explains_139 : decode cX9_explains 139 = .ok (.goto (-85), 3) := by decide +kernel
theorem dX9_explains_142 : decode cX9_explains 142 = .ok (.iload_n 3, 1) := by decide +kernel
theorem dX9_explains_143 : decode cX9_explains 143 = .ok (.ireturn, 1) := by decide +kernel
theorem dX9_distance_0 : decode cX9_distance 0 = .ok (.bipush 100, 2) := by decide +kernel
theorem dX9_distance_2 : decode cX9_distance 2 = .ok (.aload_n 0, 1) := by decide +kernel
theorem dX9_distance_3 : decode cX9_distance 3 = .ok (.aload_n 0, 1) := by decide +kernel
theorem dX9_distance_4 : decode cX9_distance 4 = .ok (.getfield 41, 3) := by decide +kernel
theorem dX9_distance_7 : decode cX9_distance 7 = .ok (.iload_n 1, 1) := by decide +kernel
theorem dX9_distance_8 : decode cX9_distance 8 = .ok (.invokevirtual 191, 3) := by decide +kernel
theorem dX9_distance_11 : decode cX9_distance 11 = .ok (.invokestatic 167, 3) := by decide +kernel
theorem dX9_distance_14 : decode cX9_distance 14 = .ok (.imul, 1) := by decide +kernel
theorem dX9_distance_15 : decode cX9_distance 15 = .ok (.aload_n 0, 1) := by decide +kernel
theorem dX9_distance_16 : decode cX9_distance 16 = .ok (.aload_n 0, 1) := by decide +kernel
theorem dX9_distance_17 : decode cX9_distance 17 = .ok (.aload_n 0, 1) := by decide +kernel
theorem dX9_distance_18 : decode cX9_distance 18 = .ok (.getfield 41, 3) := by decide +kernel
theorem dX9_distance_21 : decode cX9_distance 21 = .ok (.iload_n 1, 1) := by decide +kernel
theorem dX9_distance_22 : decode cX9_distance 22 = .ok (.iconst 0, 1) := by decide +kernel
theorem dX9_distance_23 : decode cX9_distance 23 = .ok (.invokevirtual 153, 3) := by decide +kernel
theorem dX9_distance_26 : decode cX9_distance 26 = .ok (.invokevirtual 160, 3) := by decide +kernel
theorem dX9_distance_29 : decode cX9_distance 29 = .ok (.invokestatic 167, 3) := by decide +kernel
theorem dX9_distance_32 : decode cX9_distance 32 = .ok (.iadd, 1) := by decide +kernel
theorem dX9_distance_33 : decode cX9_distance 33 = .ok (.ireturn, 1) := by decide +kernel
theorem dX9_ranked_0 : decode cX9_ranked 0 = .ok (.aload_n 0, 1) := by decide +kernel
theorem dX9_ranked_1 : decode cX9_ranked 1 = .ok (.aload_n 0, 1) := by decide +kernel
theorem dX9_ranked_2 : decode cX9_ranked 2 = .ok (.iload_n 1, 1) := by decide +kernel
theorem dX9_ranked_3 : decode cX9_ranked 3 = .ok (.invokevirtual 203, 3) := by decide +kernel
theorem dX9_ranked_6 : decode cX9_ranked 6 = .ok (.ifCond .eq 7, 3) := by decide +kernel
theorem dX9_ranked_9 : decode cX9_ranked 9 = .ok (.iconst 0, 1) := by decide +kernel
theorem dX9_ranked_10 : decode cX9_ranked 10 = .ok (.goto 4, 3) := by decide +kernel
theorem dX9_ranked_13 : decode cX9_ranked 13 = .ok (.iconst 1, 1) := by decide +kernel
theorem dX9_ranked_14 : decode cX9_ranked 14 = .ok (.invokevirtual 93, 3) := by decide +kernel
theorem dX9_ranked_17 : decode cX9_ranked 17 = .ok (.ifCond .eq 5, 3) := by decide +kernel
theorem dX9_ranked_20 : decode cX9_ranked 20 = .ok (.iconst 0, 1) := by decide +kernel
theorem dX9_ranked_21 : decode cX9_ranked 21 = .ok (.ireturn, 1) := by decide +kernel
theorem dX9_ranked_22 : decode cX9_ranked 22 = .ok (.iconst 0, 1) := by decide +kernel
theorem dX9_ranked_23 : decode cX9_ranked 23 = .ok (.istore_n 2, 1) := by decide +kernel
theorem dX9_ranked_24 : decode cX9_ranked 24 = .ok (.iconst 0, 1) := by decide +kernel
theorem dX9_ranked_25 : decode cX9_ranked 25 = .ok (.istore_n 3, 1) := by decide +kernel
theorem dX9_ranked_26 : decode cX9_ranked 26 = .ok (.iload_n 3, 1) := by decide +kernel
theorem dX9_ranked_27 : decode cX9_ranked 27 = .ok (.aload_n 0, 1) := by decide +kernel
theorem dX9_ranked_28 : decode cX9_ranked 28 = .ok (.getfield 13, 3) := by decide +kernel
theorem dX9_ranked_31 : decode cX9_ranked 31 = .ok (.if_icmp .ge 86, 3) := by decide +kernel
theorem dX9_ranked_34 : decode cX9_ranked 34 = .ok (.iconst 0, 1) := by decide +kernel
theorem dX9_ranked_35 : decode cX9_ranked 35 = .ok (.istore 4, 2) := by decide +kernel
theorem dX9_ranked_37 : decode cX9_ranked 37 = .ok (.iconst 0, 1) := by decide +kernel
theorem dX9_ranked_38 : decode cX9_ranked 38 = .ok (.istore 5, 2) := by decide +kernel
theorem dX9_ranked_40 : decode cX9_ranked 40 = .ok (.iload 5, 2) := by decide +kernel
theorem dX9_ranked_42 : decode cX9_ranked 42 = .ok (.aload_n 0, 1) := by decide +kernel
theorem dX9_ranked_43 : decode cX9_ranked 43 = .ok (.getfield 13, 3) := by decide +kernel
theorem dX9_ranked_46 : decode cX9_ranked 46 = .ok (.if_icmp .ge 53, 3) := by decide +kernel
theorem dX9_ranked_49 : decode cX9_ranked 49 = .ok (.iload 4, 2) := by decide +kernel
theorem dX9_ranked_51 : decode cX9_ranked 51 = .ok (.aload_n 0, 1) := by decide +kernel
theorem dX9_ranked_52 : decode cX9_ranked 52 = .ok (.iload 5, 2) := by decide +kernel
theorem dX9_ranked_54 : decode cX9_ranked 54 = .ok (.invokevirtual 249, 3) := by decide +kernel
theorem dX9_ranked_57 : decode cX9_ranked 57 = .ok (.aload_n 0, 1) := by decide +kernel
theorem dX9_ranked_58 : decode cX9_ranked 58 = .ok (.iload_n 3, 1) := by decide +kernel
theorem dX9_ranked_59 : decode cX9_ranked 59 = .ok (.invokevirtual 249, 3) := by decide +kernel
theorem dX9_ranked_62 : decode cX9_ranked 62 = .ok (.if_icmp .gt 23, 3) := by decide +kernel
theorem dX9_ranked_65 : decode cX9_ranked 65 = .ok (.aload_n 0, 1) := by decide +kernel
theorem dX9_ranked_66 : decode cX9_ranked 66 = .ok (.iload 5, 2) := by decide +kernel
theorem dX9_ranked_68 : decode cX9_ranked 68 = .ok (.invokevirtual 249, 3) := by decide +kernel
theorem dX9_ranked_71 : decode cX9_ranked 71 = .ok (.aload_n 0, 1) := by decide +kernel
theorem dX9_ranked_72 : decode cX9_ranked 72 = .ok (.iload_n 3, 1) := by decide +kernel
theorem dX9_ranked_73 : decode cX9_ranked 73 = .ok (.invokevirtual 249, 3) := by decide +kernel
theorem dX9_ranked_76 : decode cX9_ranked 76 = .ok (.if_icmp .ne 13, 3) := by decide +kernel
theorem dX9_ranked_79 : decode cX9_ranked 79 = .ok (.iload 5, 2) := by decide +kernel
theorem dX9_ranked_81 : decode cX9_ranked 81 = .ok (.iload_n 3, 1) := by decide +kernel
theorem dX9_ranked_82 : decode cX9_ranked 82 = .ok (.if_icmp .ge 7, 3) := by decide +kernel
theorem dX9_ranked_85 : decode cX9_ranked 85 = .ok (.iconst 1, 1) := by decide +kernel
theorem dX9_ranked_86 : decode cX9_ranked 86 = .ok (.goto 4, 3) := by decide +kernel
theorem dX9_ranked_89 : decode cX9_ranked 89 = .ok (.iconst 0, 1) := by decide +kernel
theorem dX9_ranked_90 : decode cX9_ranked 90 = .ok (.iadd, 1) := by decide +kernel
theorem dX9_ranked_91 : decode cX9_ranked 91 = .ok (.istore 4, 2) := by decide +kernel
theorem dX9_ranked_93 : decode cX9_ranked 93 = .ok (.iinc 5 1, 3) := by decide +kernel
theorem dX9_ranked_96 : decode cX9_ranked 96 = .ok (.goto (-56), 3) := by decide +kernel
theorem dX9_ranked_99 : decode cX9_ranked 99 = .ok (.iload 4, 2) := by decide +kernel
theorem dX9_ranked_101 : decode cX9_ranked 101 = .ok (.iload_n 1, 1) := by decide +kernel
theorem dX9_ranked_102 : decode cX9_ranked 102 = .ok (.if_icmp .ne 7, 3) := by decide +kernel
theorem dX9_ranked_105 : decode cX9_ranked 105 = .ok (.iload_n 3, 1) := by decide +kernel
theorem dX9_ranked_106 : decode cX9_ranked 106 = .ok (.goto 4, 3) := by decide +kernel
theorem dX9_ranked_109 : decode cX9_ranked 109 = .ok (.iload_n 2, 1) := by decide +kernel
theorem dX9_ranked_110 : decode cX9_ranked 110 = .ok (.istore_n 2, 1) := by decide +kernel
theorem dX9_ranked_111 : decode cX9_ranked 111 = .ok (.iinc 3 1, 3) := by decide +kernel
theorem dX9_ranked_114 : decode cX9_ranked 114 = .ok (.goto (-88), 3) := by decide +kernel
theorem dX9_ranked_117 : decode cX9_ranked 117 = .ok (.iload_n 2, 1) := by decide +kernel
theorem dX9_ranked_118 : decode cX9_ranked 118 = .ok (.ireturn, 1) := by decide +kernel
theorem dX9_command_0 : decode cX9_command 0 = .ok (.iload_n 1, 1) := by decide +kernel
theorem dX9_command_1 : decode cX9_command 1 = .ok (.bipush 100, 2) := by decide +kernel
theorem dX9_command_3 : decode cX9_command 3 = .ok (.idiv, 1) := by decide +kernel
theorem dX9_command_4 : decode cX9_command 4 = .ok (.bipush 10, 2) := by decide +kernel
theorem dX9_command_6 : decode cX9_command 6 = .ok (.irem, 1) := by decide +kernel
theorem dX9_command_7 : decode cX9_command 7 = .ok (.istore_n 2, 1) := by decide +kernel
theorem dX9_command_8 : decode cX9_command 8 = .ok (.iload_n 1, 1) := by decide +kernel
theorem dX9_command_9 : decode cX9_command 9 = .ok (.bipush 10, 2) := by decide +kernel
theorem dX9_command_11 : decode cX9_command 11 = .ok (.idiv, 1) := by decide +kernel
theorem dX9_command_12 : decode cX9_command 12 = .ok (.bipush 10, 2) := by decide +kernel
theorem dX9_command_14 : decode cX9_command 14 = .ok (.irem, 1) := by decide +kernel
theorem dX9_command_15 : decode cX9_command 15 = .ok (.istore_n 3, 1) := by decide +kernel
theorem dX9_command_16 : decode cX9_command 16 = .ok (.iload_n 1, 1) := by decide +kernel
theorem dX9_command_17 : decode cX9_command 17 = .ok (.bipush 10, 2) := by decide +kernel
theorem dX9_command_19 : decode cX9_command 19 = .ok (.irem, 1) := by decide +kernel
theorem dX9_command_20 : decode cX9_command 20 = .ok (.istore 4, 2) := by decide +kernel
theorem dX9_command_22 : decode cX9_command 22 = .ok (.iload_n 1, 1) := by decide +kernel
theorem dX9_command_23 : decode cX9_command 23 = .ok (.bipush 100, 2) := by decide +kernel
theorem dX9_command_25 : decode cX9_command 25 = .ok (.irem, 1) := by decide +kernel
theorem dX9_command_26 : decode cX9_command 26 = .ok (.istore 5, 2) := by decide +kernel
theorem dX9_command_28 : decode cX9_command 28 = .ok (.aload_n 0, 1) := by decide +kernel
theorem dX9_command_29 : decode cX9_command 29 = .ok (.iload_n 2, 1) := by decide +kernel
theorem dX9_command_30 : decode cX9_command 30 = .ok (.invokevirtual 203, 3) := by decide +kernel
theorem dX9_command_33 : decode cX9_command 33 = .ok (.ifCond .eq 15, 3) := by decide +kernel
theorem dX9_command_36 : decode cX9_command 36 = .ok (.aload_n 0, 1) := by decide +kernel
theorem dX9_command_37 : decode cX9_command 37 = .ok (.iload_n 3, 1) := by decide +kernel
theorem dX9_command_38 : decode cX9_command 38 = .ok (.invokevirtual 211, 3) := by decide +kernel
theorem dX9_command_41 : decode cX9_command 41 = .ok (.ifCond .eq 7, 3) := by decide +kernel
theorem dX9_command_44 : decode cX9_command 44 = .ok (.iconst 1, 1) := by decide +kernel
theorem dX9_command_45 : decode cX9_command 45 = .ok (.goto 4, 3) := by decide +kernel
theorem dX9_command_48 : decode cX9_command 48 = .ok (.iconst 0, 1) := by decide +kernel
theorem dX9_command_49 : decode cX9_command 49 = .ok (.istore 6, 2) := by decide +kernel
theorem dX9_command_51 : decode cX9_command 51 = .ok (.iload_n 1, 1) := by decide +kernel
theorem dX9_command_52 : decode cX9_command 52 = .ok (.sipush 1000, 3) := by decide +kernel
theorem dX9_command_55 : decode cX9_command 55 = .ok (.idiv, 1) := by decide +kernel
theorem dX9_command_56 : decode cX9_command 56 = .ok (.tableswitch 301 1 8 #[48, 48, 94, 139, 197, 227, 254, 280], 48) := by decide +kernel
theorem dX9_command_104 : decode cX9_command 104 = .ok (.iload 6, 2) := by decide +kernel
theorem dX9_command_106 : decode cX9_command 106 = .ok (.ifCond .eq 11, 3) := by decide +kernel
theorem dX9_command_109 : decode cX9_command 109 = .ok (.iload 4, 2) := by decide +kernel
theorem dX9_command_111 : decode cX9_command 111 = .ok (.invokestatic 216, 3) := by decide +kernel
theorem dX9_command_114 : decode cX9_command 114 = .ok (.ifCond .ne 5, 3) := by decide +kernel
theorem dX9_command_117 : decode cX9_command 117 = .ok (.iconst 0, 1) := by decide +kernel
theorem dX9_command_118 : decode cX9_command 118 = .ok (.ireturn, 1) := by decide +kernel
theorem dX9_command_119 : decode cX9_command 119 = .ok (.aload_n 0, 1) := by decide +kernel
theorem dX9_command_120 : decode cX9_command 120 = .ok (.getfield 44, 3) := by decide +kernel
theorem dX9_command_123 : decode cX9_command 123 = .ok (.iload_n 2, 1) := by decide +kernel
theorem dX9_command_124 : decode cX9_command 124 = .ok (.invokestatic 126, 3) := by decide +kernel
theorem dX9_command_127 : decode cX9_command 127 = .ok (.iload_n 1, 1) := by decide +kernel
theorem dX9_command_128 : decode cX9_command 128 = .ok (.sipush 1000, 3) := by decide +kernel
theorem dX9_command_131 : decode cX9_command 131 = .ok (.idiv, 1) := by decide +kernel
theorem dX9_command_132 : decode cX9_command 132 = .ok (.iconst 1, 1) := by decide +kernel
theorem dX9_command_133 : decode cX9_command 133 = .ok (.if_icmp .ne 8, 3) := by decide +kernel
theorem dX9_command_136 : decode cX9_command 136 = .ok (.bipush 6, 2) := by decide +kernel
theorem dX9_command_138 : decode cX9_command 138 = .ok (.goto 4, 3) := by decide +kernel
theorem dX9_command_141 : decode cX9_command 141 = .ok (.iconst 0, 1) := by decide +kernel
theorem dX9_command_142 : decode cX9_command 142 = .ok (.iadd, 1) := by decide +kernel
theorem dX9_command_143 : decode cX9_command 143 = .ok (.iload_n 3, 1) := by decide +kernel
theorem dX9_command_144 : decode cX9_command 144 = .ok (.iadd, 1) := by decide +kernel
theorem dX9_command_145 : decode cX9_command 145 = .ok (.iload 4, 2) := by decide +kernel
theorem dX9_command_147 : decode cX9_command 147 = .ok (.iastore, 1) := by decide +kernel
theorem dX9_command_148 : decode cX9_command 148 = .ok (.iconst 1, 1) := by decide +kernel
theorem dX9_command_149 : decode cX9_command 149 = .ok (.ireturn, 1) := by decide +kernel
theorem dX9_command_150 : decode cX9_command 150 = .ok (.aload_n 0, 1) := by decide +kernel
theorem dX9_command_151 : decode cX9_command 151 = .ok (.iload_n 2, 1) := by decide +kernel
theorem dX9_command_152 : decode cX9_command 152 = .ok (.invokevirtual 211, 3) := by decide +kernel
theorem dX9_command_155 : decode cX9_command 155 = .ok (.ifCond .eq 16, 3) := by decide +kernel
theorem dX9_command_158 : decode cX9_command 158 = .ok (.iload_n 3, 1) := by decide +kernel
theorem dX9_command_159 : decode cX9_command 159 = .ok (.invokestatic 216, 3) := by decide +kernel
theorem dX9_command_162 : decode cX9_command 162 = .ok (.ifCond .eq 9, 3) := by decide +kernel
theorem dX9_command_165 : decode cX9_command 165 = .ok (.iload 4, 2) := by decide +kernel
theorem dX9_command_167 : decode cX9_command 167 = .ok (.iconst 5, 1) := by decide +kernel
theorem dX9_command_168 : decode cX9_command 168 = .ok (.if_icmp .lt 5, 3) := by decide +kernel
theorem dX9_command_171 : decode cX9_command 171 = .ok (.iconst 0, 1) := by decide +kernel
theorem dX9_command_172 : decode cX9_command 172 = .ok (.ireturn, 1) := by decide +kernel
theorem dX9_command_173 : decode cX9_command 173 = .ok (.aload_n 0, 1) := by decide +kernel
theorem dX9_command_174 : decode cX9_command 174 = .ok (.getfield 44, 3) := by decide +kernel
theorem dX9_command_177 : decode cX9_command 177 = .ok (.iload_n 2, 1) := by decide +kernel
theorem dX9_command_178 : decode cX9_command 178 = .ok (.invokestatic 119, 3) := by decide +kernel
theorem dX9_command_181 : decode cX9_command 181 = .ok (.iconst 1, 1) := by decide +kernel
theorem dX9_command_182 : decode cX9_command 182 = .ok (.iadd, 1) := by decide +kernel
theorem dX9_command_183 : decode cX9_command 183 = .ok (.iload_n 3, 1) := by decide +kernel
theorem dX9_command_184 : decode cX9_command 184 = .ok (.iadd, 1) := by decide +kernel
theorem dX9_command_185 : decode cX9_command 185 = .ok (.dup2, 1) := by decide +kernel
theorem dX9_command_186 : decode cX9_command 186 = .ok (.iaload, 1) := by decide +kernel
theorem dX9_command_187 : decode cX9_command 187 = .ok (.iconst 1, 1) := by decide +kernel
theorem dX9_command_188 : decode cX9_command 188 = .ok (.iload 4, 2) := by decide +kernel
theorem dX9_command_190 : decode cX9_command 190 = .ok (.ishl, 1) := by decide +kernel
theorem dX9_command_191 : decode cX9_command 191 = .ok (.ior, 1) := by decide +kernel
theorem dX9_command_192 : decode cX9_command 192 = .ok (.iastore, 1) := by decide +kernel
theorem dX9_command_193 : decode cX9_command 193 = .ok (.iconst 1, 1) := by decide +kernel
theorem dX9_command_194 : decode cX9_command 194 = .ok (.ireturn, 1) := by decide +kernel
theorem dX9_command_195 : decode cX9_command 195 = .ok (.iconst 0, 1) := by decide +kernel
theorem dX9_command_196 : decode cX9_command 196 = .ok (.istore 7, 2) := by decide +kernel
theorem dX9_command_198 : decode cX9_command 198 = .ok (.iload 7, 2) := by decide +kernel
theorem dX9_command_200 : decode cX9_command 200 = .ok (.iload 5, 2) := by decide +kernel
theorem dX9_command_202 : decode cX9_command 202 = .ok (.if_icmp .ge 28, 3) := by decide +kernel
theorem dX9_command_205 : decode cX9_command 205 = .ok (.iload_n 2, 1) := by decide +kernel
theorem dX9_command_206 : decode cX9_command 206 = .ok (.ifCond .ne 24, 3) := by decide +kernel
theorem dX9_command_209 : decode cX9_command 209 = .ok (.iload 5, 2) := by decide +kernel
theorem dX9_command_211 : decode cX9_command 211 = .ok (.bipush 50, 2) := by decide +kernel
theorem dX9_command_213 : decode cX9_command 213 = .ok (.if_icmp .gt 17, 3) := by decide +kernel
theorem dX9_command_216 : decode cX9_command 216 = .ok (.aload_n 0, 1) := by decide +kernel
theorem dX9_command_217 : decode cX9_command 217 = .ok (.aload_n 0, 1) := by decide +kernel
theorem dX9_command_218 : decode cX9_command 218 = .ok (.getfield 44, 3) := by decide +kernel
theorem dX9_command_221 : decode cX9_command 221 = .ok (.invokevirtual 230, 3) := by decide +kernel
theorem dX9_command_224 : decode cX9_command 224 = .ok (.iinc 7 1, 3) := by decide +kernel
theorem dX9_command_227 : decode cX9_command 227 = .ok (.goto (-29), 3) := by decide +kernel
theorem dX9_command_230 : decode cX9_command 230 = .ok (.iload_n 2, 1) := by decide +kernel
theorem dX9_command_231 : decode cX9_command 231 = .ok (.ifCond .ne 20, 3) := by decide +kernel
theorem dX9_command_234 : decode cX9_command 234 = .ok (.iload 5, 2) := by decide +kernel
theorem dX9_command_236 : decode cX9_command 236 = .ok (.i2l, 1) := by decide +kernel
theorem dX9_command_237 : decode cX9_command 237 = .ok (.lconst 1, 1) := by decide +kernel
theorem dX9_command_238 : decode cX9_command 238 = .ok (.ldc2_w 228, 3) := by decide +kernel
theorem dX9_command_241 : decode cX9_command 241 = .ok (.invokestatic 82, 3) := by decide +kernel
theorem dX9_command_244 : decode cX9_command 244 = .ok (.ifCond .eq 7, 3) := by decide +kernel
theorem dX9_command_247 : decode cX9_command 247 = .ok (.iconst 1, 1) := by decide +kernel
theorem dX9_command_248 : decode cX9_command 248 = .ok (.goto 4, 3) := by decide +kernel
theorem dX9_command_251 : decode cX9_command 251 = .ok (.iconst 0, 1) := by decide +kernel
theorem dX9_command_252 : decode cX9_command 252 = .ok (.ireturn, 1) := by decide +kernel
theorem dX9_command_253 : decode cX9_command 253 = .ok (.aload_n 0, 1) := by decide +kernel
theorem dX9_command_254 : decode cX9_command 254 = .ok (.iload_n 2, 1) := by decide +kernel
theorem dX9_command_255 : decode cX9_command 255 = .ok (.invokevirtual 203, 3) := by decide +kernel
theorem dX9_command_258 : decode cX9_command 258 = .ok (.ifCond .eq 7, 3) := by decide +kernel
theorem dX9_command_261 : decode cX9_command 261 = .ok (.iload_n 3, 1) := by decide +kernel
theorem dX9_command_262 : decode cX9_command 262 = .ok (.ifCond .eq 5, 3) := by decide +kernel
theorem dX9_command_265 : decode cX9_command 265 = .ok (.iconst 0, 1) := by decide +kernel
theorem dX9_command_266 : decode cX9_command 266 = .ok (.ireturn, 1) := by decide +kernel
theorem dX9_command_267 : decode cX9_command 267 = .ok (.aload_n 0, 1) := by decide +kernel
theorem dX9_command_268 : decode cX9_command 268 = .ok (.getfield 44, 3) := by decide +kernel
theorem dX9_command_271 : decode cX9_command 271 = .ok (.iload_n 2, 1) := by decide +kernel
theorem dX9_command_272 : decode cX9_command 272 = .ok (.invokestatic 126, 3) := by decide +kernel
theorem dX9_command_275 : decode cX9_command 275 = .ok (.bipush 12, 2) := by decide +kernel
theorem dX9_command_277 : decode cX9_command 277 = .ok (.iadd, 1) := by decide +kernel
theorem dX9_command_278 : decode cX9_command 278 = .ok (.iload 4, 2) := by decide +kernel
theorem dX9_command_280 : decode cX9_command 280 = .ok (.iastore, 1) := by decide +kernel
theorem dX9_command_281 : decode cX9_command 281 = .ok (.iconst 1, 1) := by decide +kernel
theorem dX9_command_282 : decode cX9_command 282 = .ok (.ireturn, 1) := by decide +kernel
theorem dX9_command_283 : decode cX9_command 283 = .ok (.iload 6, 2) := by decide +kernel
theorem dX9_command_285 : decode cX9_command 285 = .ok (.ifCond .eq 23, 3) := by decide +kernel
theorem dX9_command_288 : decode cX9_command 288 = .ok (.aload_n 0, 1) := by decide +kernel
theorem dX9_command_289 : decode cX9_command 289 = .ok (.getfield 44, 3) := by decide +kernel
theorem dX9_command_292 : decode cX9_command 292 = .ok (.iload_n 2, 1) := by decide +kernel
theorem dX9_command_293 : decode cX9_command 293 = .ok (.invokestatic 126, 3) := by decide +kernel
theorem dX9_command_296 : decode cX9_command 296 = .ok (.iload_n 3, 1) := by decide +kernel
theorem dX9_command_297 : decode cX9_command 297 = .ok (.iadd, 1) := by decide +kernel
theorem dX9_command_298 : decode cX9_command 298 = .ok (.iaload, 1) := by decide +kernel
theorem dX9_command_299 : decode cX9_command 299 = .ok (.iload 4, 2) := by decide +kernel
theorem dX9_command_301 : decode cX9_command 301 = .ok (.if_icmp .ne 7, 3) := by decide +kernel
theorem dX9_command_304 : decode cX9_command 304 = .ok (.iconst 1, 1) := by decide +kernel
theorem dX9_command_305 : decode cX9_command 305 = .ok (.goto 4, 3) := by decide +kernel
theorem dX9_command_308 : decode cX9_command 308 = .ok (.iconst 0, 1) := by decide +kernel
theorem dX9_command_309 : decode cX9_command 309 = .ok (.ireturn, 1) := by decide +kernel
theorem dX9_command_310 : decode cX9_command 310 = .ok (.iload 6, 2) := by decide +kernel
theorem dX9_command_312 : decode cX9_command 312 = .ok (.ifCond .eq 22, 3) := by decide +kernel
theorem dX9_command_315 : decode cX9_command 315 = .ok (.aload_n 0, 1) := by decide +kernel
theorem dX9_command_316 : decode cX9_command 316 = .ok (.aload_n 0, 1) := by decide +kernel
theorem dX9_command_317 : decode cX9_command 317 = .ok (.getfield 44, 3) := by decide +kernel
theorem dX9_command_320 : decode cX9_command 320 = .ok (.iload_n 2, 1) := by decide +kernel
theorem dX9_command_321 : decode cX9_command 321 = .ok (.iload_n 3, 1) := by decide +kernel
theorem dX9_command_322 : decode cX9_command 322 = .ok (.invokevirtual 184, 3) := by decide +kernel
theorem dX9_command_325 : decode cX9_command 325 = .ok (.iload 4, 2) := by decide +kernel
theorem dX9_command_327 : decode cX9_command 327 = .ok (.if_icmp .ne 7, 3) := by decide +kernel
theorem dX9_command_330 : decode cX9_command 330 = .ok (.iconst 1, 1) := by decide +kernel
theorem dX9_command_331 : decode cX9_command 331 = .ok (.goto 4, 3) := by decide +kernel
theorem dX9_command_334 : decode cX9_command 334 = .ok (.iconst 0, 1) := by decide +kernel
theorem dX9_command_335 : decode cX9_command 335 = .ok (.ireturn, 1) := by decide +kernel
theorem dX9_command_336 : decode cX9_command 336 = .ok (.iload_n 2, 1) := by decide +kernel
theorem dX9_command_337 : decode cX9_command 337 = .ok (.ifCond .ne 18, 3) := by decide +kernel
theorem dX9_command_340 : decode cX9_command 340 = .ok (.aload_n 0, 1) := by decide +kernel
theorem dX9_command_341 : decode cX9_command 341 = .ok (.getfield 44, 3) := by decide +kernel
theorem dX9_command_344 : decode cX9_command 344 = .ok (.iconst 1, 1) := by decide +kernel
theorem dX9_command_345 : decode cX9_command 345 = .ok (.iaload, 1) := by decide +kernel
theorem dX9_command_346 : decode cX9_command 346 = .ok (.iload 5, 2) := by decide +kernel
theorem dX9_command_348 : decode cX9_command 348 = .ok (.if_icmp .lt 7, 3) := by decide +kernel
theorem dX9_command_351 : decode cX9_command 351 = .ok (.iconst 1, 1) := by decide +kernel
theorem dX9_command_352 : decode cX9_command 352 = .ok (.goto 4, 3) := by decide +kernel
theorem dX9_command_355 : decode cX9_command 355 = .ok (.iconst 0, 1) := by decide +kernel
theorem dX9_command_356 : decode cX9_command 356 = .ok (.ireturn, 1) := by decide +kernel
theorem dX9_command_357 : decode cX9_command 357 = .ok (.iconst 0, 1) := by decide +kernel
theorem dX9_command_358 : decode cX9_command 358 = .ok (.ireturn, 1) := by decide +kernel
theorem dX9_groups_0 : decode cX9_groups 0 = .ok (.lconst 1, 1) := by decide +kernel
theorem dX9_groups_1 : decode cX9_groups 1 = .ok (.lstore_n 1, 1) := by decide +kernel
theorem dX9_groups_2 : decode cX9_groups 2 = .ok (.iconst 0, 1) := by decide +kernel
theorem dX9_groups_3 : decode cX9_groups 3 = .ok (.istore_n 3, 1) := by decide +kernel
theorem dX9_groups_4 : decode cX9_groups 4 = .ok (.iload_n 3, 1) := by decide +kernel
theorem dX9_groups_5 : decode cX9_groups 5 = .ok (.iload_n 0, 1) := by decide +kernel
theorem dX9_groups_6 : decode cX9_groups 6 = .ok (.if_icmp .ge 15, 3) := by decide +kernel
theorem dX9_groups_9 : decode cX9_groups 9 = .ok (.lload_n 1, 1) := by decide +kernel
theorem dX9_groups_10 : decode cX9_groups 10 = .ok (.ldc2_w 252, 3) := by decide +kernel
theorem dX9_groups_13 : decode cX9_groups 13 = .ok (.lmul, 1) := by decide +kernel
theorem dX9_groups_14 : decode cX9_groups 14 = .ok (.lstore_n 1, 1) := by decide +kernel
theorem dX9_groups_15 : decode cX9_groups 15 = .ok (.iinc 3 1, 3) := by decide +kernel
theorem dX9_groups_18 : decode cX9_groups 18 = .ok (.goto (-14), 3) := by decide +kernel
theorem dX9_groups_21 : decode cX9_groups 21 = .ok (.lload_n 1, 1) := by decide +kernel
theorem dX9_groups_22 : decode cX9_groups 22 = .ok (.lreturn, 1) := by decide +kernel
theorem dX9_runScript_0 : decode cX9_runScript 0 = .ok (.aload_n 0, 1) := by decide +kernel
theorem dX9_runScript_1 : decode cX9_runScript 1 = .ok (.iload_n 1, 1) := by decide +kernel
theorem dX9_runScript_2 : decode cX9_runScript 2 = .ok (.i2l, 1) := by decide +kernel
theorem dX9_runScript_3 : decode cX9_runScript 3 = .ok (.lconst 1, 1) := by decide +kernel
theorem dX9_runScript_4 : decode cX9_runScript 4 = .ok (.ldc2_w 214, 3) := by decide +kernel
theorem dX9_runScript_7 : decode cX9_runScript 7 = .ok (.invokestatic 82, 3) := by decide +kernel
theorem dX9_runScript_10 : decode cX9_runScript 10 = .ok (.ifCond .eq 21, 3) := by decide +kernel
theorem dX9_runScript_13 : decode cX9_runScript 13 = .ok (.lload_n 2, 1) := by decide +kernel
theorem dX9_runScript_14 : decode cX9_runScript 14 = .ok (.lconst 0, 1) := by decide +kernel
theorem dX9_runScript_15 : decode cX9_runScript 15 = .ok (.iload_n 1, 1) := by decide +kernel
theorem dX9_runScript_16 : decode cX9_runScript 16 = .ok (.invokestatic 254, 3) := by decide +kernel
theorem dX9_runScript_19 : decode cX9_runScript 19 = .ok (.lconst 1, 1) := by decide +kernel
theorem dX9_runScript_20 : decode cX9_runScript 20 = .ok (.lsub, 1) := by decide +kernel
theorem dX9_runScript_21 : decode cX9_runScript 21 = .ok (.invokestatic 82, 3) := by decide +kernel
theorem dX9_runScript_24 : decode cX9_runScript 24 = .ok (.ifCond .eq 7, 3) := by decide +kernel
theorem dX9_runScript_27 : decode cX9_runScript 27 = .ok (.iconst 0, 1) := by decide +kernel
theorem dX9_runScript_28 : decode cX9_runScript 28 = .ok (.goto 4, 3) := by decide +kernel
theorem dX9_runScript_31 : decode cX9_runScript 31 = .ok (.iconst 1, 1) := by decide +kernel
theorem dX9_runScript_32 : decode cX9_runScript 32 = .ok (.invokevirtual 93, 3) := by decide +kernel
theorem dX9_runScript_35 : decode cX9_runScript 35 = .ok (.ifCond .eq 5, 3) := by decide +kernel
theorem dX9_runScript_38 : decode cX9_runScript 38 = .ok (.iconst 0, 1) := by decide +kernel
theorem dX9_runScript_39 : decode cX9_runScript 39 = .ok (.ireturn, 1) := by decide +kernel
theorem dX9_runScript_40 : decode cX9_runScript 40 = .ok (.aload_n 0, 1) := by decide +kernel
theorem dX9_runScript_41 : decode cX9_runScript 41 = .ok (.getfield 41, 3) := by decide +kernel
theorem dX9_runScript_44 : decode cX9_runScript 44 = .ok (.iconst 0, 1) := by decide +kernel
theorem dX9_runScript_45 : decode cX9_runScript 45 = .ok (.aload_n 0, 1) := by decide +kernel
theorem dX9_runScript_46 : decode cX9_runScript 46 = .ok (.getfield 44, 3) := by decide +kernel
theorem dX9_runScript_49 : decode cX9_runScript 49 = .ok (.iconst 0, 1) := by decide +kernel
theorem dX9_runScript_50 : decode cX9_runScript 50 = .ok (.bipush 107, 2) := by decide +kernel
theorem dX9_runScript_52 : decode cX9_runScript 52 = .ok (.invokestatic 75, 3) := by decide +kernel
theorem dX9_runScript_55 : decode cX9_runScript 55 = .ok (.iconst 0, 1) := by decide +kernel
theorem dX9_runScript_56 : decode cX9_runScript 56 = .ok (.istore 4, 2) := by decide +kernel
theorem dX9_runScript_58 : decode cX9_runScript 58 = .ok (.iload 4, 2) := by decide +kernel
theorem dX9_runScript_60 : decode cX9_runScript 60 = .ok (.iload_n 1, 1) := by decide +kernel
theorem dX9_runScript_61 : decode cX9_runScript 61 = .ok (.if_icmp .ge 35, 3) := by decide +kernel
theorem dX9_runScript_64 : decode cX9_runScript 64 = .ok (.aload_n 0, 1) := by decide +kernel
theorem dX9_runScript_65 : decode cX9_runScript 65 = .ok (.lload_n 2, 1) := by decide +kernel
theorem dX9_runScript_66 : decode cX9_runScript 66 = .ok (.iload_n 1, 1) := by decide +kernel
theorem dX9_runScript_67 : decode cX9_runScript 67 = .ok (.iconst 1, 1) := by decide +kernel
theorem dX9_runScript_68 : decode cX9_runScript 68 = .ok (.isub, 1) := by decide +kernel
theorem dX9_runScript_69 : decode cX9_runScript 69 = .ok (.iload 4, 2) := by decide +kernel
theorem dX9_runScript_71 : decode cX9_runScript 71 = .ok (.isub, 1) := by decide +kernel
theorem dX9_runScript_72 : decode cX9_runScript 72 = .ok (.invokestatic 254, 3) := by decide +kernel
theorem dX9_runScript_75 : decode cX9_runScript 75 = .ok (.ldiv, 1) := by decide +kernel
theorem dX9_runScript_76 : decode cX9_runScript 76 = .ok (.ldc2_w 252, 3) := by decide +kernel
theorem dX9_runScript_79 : decode cX9_runScript 79 = .ok (.lrem, 1) := by decide +kernel
theorem dX9_runScript_80 : decode cX9_runScript 80 = .ok (.l2i, 1) := by decide +kernel
theorem dX9_runScript_81 : decode cX9_runScript 81 = .ok (.invokevirtual 258, 3) := by decide +kernel
theorem dX9_runScript_84 : decode cX9_runScript 84 = .ok (.ifCond .ne 6, 3) := by decide +kernel
theorem dX9_runScript_87 : decode cX9_runScript 87 = .ok (.iload 4, 2) := by decide +kernel
theorem dX9_runScript_89 : decode cX9_runScript 89 = .ok (.ireturn, 1) := by decide +kernel
theorem dX9_runScript_90 : decode cX9_runScript 90 = .ok (.iinc 4 1, 3) := by decide +kernel
theorem dX9_runScript_93 : decode cX9_runScript 93 = .ok (.goto (-35), 3) := by decide +kernel
theorem dX9_runScript_96 : decode cX9_runScript 96 = .ok (.bipush (-9), 2) := by decide +kernel
theorem dX9_runScript_98 : decode cX9_runScript 98 = .ok (.ireturn, 1) := by decide +kernel
theorem dX9_simulate_0 : decode cX9_simulate 0 = .ok (.aload_n 0, 1) := by decide +kernel
theorem dX9_simulate_1 : decode cX9_simulate 1 = .ok (.iload_n 3, 1) := by decide +kernel
theorem dX9_simulate_2 : decode cX9_simulate 2 = .ok (.i2l, 1) := by decide +kernel
theorem dX9_simulate_3 : decode cX9_simulate 3 = .ok (.lconst 1, 1) := by decide +kernel
theorem dX9_simulate_4 : decode cX9_simulate 4 = .ok (.ldc2_w 261, 3) := by decide +kernel
theorem dX9_simulate_7 : decode cX9_simulate 7 = .ok (.invokestatic 82, 3) := by decide +kernel
theorem dX9_simulate_10 : decode cX9_simulate 10 = .ok (.ifCond .eq 7, 3) := by decide +kernel
theorem dX9_simulate_13 : decode cX9_simulate 13 = .ok (.iconst 0, 1) := by decide +kernel
theorem dX9_simulate_14 : decode cX9_simulate 14 = .ok (.goto 4, 3) := by decide +kernel
theorem dX9_simulate_17 : decode cX9_simulate 17 = .ok (.iconst 1, 1) := by decide +kernel
theorem dX9_simulate_18 : decode cX9_simulate 18 = .ok (.invokevirtual 93, 3) := by decide +kernel
theorem dX9_simulate_21 : decode cX9_simulate 21 = .ok (.ifCond .eq 5, 3) := by decide +kernel
theorem dX9_simulate_24 : decode cX9_simulate 24 = .ok (.iconst 0, 1) := by decide +kernel
theorem dX9_simulate_25 : decode cX9_simulate 25 = .ok (.ireturn, 1) := by decide +kernel
theorem dX9_simulate_26 : decode cX9_simulate 26 = .ok (.aload_n 0, 1) := by decide +kernel
theorem dX9_simulate_27 : decode cX9_simulate 27 = .ok (.getfield 41, 3) := by decide +kernel
theorem dX9_simulate_30 : decode cX9_simulate 30 = .ok (.iconst 0, 1) := by decide +kernel
theorem dX9_simulate_31 : decode cX9_simulate 31 = .ok (.aload_n 0, 1) := by decide +kernel
theorem dX9_simulate_32 : decode cX9_simulate 32 = .ok (.getfield 44, 3) := by decide +kernel
theorem dX9_simulate_35 : decode cX9_simulate 35 = .ok (.iconst 0, 1) := by decide +kernel
theorem dX9_simulate_36 : decode cX9_simulate 36 = .ok (.bipush 107, 2) := by decide +kernel
theorem dX9_simulate_38 : decode cX9_simulate 38 = .ok (.invokestatic 75, 3) := by decide +kernel
theorem dX9_simulate_41 : decode cX9_simulate 41 = .ok (.lload_n 1, 1) := by decide +kernel
theorem dX9_simulate_42 : decode cX9_simulate 42 = .ok (.lstore 4, 2) := by decide +kernel
theorem dX9_simulate_44 : decode cX9_simulate 44 = .ok (.aload_n 0, 1) := by decide +kernel
theorem dX9_simulate_45 : decode cX9_simulate 45 = .ok (.getfield 44, 3) := by decide +kernel
theorem dX9_simulate_48 : decode cX9_simulate 48 = .ok (.iconst 1, 1) := by decide +kernel
theorem dX9_simulate_49 : decode cX9_simulate 49 = .ok (.iaload, 1) := by decide +kernel
theorem dX9_simulate_50 : decode cX9_simulate 50 = .ok (.istore 6, 2) := by decide +kernel
theorem dX9_simulate_52 : decode cX9_simulate 52 = .ok (.iconst 0, 1) := by decide +kernel
theorem dX9_simulate_53 : decode cX9_simulate 53 = .ok (.istore 7, 2) := by decide +kernel
theorem dX9_simulate_55 : decode cX9_simulate 55 = .ok (.iload 7, 2) := by decide +kernel
theorem dX9_simulate_57 : decode cX9_simulate 57 = .ok (.iload_n 3, 1) := by decide +kernel
theorem dX9_simulate_58 : decode cX9_simulate 58 = .ok (.if_icmp .ge 113, 3) := by decide +kernel
theorem dX9_simulate_61 : decode cX9_simulate 61 = .ok (.lload 4, 2) := by decide +kernel
theorem dX9_simulate_63 : decode cX9_simulate 63 = .ok (.ldc2_w 263, 3) := by decide +kernel
theorem dX9_simulate_66 : decode cX9_simulate 66 = .ok (.lmul, 1) := by decide +kernel
theorem dX9_simulate_67 : decode cX9_simulate 67 = .ok (.ldc2_w 265, 3) := by decide +kernel
theorem dX9_simulate_70 : decode cX9_simulate 70 = .ok (.ladd, 1) := by decide +kernel
theorem dX9_simulate_71 : decode cX9_simulate 71 = .ok (.lstore 4, 2) := by decide +kernel
theorem dX9_simulate_73 : decode cX9_simulate 73 = .ok (.lload 4, 2) := by decide +kernel
theorem dX9_simulate_75 : decode cX9_simulate 75 = .ok (.bipush 33, 2) := by decide +kernel
theorem dX9_simulate_77 : decode cX9_simulate 77 = .ok (.lushr, 1) := by decide +kernel
theorem dX9_simulate_78 : decode cX9_simulate 78 = .ok (.l2i, 1) := by decide +kernel
theorem dX9_simulate_79 : decode cX9_simulate 79 = .ok (.istore 8, 2) := by decide +kernel
theorem dX9_simulate_81 : decode cX9_simulate 81 = .ok (.iload 8, 2) := by decide +kernel
theorem dX9_simulate_83 : decode cX9_simulate 83 = .ok (.bipush 64, 2) := by decide +kernel
theorem dX9_simulate_85 : decode cX9_simulate 85 = .ok (.idiv, 1) := by decide +kernel
theorem dX9_simulate_86 : decode cX9_simulate 86 = .ok (.aload_n 0, 1) := by decide +kernel
theorem dX9_simulate_87 : decode cX9_simulate 87 = .ok (.getfield 13, 3) := by decide +kernel
theorem dX9_simulate_90 : decode cX9_simulate 90 = .ok (.irem, 1) := by decide +kernel
theorem dX9_simulate_91 : decode cX9_simulate 91 = .ok (.istore 9, 2) := by decide +kernel
theorem dX9_simulate_93 : decode cX9_simulate 93 = .ok (.iload 8, 2) := by decide +kernel
theorem dX9_simulate_95 : decode cX9_simulate 95 = .ok (.iconst 3, 1) := by decide +kernel
theorem dX9_simulate_96 : decode cX9_simulate 96 = .ok (.irem, 1) := by decide +kernel
theorem dX9_simulate_97 : decode cX9_simulate 97 = .ok (.ifCond .ne 31, 3) := by decide +kernel
theorem dX9_simulate_100 : decode cX9_simulate 100 = .ok (.aload_n 0, 1) := by decide +kernel
theorem dX9_simulate_101 : decode cX9_simulate 101 = .ok (.getfield 44, 3) := by decide +kernel
theorem dX9_simulate_104 : decode cX9_simulate 104 = .ok (.iload 9, 2) := by decide +kernel
theorem dX9_simulate_106 : decode cX9_simulate 106 = .ok (.invokestatic 126, 3) := by decide +kernel
theorem dX9_simulate_109 : decode cX9_simulate 109 = .ok (.iload 8, 2) := by decide +kernel
theorem dX9_simulate_111 : decode cX9_simulate 111 = .ok (.iconst 4, 1) := by decide +kernel
theorem dX9_simulate_112 : decode cX9_simulate 112 = .ok (.idiv, 1) := by decide +kernel
theorem dX9_simulate_113 : decode cX9_simulate 113 = .ok (.aload_n 0, 1) := by decide +kernel
theorem dX9_simulate_114 : decode cX9_simulate 114 = .ok (.getfield 17, 3) := by decide +kernel
theorem dX9_simulate_117 : decode cX9_simulate 117 = .ok (.irem, 1) := by decide +kernel
theorem dX9_simulate_118 : decode cX9_simulate 118 = .ok (.iadd, 1) := by decide +kernel
theorem dX9_simulate_119 : decode cX9_simulate 119 = .ok (.iload 8, 2) := by decide +kernel
theorem dX9_simulate_121 : decode cX9_simulate 121 = .ok (.sipush 1024, 3) := by decide +kernel
theorem dX9_simulate_124 : decode cX9_simulate 124 = .ok (.idiv, 1) := by decide +kernel
theorem dX9_simulate_125 : decode cX9_simulate 125 = .ok (.iconst 4, 1) := by decide +kernel
theorem dX9_simulate_126 : decode cX9_simulate 126 = .ok (.irem, 1) := by decide +kernel
theorem dX9_simulate_127 : decode cX9_simulate 127 = .ok (.iastore, 1) := by decide +kernel
theorem dX9_simulate_128 : decode cX9_simulate 128 = .ok (.iload 8, 2) := by decide +kernel
theorem dX9_simulate_130 : decode cX9_simulate 130 = .ok (.iconst 3, 1) := by decide +kernel
theorem dX9_simulate_131 : decode cX9_simulate 131 = .ok (.irem, 1) := by decide +kernel
theorem dX9_simulate_132 : decode cX9_simulate 132 = .ok (.iconst 1, 1) := by decide +kernel
theorem dX9_simulate_133 : decode cX9_simulate 133 = .ok (.if_icmp .ne 24, 3) := by decide +kernel
theorem dX9_simulate_136 : decode cX9_simulate 136 = .ok (.aload_n 0, 1) := by decide +kernel
theorem dX9_simulate_137 : decode cX9_simulate 137 = .ok (.getfield 44, 3) := by decide +kernel
theorem dX9_simulate_140 : decode cX9_simulate 140 = .ok (.iload 9, 2) := by decide +kernel
theorem dX9_simulate_142 : decode cX9_simulate 142 = .ok (.invokestatic 126, 3) := by decide +kernel
theorem dX9_simulate_145 : decode cX9_simulate 145 = .ok (.bipush 12, 2) := by decide +kernel
theorem dX9_simulate_147 : decode cX9_simulate 147 = .ok (.iadd, 1) := by decide +kernel
theorem dX9_simulate_148 : decode cX9_simulate 148 = .ok (.iload 8, 2) := by decide +kernel
theorem dX9_simulate_150 : decode cX9_simulate 150 = .ok (.sipush 4096, 3) := by decide +kernel
theorem dX9_simulate_153 : decode cX9_simulate 153 = .ok (.idiv, 1) := by decide +kernel
theorem dX9_simulate_154 : decode cX9_simulate 154 = .ok (.iconst 4, 1) := by decide +kernel
theorem dX9_simulate_155 : decode cX9_simulate 155 = .ok (.irem, 1) := by decide +kernel
theorem dX9_simulate_156 : decode cX9_simulate 156 = .ok (.iastore, 1) := by decide +kernel
theorem dX9_simulate_157 : decode cX9_simulate 157 = .ok (.aload_n 0, 1) := by decide +kernel
theorem dX9_simulate_158 : decode cX9_simulate 158 = .ok (.aload_n 0, 1) := by decide +kernel
theorem dX9_simulate_159 : decode cX9_simulate 159 = .ok (.getfield 44, 3) := by decide +kernel
theorem dX9_simulate_162 : decode cX9_simulate 162 = .ok (.invokevirtual 230, 3) := by decide +kernel
theorem dX9_simulate_165 : decode cX9_simulate 165 = .ok (.iinc 7 1, 3) := by decide +kernel
theorem dX9_simulate_168 : decode cX9_simulate 168 = .ok (.goto (-113), 3) := by decide +kernel
theorem dX9_simulate_171 : decode cX9_simulate 171 = .ok (.aload_n 0, 1) := by decide +kernel
theorem dX9_simulate_172 : decode cX9_simulate 172 = .ok (.getfield 44, 3) := by decide +kernel
theorem dX9_simulate_175 : decode cX9_simulate 175 = .ok (.iconst 1, 1) := by decide +kernel
theorem dX9_simulate_176 : decode cX9_simulate 176 = .ok (.iaload, 1) := by decide +kernel
theorem dX9_simulate_177 : decode cX9_simulate 177 = .ok (.iload 6, 2) := by decide +kernel
theorem dX9_simulate_179 : decode cX9_simulate 179 = .ok (.isub, 1) := by decide +kernel
theorem dX9_simulate_180 : decode cX9_simulate 180 = .ok (.sipush 1000, 3) := by decide +kernel
theorem dX9_simulate_183 : decode cX9_simulate 183 = .ok (.aload_n 0, 1) := by decide +kernel
theorem dX9_simulate_184 : decode cX9_simulate 184 = .ok (.getfield 13, 3) := by decide +kernel
theorem dX9_simulate_187 : decode cX9_simulate 187 = .ok (.aload_n 0, 1) := by decide +kernel
theorem dX9_simulate_188 : decode cX9_simulate 188 = .ok (.aload_n 0, 1) := by decide +kernel
theorem dX9_simulate_189 : decode cX9_simulate 189 = .ok (.getfield 44, 3) := by decide +kernel
theorem dX9_simulate_192 : decode cX9_simulate 192 = .ok (.invokevirtual 196, 3) := by decide +kernel
theorem dX9_simulate_195 : decode cX9_simulate 195 = .ok (.invokestatic 167, 3) := by decide +kernel
theorem dX9_simulate_198 : decode cX9_simulate 198 = .ok (.isub, 1) := by decide +kernel
theorem dX9_simulate_199 : decode cX9_simulate 199 = .ok (.imul, 1) := by decide +kernel
theorem dX9_simulate_200 : decode cX9_simulate 200 = .ok (.iadd, 1) := by decide +kernel
theorem dX9_simulate_201 : decode cX9_simulate 201 = .ok (.ireturn, 1) := by decide +kernel
theorem dX9_save_0 : decode cX9_save 0 = .ok (.aload_n 0, 1) := by decide +kernel
theorem dX9_save_1 : decode cX9_save 1 = .ok (.iload_n 1, 1) := by decide +kernel
theorem dX9_save_2 : decode cX9_save 2 = .ok (.i2l, 1) := by decide +kernel
theorem dX9_save_3 : decode cX9_save 3 = .ok (.lconst 0, 1) := by decide +kernel
theorem dX9_save_4 : decode cX9_save 4 = .ok (.lconst 1, 1) := by decide +kernel
theorem dX9_save_5 : decode cX9_save 5 = .ok (.invokestatic 82, 3) := by decide +kernel
theorem dX9_save_8 : decode cX9_save 8 = .ok (.ifCond .eq 7, 3) := by decide +kernel
theorem dX9_save_11 : decode cX9_save 11 = .ok (.iconst 0, 1) := by decide +kernel
theorem dX9_save_12 : decode cX9_save 12 = .ok (.goto 4, 3) := by decide +kernel
theorem dX9_save_15 : decode cX9_save 15 = .ok (.iconst 1, 1) := by decide +kernel
theorem dX9_save_16 : decode cX9_save 16 = .ok (.invokevirtual 93, 3) := by decide +kernel
theorem dX9_save_19 : decode cX9_save 19 = .ok (.ifCond .eq 5, 3) := by decide +kernel
theorem dX9_save_22 : decode cX9_save 22 = .ok (.iconst 0, 1) := by decide +kernel
theorem dX9_save_23 : decode cX9_save 23 = .ok (.ireturn, 1) := by decide +kernel
theorem dX9_save_24 : decode cX9_save 24 = .ok (.aload_n 0, 1) := by decide +kernel
theorem dX9_save_25 : decode cX9_save 25 = .ok (.getfield 53, 3) := by decide +kernel
theorem dX9_save_28 : decode cX9_save 28 = .ok (.iload_n 1, 1) := by decide +kernel
theorem dX9_save_29 : decode cX9_save 29 = .ok (.iconst 1, 1) := by decide +kernel
theorem dX9_save_30 : decode cX9_save 30 = .ok (.bastore, 1) := by decide +kernel
theorem dX9_save_31 : decode cX9_save 31 = .ok (.aload_n 0, 1) := by decide +kernel
theorem dX9_save_32 : decode cX9_save 32 = .ok (.getfield 41, 3) := by decide +kernel
theorem dX9_save_35 : decode cX9_save 35 = .ok (.iconst 0, 1) := by decide +kernel
theorem dX9_save_36 : decode cX9_save 36 = .ok (.aload_n 0, 1) := by decide +kernel
theorem dX9_save_37 : decode cX9_save 37 = .ok (.getfield 50, 3) := by decide +kernel
theorem dX9_save_40 : decode cX9_save 40 = .ok (.bipush 107, 2) := by decide +kernel
theorem dX9_save_42 : decode cX9_save 42 = .ok (.iload_n 1, 1) := by decide +kernel
theorem dX9_save_43 : decode cX9_save 43 = .ok (.imul, 1) := by decide +kernel
theorem dX9_save_44 : decode cX9_save 44 = .ok (.bipush 107, 2) := by decide +kernel
theorem dX9_save_46 : decode cX9_save 46 = .ok (.invokestatic 75, 3) := by decide +kernel
theorem dX9_save_49 : decode cX9_save 49 = .ok (.aload_n 0, 1) := by decide +kernel
theorem dX9_save_50 : decode cX9_save 50 = .ok (.getfield 41, 3) := by decide +kernel
theorem dX9_save_53 : decode cX9_save 53 = .ok (.iconst 0, 1) := by decide +kernel
theorem dX9_save_54 : decode cX9_save 54 = .ok (.iaload, 1) := by decide +kernel
theorem dX9_save_55 : decode cX9_save 55 = .ok (.ireturn, 1) := by decide +kernel
theorem dX9_restore_0 : decode cX9_restore 0 = .ok (.aload_n 0, 1) := by decide +kernel
theorem dX9_restore_1 : decode cX9_restore 1 = .ok (.iload_n 1, 1) := by decide +kernel
theorem dX9_restore_2 : decode cX9_restore 2 = .ok (.i2l, 1) := by decide +kernel
theorem dX9_restore_3 : decode cX9_restore 3 = .ok (.lconst 0, 1) := by decide +kernel
theorem dX9_restore_4 : decode cX9_restore 4 = .ok (.lconst 1, 1) := by decide +kernel
theorem dX9_restore_5 : decode cX9_restore 5 = .ok (.invokestatic 82, 3) := by decide +kernel
theorem dX9_restore_8 : decode cX9_restore 8 = .ok (.ifCond .ne 7, 3) := by decide +kernel
theorem dX9_restore_11 : decode cX9_restore 11 = .ok (.iconst 1, 1) := by decide +kernel
theorem dX9_restore_12 : decode cX9_restore 12 = .ok (.goto 17, 3) := by decide +kernel
theorem dX9_restore_15 : decode cX9_restore 15 = .ok (.aload_n 0, 1) := by decide +kernel
theorem dX9_restore_16 : decode cX9_restore 16 = .ok (.getfield 53, 3) := by decide +kernel
theorem dX9_restore_19 : decode cX9_restore 19 = .ok (.iload_n 1, 1) := by decide +kernel
theorem dX9_restore_20 : decode cX9_restore 20 = .ok (.baload, 1) := by decide +kernel
theorem dX9_restore_21 : decode cX9_restore 21 = .ok (.ifCond .ne 7, 3) := by decide +kernel
theorem dX9_restore_24 : decode cX9_restore 24 = .ok (.iconst 2, 1) := by decide +kernel
theorem dX9_restore_25 : decode cX9_restore 25 = .ok (.goto 4, 3) := by decide +kernel
theorem dX9_restore_28 : decode cX9_restore 28 = .ok (.iconst 0, 1) := by decide +kernel
theorem dX9_restore_29 : decode cX9_restore 29 = .ok (.invokevirtual 93, 3) := by decide +kernel
theorem dX9_restore_32 : decode cX9_restore 32 = .ok (.ifCond .eq 5, 3) := by decide +kernel
theorem dX9_restore_35 : decode cX9_restore 35 = .ok (.iconst 0, 1) := by decide +kernel
theorem dX9_restore_36 : decode cX9_restore 36 = .ok (.ireturn, 1) := by decide +kernel
theorem dX9_restore_37 : decode cX9_restore 37 = .ok (.aload_n 0, 1) := by decide +kernel
theorem dX9_restore_38 : decode cX9_restore 38 = .ok (.getfield 50, 3) := by decide +kernel
theorem dX9_restore_41 : decode cX9_restore 41 = .ok (.bipush 107, 2) := by decide +kernel
theorem dX9_restore_43 : decode cX9_restore 43 = .ok (.iload_n 1, 1) := by decide +kernel
theorem dX9_restore_44 : decode cX9_restore 44 = .ok (.imul, 1) := by decide +kernel
theorem dX9_restore_45 : decode cX9_restore 45 = .ok (.aload_n 0, 1) := by decide +kernel
theorem dX9_restore_46 : decode cX9_restore 46 = .ok (.getfield 41, 3) := by decide +kernel
theorem dX9_restore_49 : decode cX9_restore 49 = .ok (.iconst 0, 1) := by decide +kernel
theorem dX9_restore_50 : decode cX9_restore 50 = .ok (.bipush 107, 2) := by decide +kernel
theorem dX9_restore_52 : decode cX9_restore 52 = .ok (.invokestatic 75, 3) := by decide +kernel
theorem dX9_restore_55 : decode cX9_restore 55 = .ok (.aload_n 0, 1) := by decide +kernel
theorem dX9_restore_56 : decode cX9_restore 56 = .ok (.iconst 0, 1) := by decide +kernel
theorem dX9_restore_57 : decode cX9_restore 57 = .ok (.putfield 72, 3) := by decide +kernel
theorem dX9_restore_60 : decode cX9_restore 60 = .ok (.aload_n 0, 1) := by decide +kernel
theorem dX9_restore_61 : decode cX9_restore 61 = .ok (.getfield 41, 3) := by decide +kernel
theorem dX9_restore_64 : decode cX9_restore 64 = .ok (.iconst 0, 1) := by decide +kernel
theorem dX9_restore_65 : decode cX9_restore 65 = .ok (.iaload, 1) := by decide +kernel
theorem dX9_restore_66 : decode cX9_restore 66 = .ok (.ireturn, 1) := by decide +kernel
