theorem dX6_init_0 : decode cX6_init 0 = .ok (.aload_n 0, 1) := by decide +kernel
theorem dX6_init_1 : decode cX6_init 1 = .ok (.invokespecial 3, 3) := by decide +kernel
theorem dX6_init_4 : decode cX6_init 4 = .ok (.aload_n 0, 1) := by decide +kernel
theorem dX6_init_5 : decode cX6_init 5 = .ok (.iconst 5, 1) := by decide +kernel
theorem dX6_init_6 : decode cX6_init 6 = .ok (.newarray .int, 2) := by decide +kernel
theorem dX6_init_8 : decode cX6_init 8 = .ok (.putfield 9, 3) := by decide +kernel
theorem dX6_init_11 : decode cX6_init 11 = .ok (.aload_n 0, 1) := by decide +kernel
theorem dX6_init_12 : decode cX6_init 12 = .ok (.bipush 6, 2) := by decide +kernel
theorem dX6_init_14 : decode cX6_init 14 = .ok (.newarray .int, 2) := by decide +kernel
theorem dX6_init_16 : decode cX6_init 16 = .ok (.putfield 15, 3) := by decide +kernel
theorem dX6_init_19 : decode cX6_init 19 = .ok (.aload_n 0, 1) := by decide +kernel
theorem dX6_init_20 : decode cX6_init 20 = .ok (.bipush 50, 2) := by decide +kernel
theorem dX6_init_22 : decode cX6_init 22 = .ok (.newarray .int, 2) := by decide +kernel
theorem dX6_init_24 : decode cX6_init 24 = .ok (.putfield 20, 3) := by decide +kernel
theorem dX6_init_27 : decode cX6_init 27 = .ok (.aload_n 0, 1) := by decide +kernel
theorem dX6_init_28 : decode cX6_init 28 = .ok (.iconst 5, 1) := by decide +kernel
theorem dX6_init_29 : decode cX6_init 29 = .ok (.newarray .int, 2) := by decide +kernel
theorem dX6_init_31 : decode cX6_init 31 = .ok (.putfield 23, 3) := by decide +kernel
theorem dX6_init_34 : decode cX6_init 34 = .ok (.aload_n 0, 1) := by decide +kernel
theorem dX6_init_35 : decode cX6_init 35 = .ok (.iconst 5, 1) := by decide +kernel
theorem dX6_init_36 : decode cX6_init 36 = .ok (.newarray .int, 2) := by decide +kernel
theorem dX6_init_38 : decode cX6_init 38 = .ok (.putfield 26, 3) := by decide +kernel
theorem dX6_init_41 : decode cX6_init 41 = .ok (.aload_n 0, 1) := by decide +kernel
theorem dX6_init_42 : decode cX6_init 42 = .ok (.aload_n 1, 1) := by decide +kernel
theorem dX6_init_43 : decode cX6_init 43 = .ok (.putfield 29, 3) := by decide +kernel
theorem dX6_init_46 : decode cX6_init 46 = .ok (.return_, 1) := by decide +kernel
theorem dX6_read_0 : decode cX6_read 0 = .ok (.aload_n 0, 1) := by decide +kernel
theorem dX6_read_1 : decode cX6_read 1 = .ok (.iload_n 1, 1) := by decide +kernel
theorem dX6_read_2 : decode cX6_read 2 = .ok (.aload_n 0, 1) := by decide +kernel
theorem dX6_read_3 : decode cX6_read 3 = .ok (.getfield 29, 3) := by decide +kernel
theorem dX6_read_6 : decode cX6_read 6 = .ok (.arraylength, 1) := by decide +kernel
theorem dX6_read_7 : decode cX6_read 7 = .ok (.invokestatic 33, 3) := by decide +kernel
theorem dX6_read_10 : decode cX6_read 10 = .ok (.putfield 39, 3) := by decide +kernel
theorem dX6_read_13 : decode cX6_read 13 = .ok (.aload_n 0, 1) := by decide +kernel
theorem dX6_read_14 : decode cX6_read 14 = .ok (.iconst 0, 1) := by decide +kernel
theorem dX6_read_15 : decode cX6_read 15 = .ok (.putfield 43, 3) := by decide +kernel
theorem dX6_read_18 : decode cX6_read 18 = .ok (.aload_n 0, 1) := by decide +kernel
theorem dX6_read_19 : decode cX6_read 19 = .ok (.iconst 0, 1) := by decide +kernel
theorem dX6_read_20 : decode cX6_read 20 = .ok (.putfield 46, 3) := by decide +kernel
theorem dX6_read_23 : decode cX6_read 23 = .ok (.aload_n 0, 1) := by decide +kernel
theorem dX6_read_24 : decode cX6_read 24 = .ok (.invokevirtual 50, 3) := by decide +kernel
theorem dX6_read_27 : decode cX6_read 27 = .ok (.aload_n 0, 1) := by decide +kernel
theorem dX6_read_28 : decode cX6_read 28 = .ok (.invokevirtual 53, 3) := by decide +kernel
theorem dX6_read_31 : decode cX6_read 31 = .ok (.aload_n 0, 1) := by decide +kernel
theorem dX6_read_32 : decode cX6_read 32 = .ok (.getfield 46, 3) := by decide +kernel
theorem dX6_read_35 : decode cX6_read 35 = .ok (.ifCond .eq 10, 3) := by decide +kernel
theorem dX6_read_38 : decode cX6_read 38 = .ok (.aload_n 0, 1) := by decide +kernel
theorem dX6_read_39 : decode cX6_read 39 = .ok (.getfield 43, 3) := by decide +kernel
theorem dX6_read_42 : decode cX6_read 42 = .ok (.goto 5, 3) := by decide +kernel
theorem dX6_read_45 : decode cX6_read 45 = .ok (.bipush (-9), 2) := by decide +kernel
theorem dX6_read_47 : decode cX6_read 47 = .ok (.ireturn, 1) := by decide +kernel
theorem dX6_readHead_0 : decode cX6_readHead 0 = .ok (.aload_n 0, 1) := by decide +kernel
theorem dX6_readHead_1 : decode cX6_readHead 1 = .ok (.bipush 68, 2) := by decide +kernel
theorem dX6_readHead_3 : decode cX6_readHead 3 = .ok (.invokevirtual 56, 3) := by decide +kernel
theorem dX6_readHead_6 : decode cX6_readHead 6 = .ok (.aload_n 0, 1) := by decide +kernel
theorem dX6_readHead_7 : decode cX6_readHead 7 = .ok (.aload_n 0, 1) := by decide +kernel
theorem dX6_readHead_8 : decode cX6_readHead 8 = .ok (.iconst 1, 1) := by decide +kernel
theorem dX6_readHead_9 : decode cX6_readHead 9 = .ok (.iconst 5, 1) := by decide +kernel
theorem dX6_readHead_10 : decode cX6_readHead 10 = .ok (.invokevirtual 60, 3) := by decide +kernel
theorem dX6_readHead_13 : decode cX6_readHead 13 = .ok (.putfield 63, 3) := by decide +kernel
theorem dX6_readHead_16 : decode cX6_readHead 16 = .ok (.aload_n 0, 1) := by decide +kernel
theorem dX6_readHead_17 : decode cX6_readHead 17 = .ok (.aload_n 0, 1) := by decide +kernel
theorem dX6_readHead_18 : decode cX6_readHead 18 = .ok (.iconst 1, 1) := by decide +kernel
theorem dX6_readHead_19 : decode cX6_readHead 19 = .ok (.bipush 6, 2) := by decide +kernel
theorem dX6_readHead_21 : decode cX6_readHead 21 = .ok (.invokevirtual 60, 3) := by decide +kernel
theorem dX6_readHead_24 : decode cX6_readHead 24 = .ok (.putfield 66, 3) := by decide +kernel
theorem dX6_readHead_27 : decode cX6_readHead 27 = .ok (.aload_n 0, 1) := by decide +kernel
theorem dX6_readHead_28 : decode cX6_readHead 28 = .ok (.aload_n 0, 1) := by decide +kernel
theorem dX6_readHead_29 : decode cX6_readHead 29 = .ok (.iconst 1, 1) := by decide +kernel
theorem dX6_readHead_30 : decode cX6_readHead 30 = .ok (.bipush 9, 2) := by decide +kernel
theorem dX6_readHead_32 : decode cX6_readHead 32 = .ok (.invokevirtual 60, 3) := by decide +kernel
theorem dX6_readHead_35 : decode cX6_readHead 35 = .ok (.putfield 69, 3) := by decide +kernel
theorem dX6_readHead_38 : decode cX6_readHead 38 = .ok (.aload_n 0, 1) := by decide +kernel
theorem dX6_readHead_39 : decode cX6_readHead 39 = .ok (.iconst 0, 1) := by decide +kernel
theorem dX6_readHead_40 : decode cX6_readHead 40 = .ok (.iconst 5, 1) := by decide +kernel
theorem dX6_readHead_41 : decode cX6_readHead 41 = .ok (.invokevirtual 60, 3) := by decide +kernel
theorem dX6_readHead_44 : decode cX6_readHead 44 = .ok (.istore_n 1, 1) := by decide +kernel
theorem dX6_readHead_45 : decode cX6_readHead 45 = .ok (.aload_n 0, 1) := by decide +kernel
theorem dX6_readHead_46 : decode cX6_readHead 46 = .ok (.bipush 10, 2) := by decide +kernel
theorem dX6_readHead_48 : decode cX6_readHead 48 = .ok (.iload_n 1, 1) := by decide +kernel
theorem dX6_readHead_49 : decode cX6_readHead 49 = .ok (.imul, 1) := by decide +kernel
theorem dX6_readHead_50 : decode cX6_readHead 50 = .ok (.aload_n 0, 1) := by decide +kernel
theorem dX6_readHead_51 : decode cX6_readHead 51 = .ok (.iload_n 1, 1) := by decide +kernel
theorem dX6_readHead_52 : decode cX6_readHead 52 = .ok (.ifCond .ne 7, 3) := by decide +kernel
theorem dX6_readHead_55 : decode cX6_readHead 55 = .ok (.iconst 1, 1) := by decide +kernel
theorem dX6_readHead_56 : decode cX6_readHead 56 = .ok (.goto 4, 3) := by decide +kernel
theorem dX6_readHead_59 : decode cX6_readHead 59 = .ok (.iconst 0, 1) := by decide +kernel
theorem dX6_readHead_60 : decode cX6_readHead 60 = .ok (.iload_n 1, 1) := by decide +kernel
theorem dX6_readHead_61 : decode cX6_readHead 61 = .ok (.iconst 5, 1) := by decide +kernel
theorem dX6_readHead_62 : decode cX6_readHead 62 = .ok (.if_icmp .ne 7, 3) := by decide +kernel
theorem dX6_readHead_65 : decode cX6_readHead 65 = .ok (.iconst 0, 1) := by decide +kernel
theorem dX6_readHead_66 : decode cX6_readHead 66 = .ok (.goto 5, 3) := by decide +kernel
theorem dX6_readHead_69 : decode cX6_readHead 69 = .ok (.bipush 9, 2) := by decide +kernel
theorem dX6_readHead_71 : decode cX6_readHead 71 = .ok (.invokevirtual 60, 3) := by decide +kernel
theorem dX6_readHead_74 : decode cX6_readHead 74 = .ok (.iadd, 1) := by decide +kernel
theorem dX6_readHead_75 : decode cX6_readHead 75 = .ok (.putfield 72, 3) := by decide +kernel
theorem dX6_readHead_78 : decode cX6_readHead 78 = .ok (.iconst 0, 1) := by decide +kernel
theorem dX6_readHead_79 : decode cX6_readHead 79 = .ok (.istore_n 2, 1) := by decide +kernel
theorem dX6_readHead_80 : decode cX6_readHead 80 = .ok (.iload_n 2, 1) := by decide +kernel
theorem dX6_readHead_81 : decode cX6_readHead 81 = .ok (.aload_n 0, 1) := by decide +kernel
theorem dX6_readHead_82 : decode cX6_readHead 82 = .ok (.getfield 63, 3) := by decide +kernel
theorem dX6_readHead_85 : decode cX6_readHead 85 = .ok (.if_icmp .ge 21, 3) := by decide +kernel
theorem dX6_readHead_88 : decode cX6_readHead 88 = .ok (.aload_n 0, 1) := by decide +kernel
theorem dX6_readHead_89 : decode cX6_readHead 89 = .ok (.getfield 9, 3) := by decide +kernel
theorem dX6_readHead_92 : decode cX6_readHead 92 = .ok (.iload_n 2, 1) := by decide +kernel
theorem dX6_readHead_93 : decode cX6_readHead 93 = .ok (.aload_n 0, 1) := by decide +kernel
theorem dX6_readHead_94 : decode cX6_readHead 94 = .ok (.iconst 0, 1) := by decide +kernel
theorem dX6_readHead_95 : decode cX6_readHead 95 = .ok (.iconst 2, 1) := by decide +kernel
theorem dX6_readHead_96 : decode cX6_readHead 96 = .ok (.invokevirtual 60, 3) := by decide +kernel
theorem dX6_readHead_99 : decode cX6_readHead 99 = .ok (.iastore, 1) := by decide +kernel
theorem dX6_readHead_100 : decode cX6_readHead 100 = .ok (.iinc 2 1, 3) := by decide +kernel
theorem dX6_readHead_103 : decode cX6_readHead 103 = .ok (.goto (-23), 3) := by decide +kernel
theorem dX6_readHead_106 : decode cX6_readHead 106 = .ok (.iconst 0, 1) := by decide +kernel
theorem dX6_readHead_107 : decode cX6_readHead 107 = .ok (.istore_n 2, 1) := by decide +kernel
theorem dX6_readHead_108 : decode cX6_readHead 108 = .ok (.iload_n 2, 1) := by decide +kernel
theorem dX6_readHead_109 : decode cX6_readHead 109 = .ok (.aload_n 0, 1) := by decide +kernel
theorem dX6_readHead_110 : decode cX6_readHead 110 = .ok (.getfield 66, 3) := by decide +kernel
theorem dX6_readHead_113 : decode cX6_readHead 113 = .ok (.if_icmp .ge 21, 3) := by decide +kernel
theorem dX6_readHead_116 : decode cX6_readHead 116 = .ok (.aload_n 0, 1) := by decide +kernel
theorem dX6_readHead_117 : decode cX6_readHead 117 = .ok (.getfield 15, 3) := by decide +kernel
theorem dX6_readHead_120 : decode cX6_readHead 120 = .ok (.iload_n 2, 1) := by decide +kernel
theorem dX6_readHead_121 : decode cX6_readHead 121 = .ok (.aload_n 0, 1) := by decide +kernel
theorem dX6_readHead_122 : decode cX6_readHead 122 = .ok (.iconst 0, 1) := by decide +kernel
theorem dX6_readHead_123 : decode cX6_readHead 123 = .ok (.iconst 5, 1) := by decide +kernel
theorem dX6_readHead_124 : decode cX6_readHead 124 = .ok (.invokevirtual 60, 3) := by decide +kernel
theorem dX6_readHead_127 : decode cX6_readHead 127 = .ok (.iastore, 1) := by decide +kernel
theorem dX6_readHead_128 : decode cX6_readHead 128 = .ok (.iinc 2 1, 3) := by decide +kernel
theorem dX6_readHead_131 : decode cX6_readHead 131 = .ok (.goto (-23), 3) := by decide +kernel
theorem dX6_readHead_134 : decode cX6_readHead 134 = .ok (.return_, 1) := by decide +kernel
theorem dX6_readItems_0 : decode cX6_readItems 0 = .ok (.aload_n 0, 1) := by decide +kernel
theorem dX6_readItems_1 : decode cX6_readItems 1 = .ok (.iconst 0, 1) := by decide +kernel
theorem dX6_readItems_2 : decode cX6_readItems 2 = .ok (.putfield 75, 3) := by decide +kernel
theorem dX6_readItems_5 : decode cX6_readItems 5 = .ok (.aload_n 0, 1) := by decide +kernel
theorem dX6_readItems_6 : decode cX6_readItems 6 = .ok (.getfield 23, 3) := by decide +kernel
theorem dX6_readItems_9 : decode cX6_readItems 9 = .ok (.iconst 0, 1) := by decide +kernel
theorem dX6_readItems_10 : decode cX6_readItems 10 = .ok (.invokestatic 78, 3) := by decide +kernel
theorem dX6_readItems_13 : decode cX6_readItems 13 = .ok (.aload_n 0, 1) := by decide +kernel
theorem dX6_readItems_14 : decode cX6_readItems 14 = .ok (.getfield 26, 3) := by decide +kernel
theorem dX6_readItems_17 : decode cX6_readItems 17 = .ok (.iconst 0, 1) := by decide +kernel
theorem dX6_readItems_18 : decode cX6_readItems 18 = .ok (.invokestatic 78, 3) := by decide +kernel
theorem dX6_readItems_21 : decode cX6_readItems 21 = .ok (.iconst 0, 1) := by decide +kernel
theorem dX6_readItems_22 : decode cX6_readItems 22 = .ok (.istore_n 1, 1) := by decide +kernel
theorem dX6_readItems_23 : decode cX6_readItems 23 = .ok (.iload_n 1, 1) := by decide +kernel
theorem dX6_readItems_24 : decode cX6_readItems 24 = .ok (.sipush 160, 3) := by decide +kernel
theorem dX6_readItems_27 : decode cX6_readItems 27 = .ok (.if_icmp .ge 40, 3) := by decide +kernel
theorem dX6_readItems_30 : decode cX6_readItems 30 = .ok (.aload_n 0, 1) := by decide +kernel
theorem dX6_readItems_31 : decode cX6_readItems 31 = .ok (.getfield 46, 3) := by decide +kernel
theorem dX6_readItems_34 : decode cX6_readItems 34 = .ok (.ifCond .ne 33, 3) := by decide +kernel
theorem dX6_readItems_37 : decode cX6_readItems 37 = .ok (.aload_n 0, 1) := by decide +kernel
theorem dX6_readItems_38 : decode cX6_readItems 38 = .ok (.getfield 43, 3) := by decide +kernel
theorem dX6_readItems_41 : decode cX6_readItems 41 = .ok (.aload_n 0, 1) := by decide +kernel
theorem dX6_readItems_42 : decode cX6_readItems 42 = .ok (.getfield 39, 3) := by decide +kernel
theorem dX6_readItems_45 : decode cX6_readItems 45 = .ok (.if_icmp .ge 22, 3) := by decide +kernel
theorem dX6_readItems_48 : decode cX6_readItems 48 = .ok (.aload_n 0, 1) := by decide +kernel
theorem dX6_readItems_49 : decode cX6_readItems 49 = .ok (.aload_n 0, 1) := by decide +kernel
theorem dX6_readItems_50 : decode cX6_readItems 50 = .ok (.getfield 29, 3) := by decide +kernel
theorem dX6_readItems_53 : decode cX6_readItems 53 = .ok (.aload_n 0, 1) := by decide +kernel
theorem dX6_readItems_54 : decode cX6_readItems 54 = .ok (.getfield 43, 3) := by decide +kernel
theorem dX6_readItems_57 : decode cX6_readItems 57 = .ok (.caload, 1) := by decide +kernel
theorem dX6_readItems_58 : decode cX6_readItems 58 = .ok (.invokevirtual 84, 3) := by decide +kernel
theorem dX6_readItems_61 : decode cX6_readItems 61 = .ok (.iinc 1 1, 3) := by decide +kernel
theorem dX6_readItems_64 : decode cX6_readItems 64 = .ok (.goto (-41), 3) := by decide +kernel
theorem dX6_readItems_67 : decode cX6_readItems 67 = .ok (.return_, 1) := by decide +kernel
theorem dX6_readItem_0 : decode cX6_readItem 0 = .ok (.aload_n 0, 1) := by decide +kernel
theorem dX6_readItem_1 : decode cX6_readItem 1 = .ok (.getfield 66, 3) := by decide +kernel
theorem dX6_readItem_4 : decode cX6_readItem 4 = .ok (.iconst 1, 1) := by decide +kernel
theorem dX6_readItem_5 : decode cX6_readItem 5 = .ok (.if_icmp .le 16, 3) := by decide +kernel
theorem dX6_readItem_8 : decode cX6_readItem 8 = .ok (.aload_n 0, 1) := by decide +kernel
theorem dX6_readItem_9 : decode cX6_readItem 9 = .ok (.getfield 75, 3) := by decide +kernel
theorem dX6_readItem_12 : decode cX6_readItem 12 = .ok (.bipush 10, 2) := by decide +kernel
theorem dX6_readItem_14 : decode cX6_readItem 14 = .ok (.if_icmp .ge 7, 3) := by decide +kernel
theorem dX6_readItem_17 : decode cX6_readItem 17 = .ok (.iconst 1, 1) := by decide +kernel
theorem dX6_readItem_18 : decode cX6_readItem 18 = .ok (.goto 4, 3) := by decide +kernel
theorem dX6_readItem_21 : decode cX6_readItem 21 = .ok (.iconst 0, 1) := by decide +kernel
theorem dX6_readItem_22 : decode cX6_readItem 22 = .ok (.istore_n 2, 1) := by decide +kernel
theorem dX6_readItem_23 : decode cX6_readItem 23 = .ok (.iload_n 1, 1) := by decide +kernel
theorem dX6_readItem_24 : decode cX6_readItem 24 = .ok (.bipush 110, 2) := by decide +kernel
theorem dX6_readItem_26 : decode cX6_readItem 26 = .ok (.if_icmp .ne 25, 3) := by decide +kernel
theorem dX6_readItem_29 : decode cX6_readItem 29 = .ok (.iload_n 2, 1) := by decide +kernel
theorem dX6_readItem_30 : decode cX6_readItem 30 = .ok (.ifCond .eq 21, 3) := by decide +kernel
theorem dX6_readItem_33 : decode cX6_readItem 33 = .ok (.aload_n 0, 1) := by decide +kernel
theorem dX6_readItem_34 : decode cX6_readItem 34 = .ok (.dup, 1) := by decide +kernel
theorem dX6_readItem_35 : decode cX6_readItem 35 = .ok (.getfield 43, 3) := by decide +kernel
theorem dX6_readItem_38 : decode cX6_readItem 38 = .ok (.iconst 1, 1) := by decide +kernel
theorem dX6_readItem_39 : decode cX6_readItem 39 = .ok (.iadd, 1) := by decide +kernel
theorem dX6_readItem_40 : decode cX6_readItem 40 = .ok (.putfield 43, 3) := by decide +kernel
theorem dX6_readItem_43 : decode cX6_readItem 43 = .ok (.aload_n 0, 1) := by decide +kernel
theorem dX6_readItem_44 : decode cX6_readItem 44 = .ok (.iconst 0, 1) := by decide +kernel
theorem dX6_readItem_45 : decode cX6_readItem 45 = .ok (.invokevirtual 87, 3) := by decide +kernel
theorem dX6_readItem_48 : decode cX6_readItem 48 = .ok (.goto 90, 3) := by decide +kernel
theorem dX6_readItem_51 : decode cX6_readItem 51 = .ok (.iload_n 1, 1) := by decide +kernel
theorem dX6_readItem_52 : decode cX6_readItem 52 = .ok (.bipush 120, 2) := by decide +kernel
theorem dX6_readItem_54 : decode cX6_readItem 54 = .ok (.if_icmp .ne 25, 3) := by decide +kernel
theorem dX6_readItem_57 : decode cX6_readItem 57 = .ok (.iload_n 2, 1) := by decide +kernel
theorem dX6_readItem_58 : decode cX6_readItem 58 = .ok (.ifCond .eq 21, 3) := by decide +kernel
theorem dX6_readItem_61 : decode cX6_readItem 61 = .ok (.aload_n 0, 1) := by decide +kernel
theorem dX6_readItem_62 : decode cX6_readItem 62 = .ok (.dup, 1) := by decide +kernel
theorem dX6_readItem_63 : decode cX6_readItem 63 = .ok (.getfield 43, 3) := by decide +kernel
theorem dX6_readItem_66 : decode cX6_readItem 66 = .ok (.iconst 1, 1) := by decide +kernel
theorem dX6_readItem_67 : decode cX6_readItem 67 = .ok (.iadd, 1) := by decide +kernel
theorem dX6_readItem_68 : decode cX6_readItem 68 = .ok (.putfield 43, 3) := by decide +kernel
theorem dX6_readItem_71 : decode cX6_readItem 71 = .ok (.aload_n 0, 1) := by decide +kernel
theorem dX6_readItem_72 : decode cX6_readItem 72 = .ok (.iconst 1, 1) := by decide +kernel
theorem dX6_readItem_73 : decode cX6_readItem 73 = .ok (.invokevirtual 87, 3) := by decide +kernel
theorem dX6_readItem_76 : decode cX6_readItem 76 = .ok (.goto 62, 3) := by decide +kernel
theorem dX6_readItem_79 : decode cX6_readItem 79 = .ok (.iload_n 1, 1) := by decide +kernel
theorem dX6_readItem_80 : decode cX6_readItem 80 = .ok (.bipush 119, 2) := by decide +kernel
theorem dX6_readItem_82 : decode cX6_readItem 82 = .ok (.if_icmp .ne 24, 3) := by decide +kernel
theorem dX6_readItem_85 : decode cX6_readItem 85 = .ok (.aload_n 0, 1) := by decide +kernel
theorem dX6_readItem_86 : decode cX6_readItem 86 = .ok (.dup, 1) := by decide +kernel
theorem dX6_readItem_87 : decode cX6_readItem 87 = .ok (.getfield 43, 3) := by decide +kernel
theorem dX6_readItem_90 : decode cX6_readItem 90 = .ok (.iconst 1, 1) := by decide +kernel
theorem dX6_readItem_91 : decode cX6_readItem 91 = .ok (.iadd, 1) := by decide +kernel
theorem dX6_readItem_92 : decode cX6_readItem 92 = .ok (.putfield 43, 3) := by decide +kernel
theorem dX6_readItem_95 : decode cX6_readItem 95 = .ok (.aload_n 0, 1) := by decide +kernel
theorem dX6_readItem_96 : decode cX6_readItem 96 = .ok (.aload_n 0, 1) := by decide +kernel
theorem dX6_readItem_97 : decode cX6_readItem 97 = .ok (.getfield 26, 3) := by decide +kernel
theorem dX6_readItem_100 : decode cX6_readItem 100 = .ok (.invokevirtual 91, 3) := by decide +kernel
theorem dX6_readItem_103 : decode cX6_readItem 103 = .ok (.goto 35, 3) := by decide +kernel
theorem dX6_readItem_106 : decode cX6_readItem 106 = .ok (.iload_n 1, 1) := by decide +kernel
theorem dX6_readItem_107 : decode cX6_readItem 107 = .ok (.bipush 118, 2) := by decide +kernel
theorem dX6_readItem_109 : decode cX6_readItem 109 = .ok (.if_icmp .ne 24, 3) := by decide +kernel
theorem dX6_readItem_112 : decode cX6_readItem 112 = .ok (.aload_n 0, 1) := by decide +kernel
theorem dX6_readItem_113 : decode cX6_readItem 113 = .ok (.dup, 1) := by decide +kernel
theorem dX6_readItem_114 : decode cX6_readItem 114 = .ok (.getfield 43, 3) := by decide +kernel
theorem dX6_readItem_117 : decode cX6_readItem 117 = .ok (.iconst 1, 1) := by decide +kernel
theorem dX6_readItem_118 : decode cX6_readItem 118 = .ok (.iadd, 1) := by decide +kernel
theorem dX6_readItem_119 : decode cX6_readItem 119 = .ok (.putfield 43, 3) := by decide +kernel
theorem dX6_readItem_122 : decode cX6_readItem 122 = .ok (.aload_n 0, 1) := by decide +kernel
theorem dX6_readItem_123 : decode cX6_readItem 123 = .ok (.aload_n 0, 1) := by decide +kernel
theorem dX6_readItem_124 : decode cX6_readItem 124 = .ok (.getfield 23, 3) := by decide +kernel
theorem dX6_readItem_127 : decode cX6_readItem 127 = .ok (.invokevirtual 91, 3) := by decide +kernel
theorem dX6_readItem_130 : decode cX6_readItem 130 = .ok (.goto 8, 3) := by decide +kernel
theorem dX6_readItem_133 : decode cX6_readItem 133 = .ok (.aload_n 0, 1) := by decide +kernel
theorem dX6_readItem_134 : decode cX6_readItem 134 = .ok (.iconst 1, 1) := by decide +kernel
theorem dX6_readItem_135 : decode cX6_readItem 135 = .ok (.putfield 46, 3) := by decide +kernel
theorem dX6_readItem_138 : decode cX6_readItem 138 = .ok (.return_, 1) := by decide +kernel
theorem dX6_readRule_0 : decode cX6_readRule 0 = .ok (.aload_n 0, 1) := by decide +kernel
theorem dX6_readRule_1 : decode cX6_readRule 1 = .ok (.getfield 75, 3) := by decide +kernel
theorem dX6_readRule_4 : decode cX6_readRule 4 = .ok (.iconst 5, 1) := by decide +kernel
theorem dX6_readRule_5 : decode cX6_readRule 5 = .ok (.imul, 1) := by decide +kernel
theorem dX6_readRule_6 : decode cX6_readRule 6 = .ok (.istore_n 2, 1) := by decide +kernel
theorem dX6_readRule_7 : decode cX6_readRule 7 = .ok (.aload_n 0, 1) := by decide +kernel
theorem dX6_readRule_8 : decode cX6_readRule 8 = .ok (.getfield 20, 3) := by decide +kernel
theorem dX6_readRule_11 : decode cX6_readRule 11 = .ok (.iload_n 2, 1) := by decide +kernel
theorem dX6_readRule_12 : decode cX6_readRule 12 = .ok (.iload_n 1, 1) := by decide +kernel
theorem dX6_readRule_13 : decode cX6_readRule 13 = .ok (.iastore, 1) := by decide +kernel
theorem dX6_readRule_14 : decode cX6_readRule 14 = .ok (.aload_n 0, 1) := by decide +kernel
theorem dX6_readRule_15 : decode cX6_readRule 15 = .ok (.getfield 20, 3) := by decide +kernel
theorem dX6_readRule_18 : decode cX6_readRule 18 = .ok (.iload_n 2, 1) := by decide +kernel
theorem dX6_readRule_19 : decode cX6_readRule 19 = .ok (.iconst 1, 1) := by decide +kernel
theorem dX6_readRule_20 : decode cX6_readRule 20 = .ok (.iadd, 1) := by decide +kernel
theorem dX6_readRule_21 : decode cX6_readRule 21 = .ok (.aload_n 0, 1) := by decide +kernel
theorem dX6_readRule_22 : decode cX6_readRule 22 = .ok (.iconst 0, 1) := by decide +kernel
theorem dX6_readRule_23 : decode cX6_readRule 23 = .ok (.aload_n 0, 1) := by decide +kernel
theorem dX6_readRule_24 : decode cX6_readRule 24 = .ok (.getfield 66, 3) := by decide +kernel
theorem dX6_readRule_27 : decode cX6_readRule 27 = .ok (.iconst 1, 1) := by decide +kernel
theorem dX6_readRule_28 : decode cX6_readRule 28 = .ok (.isub, 1) := by decide +kernel
theorem dX6_readRule_29 : decode cX6_readRule 29 = .ok (.invokevirtual 60, 3) := by decide +kernel
theorem dX6_readRule_32 : decode cX6_readRule 32 = .ok (.iastore, 1) := by decide +kernel
theorem dX6_readRule_33 : decode cX6_readRule 33 = .ok (.aload_n 0, 1) := by decide +kernel
theorem dX6_readRule_34 : decode cX6_readRule 34 = .ok (.getfield 20, 3) := by decide +kernel
theorem dX6_readRule_37 : decode cX6_readRule 37 = .ok (.iload_n 2, 1) := by decide +kernel
theorem dX6_readRule_38 : decode cX6_readRule 38 = .ok (.iconst 2, 1) := by decide +kernel
theorem dX6_readRule_39 : decode cX6_readRule 39 = .ok (.iadd, 1) := by decide +kernel
theorem dX6_readRule_40 : decode cX6_readRule 40 = .ok (.aload_n 0, 1) := by decide +kernel
theorem dX6_readRule_41 : decode cX6_readRule 41 = .ok (.iconst 1, 1) := by decide +kernel
theorem dX6_readRule_42 : decode cX6_readRule 42 = .ok (.iconst 3, 1) := by decide +kernel
theorem dX6_readRule_43 : decode cX6_readRule 43 = .ok (.invokevirtual 60, 3) := by decide +kernel
theorem dX6_readRule_46 : decode cX6_readRule 46 = .ok (.iastore, 1) := by decide +kernel
theorem dX6_readRule_47 : decode cX6_readRule 47 = .ok (.aload_n 0, 1) := by decide +kernel
theorem dX6_readRule_48 : decode cX6_readRule 48 = .ok (.getfield 20, 3) := by decide +kernel
theorem dX6_readRule_51 : decode cX6_readRule 51 = .ok (.iload_n 2, 1) := by decide +kernel
theorem dX6_readRule_52 : decode cX6_readRule 52 = .ok (.iconst 3, 1) := by decide +kernel
theorem dX6_readRule_53 : decode cX6_readRule 53 = .ok (.iadd, 1) := by decide +kernel
theorem dX6_readRule_54 : decode cX6_readRule 54 = .ok (.aload_n 0, 1) := by decide +kernel
theorem dX6_readRule_55 : decode cX6_readRule 55 = .ok (.aload_n 0, 1) := by decide +kernel
theorem dX6_readRule_56 : decode cX6_readRule 56 = .ok (.getfield 20, 3) := by decide +kernel
theorem dX6_readRule_59 : decode cX6_readRule 59 = .ok (.iload_n 2, 1) := by decide +kernel
theorem dX6_readRule_60 : decode cX6_readRule 60 = .ok (.iconst 1, 1) := by decide +kernel
theorem dX6_readRule_61 : decode cX6_readRule 61 = .ok (.iadd, 1) := by decide +kernel
theorem dX6_readRule_62 : decode cX6_readRule 62 = .ok (.iaload, 1) := by decide +kernel
theorem dX6_readRule_63 : decode cX6_readRule 63 = .ok (.aload_n 0, 1) := by decide +kernel
theorem dX6_readRule_64 : decode cX6_readRule 64 = .ok (.getfield 66, 3) := by decide +kernel
theorem dX6_readRule_67 : decode cX6_readRule 67 = .ok (.iconst 1, 1) := by decide +kernel
theorem dX6_readRule_68 : decode cX6_readRule 68 = .ok (.isub, 1) := by decide +kernel
theorem dX6_readRule_69 : decode cX6_readRule 69 = .ok (.invokevirtual 95, 3) := by decide +kernel
theorem dX6_readRule_72 : decode cX6_readRule 72 = .ok (.iastore, 1) := by decide +kernel
theorem dX6_readRule_73 : decode cX6_readRule 73 = .ok (.aload_n 0, 1) := by decide +kernel
theorem dX6_readRule_74 : decode cX6_readRule 74 = .ok (.getfield 20, 3) := by decide +kernel
theorem dX6_readRule_77 : decode cX6_readRule 77 = .ok (.iload_n 2, 1) := by decide +kernel
theorem dX6_readRule_78 : decode cX6_readRule 78 = .ok (.iconst 4, 1) := by decide +kernel
theorem dX6_readRule_79 : decode cX6_readRule 79 = .ok (.iadd, 1) := by decide +kernel
theorem dX6_readRule_80 : decode cX6_readRule 80 = .ok (.aload_n 0, 1) := by decide +kernel
theorem dX6_readRule_81 : decode cX6_readRule 81 = .ok (.iconst 1, 1) := by decide +kernel
theorem dX6_readRule_82 : decode cX6_readRule 82 = .ok (.iconst 3, 1) := by decide +kernel
theorem dX6_readRule_83 : decode cX6_readRule 83 = .ok (.invokevirtual 60, 3) := by decide +kernel
theorem dX6_readRule_86 : decode cX6_readRule 86 = .ok (.iastore, 1) := by decide +kernel
theorem dX6_readRule_87 : decode cX6_readRule 87 = .ok (.aload_n 0, 1) := by decide +kernel
theorem dX6_readRule_88 : decode cX6_readRule 88 = .ok (.dup, 1) := by decide +kernel
theorem dX6_readRule_89 : decode cX6_readRule 89 = .ok (.getfield 75, 3) := by decide +kernel
theorem dX6_readRule_92 : decode cX6_readRule 92 = .ok (.iconst 1, 1) := by decide +kernel
theorem dX6_readRule_93 : decode cX6_readRule 93 = .ok (.iadd, 1) := by decide +kernel
theorem dX6_readRule_94 : decode cX6_readRule 94 = .ok (.putfield 75, 3) := by decide +kernel
theorem dX6_readRule_97 : decode cX6_readRule 97 = .ok (.return_, 1) := by decide +kernel
theorem dX6_readVersion_0 : decode cX6_readVersion 0 = .ok (.aload_n 0, 1) := by decide +kernel
theorem dX6_readVersion_1 : decode cX6_readVersion 1 = .ok (.iconst 0, 1) := by decide +kernel
theorem dX6_readVersion_2 : decode cX6_readVersion 2 = .ok (.aload_n 0, 1) := by decide +kernel
theorem dX6_readVersion_3 : decode cX6_readVersion 3 = .ok (.getfield 63, 3) := by decide +kernel
theorem dX6_readVersion_6 : decode cX6_readVersion 6 = .ok (.iconst 1, 1) := by decide +kernel
theorem dX6_readVersion_7 : decode cX6_readVersion 7 = .ok (.isub, 1) := by decide +kernel
theorem dX6_readVersion_8 : decode cX6_readVersion 8 = .ok (.invokevirtual 60, 3) := by decide +kernel
theorem dX6_readVersion_11 : decode cX6_readVersion 11 = .ok (.istore_n 2, 1) := by decide +kernel
theorem dX6_readVersion_12 : decode cX6_readVersion 12 = .ok (.aload_n 0, 1) := by decide +kernel
theorem dX6_readVersion_13 : decode cX6_readVersion 13 = .ok (.iconst 0, 1) := by decide +kernel
theorem dX6_readVersion_14 : decode cX6_readVersion 14 = .ok (.aload_n 0, 1) := by decide +kernel
theorem dX6_readVersion_15 : decode cX6_readVersion 15 = .ok (.getfield 66, 3) := by decide +kernel
theorem dX6_readVersion_18 : decode cX6_readVersion 18 = .ok (.iconst 1, 1) := by decide +kernel
theorem dX6_readVersion_19 : decode cX6_readVersion 19 = .ok (.isub, 1) := by decide +kernel
theorem dX6_readVersion_20 : decode cX6_readVersion 20 = .ok (.invokevirtual 60, 3) := by decide +kernel
theorem dX6_readVersion_23 : decode cX6_readVersion 23 = .ok (.istore_n 3, 1) := by decide +kernel
theorem dX6_readVersion_24 : decode cX6_readVersion 24 = .ok (.aload_n 0, 1) := by decide +kernel
theorem dX6_readVersion_25 : decode cX6_readVersion 25 = .ok (.iconst 0, 1) := by decide +kernel
theorem dX6_readVersion_26 : decode cX6_readVersion 26 = .ok (.iconst 3, 1) := by decide +kernel
theorem dX6_readVersion_27 : decode cX6_readVersion 27 = .ok (.invokevirtual 60, 3) := by decide +kernel
theorem dX6_readVersion_30 : decode cX6_readVersion 30 = .ok (.istore 4, 2) := by decide +kernel
theorem dX6_readVersion_32 : decode cX6_readVersion 32 = .ok (.aload_n 1, 1) := by decide +kernel
theorem dX6_readVersion_33 : decode cX6_readVersion 33 = .ok (.iload_n 2, 1) := by decide +kernel
theorem dX6_readVersion_34 : decode cX6_readVersion 34 = .ok (.aload_n 1, 1) := by decide +kernel
theorem dX6_readVersion_35 : decode cX6_readVersion 35 = .ok (.iload_n 2, 1) := by decide +kernel
theorem dX6_readVersion_36 : decode cX6_readVersion 36 = .ok (.iaload, 1) := by decide +kernel
theorem dX6_readVersion_37 : decode cX6_readVersion 37 = .ok (.iload_n 3, 1) := by decide +kernel
theorem dX6_readVersion_38 : decode cX6_readVersion 38 = .ok (.iload 4, 2) := by decide +kernel
theorem dX6_readVersion_40 : decode cX6_readVersion 40 = .ok (.invokestatic 98, 3) := by decide +kernel
theorem dX6_readVersion_43 : decode cX6_readVersion 43 = .ok (.iastore, 1) := by decide +kernel
theorem dX6_readVersion_44 : decode cX6_readVersion 44 = .ok (.return_, 1) := by decide +kernel
theorem dX6_readLetter_0 : decode cX6_readLetter 0 = .ok (.aload_n 0, 1) := by decide +kernel
theorem dX6_readLetter_1 : decode cX6_readLetter 1 = .ok (.getfield 43, 3) := by decide +kernel
theorem dX6_readLetter_4 : decode cX6_readLetter 4 = .ok (.aload_n 0, 1) := by decide +kernel
theorem dX6_readLetter_5 : decode cX6_readLetter 5 = .ok (.getfield 39, 3) := by decide +kernel
theorem dX6_readLetter_8 : decode cX6_readLetter 8 = .ok (.if_icmp .ge 29, 3) := by decide +kernel
theorem dX6_readLetter_11 : decode cX6_readLetter 11 = .ok (.aload_n 0, 1) := by decide +kernel
theorem dX6_readLetter_12 : decode cX6_readLetter 12 = .ok (.getfield 29, 3) := by decide +kernel
theorem dX6_readLetter_15 : decode cX6_readLetter 15 = .ok (.aload_n 0, 1) := by decide +kernel
theorem dX6_readLetter_16 : decode cX6_readLetter 16 = .ok (.getfield 43, 3) := by decide +kernel
theorem dX6_readLetter_19 : decode cX6_readLetter 19 = .ok (.caload, 1) := by decide +kernel
theorem dX6_readLetter_20 : decode cX6_readLetter 20 = .ok (.iload_n 1, 1) := by decide +kernel
theorem dX6_readLetter_21 : decode cX6_readLetter 21 = .ok (.if_icmp .ne 16, 3) := by decide +kernel
theorem dX6_readLetter_24 : decode cX6_readLetter 24 = .ok (.aload_n 0, 1) := by decide +kernel
theorem dX6_readLetter_25 : decode cX6_readLetter 25 = .ok (.dup, 1) := by decide +kernel
theorem dX6_readLetter_26 : decode cX6_readLetter 26 = .ok (.getfield 43, 3) := by decide +kernel
theorem dX6_readLetter_29 : decode cX6_readLetter 29 = .ok (.iconst 1, 1) := by decide +kernel
theorem dX6_readLetter_30 : decode cX6_readLetter 30 = .ok (.iadd, 1) := by decide +kernel
theorem dX6_readLetter_31 : decode cX6_readLetter 31 = .ok (.putfield 43, 3) := by decide +kernel
theorem dX6_readLetter_34 : decode cX6_readLetter 34 = .ok (.goto 8, 3) := by decide +kernel
theorem dX6_readLetter_37 : decode cX6_readLetter 37 = .ok (.aload_n 0, 1) := by decide +kernel
theorem dX6_readLetter_38 : decode cX6_readLetter 38 = .ok (.iconst 1, 1) := by decide +kernel
theorem dX6_readLetter_39 : decode cX6_readLetter 39 = .ok (.putfield 46, 3) := by decide +kernel
theorem dX6_readLetter_42 : decode cX6_readLetter 42 = .ok (.return_, 1) := by decide +kernel
theorem dX6_readDigit_0 : decode cX6_readDigit 0 = .ok (.aload_n 0, 1) := by decide +kernel
theorem dX6_readDigit_1 : decode cX6_readDigit 1 = .ok (.getfield 46, 3) := by decide +kernel
theorem dX6_readDigit_4 : decode cX6_readDigit 4 = .ok (.ifCond .ne 49, 3) := by decide +kernel
theorem dX6_readDigit_7 : decode cX6_readDigit 7 = .ok (.aload_n 0, 1) := by decide +kernel
theorem dX6_readDigit_8 : decode cX6_readDigit 8 = .ok (.getfield 43, 3) := by decide +kernel
theorem dX6_readDigit_11 : decode cX6_readDigit 11 = .ok (.aload_n 0, 1) := by decide +kernel
theorem dX6_readDigit_12 : decode cX6_readDigit 12 = .ok (.getfield 39, 3) := by decide +kernel
theorem dX6_readDigit_15 : decode cX6_readDigit 15 = .ok (.if_icmp .ge 38, 3) := by decide +kernel
theorem dX6_readDigit_18 : decode cX6_readDigit 18 = .ok (.aload_n 0, 1) := by decide +kernel
theorem dX6_readDigit_19 : decode cX6_readDigit 19 = .ok (.getfield 29, 3) := by decide +kernel
theorem dX6_readDigit_22 : decode cX6_readDigit 22 = .ok (.aload_n 0, 1) := by decide +kernel
theorem dX6_readDigit_23 : decode cX6_readDigit 23 = .ok (.getfield 43, 3) := by decide +kernel
theorem dX6_readDigit_26 : decode cX6_readDigit 26 = .ok (.caload, 1) := by decide +kernel
theorem dX6_readDigit_27 : decode cX6_readDigit 27 = .ok (.bipush 48, 2) := by decide +kernel
theorem dX6_readDigit_29 : decode cX6_readDigit 29 = .ok (.isub, 1) := by decide +kernel
theorem dX6_readDigit_30 : decode cX6_readDigit 30 = .ok (.istore_n 3, 1) := by decide +kernel
theorem dX6_readDigit_31 : decode cX6_readDigit 31 = .ok (.iload_n 3, 1) := by decide +kernel
theorem dX6_readDigit_32 : decode cX6_readDigit 32 = .ok (.iload_n 1, 1) := by decide +kernel
theorem dX6_readDigit_33 : decode cX6_readDigit 33 = .ok (.if_icmp .lt 20, 3) := by decide +kernel
theorem dX6_readDigit_36 : decode cX6_readDigit 36 = .ok (.iload_n 3, 1) := by decide +kernel
theorem dX6_readDigit_37 : decode cX6_readDigit 37 = .ok (.iload_n 2, 1) := by decide +kernel
theorem dX6_readDigit_38 : decode cX6_readDigit 38 = .ok (.if_icmp .gt 15, 3) := by decide +kernel
theorem dX6_readDigit_41 : decode cX6_readDigit 41 = .ok (.aload_n 0, 1) := by decide +kernel
theorem dX6_readDigit_42 : decode cX6_readDigit 42 = .ok (.dup, 1) := by decide +kernel
theorem dX6_readDigit_43 : decode cX6_readDigit 43 = .ok (.getfield 43, 3) := by decide +kernel
theorem dX6_readDigit_46 : decode cX6_readDigit 46 = .ok (.iconst 1, 1) := by decide +kernel
theorem dX6_readDigit_47 : decode cX6_readDigit 47 = .ok (.iadd, 1) := by decide +kernel
theorem dX6_readDigit_48 : decode cX6_readDigit 48 = .ok (.putfield 43, 3) := by decide +kernel
theorem dX6_readDigit_51 : decode cX6_readDigit 51 = .ok (.iload_n 3, 1) := by decide +kernel
theorem dX6_readDigit_52 : decode cX6_readDigit 52 = .ok (.ireturn, 1) := by decide +kernel
theorem dX6_readDigit_53 : decode cX6_readDigit 53 = .ok (.aload_n 0, 1) := by decide +kernel
theorem dX6_readDigit_54 : decode cX6_readDigit 54 = .ok (.iconst 1, 1) := by decide +kernel
theorem dX6_readDigit_55 : decode cX6_readDigit 55 = .ok (.putfield 46, 3) := by decide +kernel
theorem dX6_readDigit_58 : decode cX6_readDigit 58 = .ok (.iload_n 1, 1) := by decide +kernel
theorem dX6_readDigit_59 : decode cX6_readDigit 59 = .ok (.ireturn, 1) := by decide +kernel
theorem dX6_readDigitBut_0 : decode cX6_readDigitBut 0 = .ok (.aload_n 0, 1) := by decide +kernel
theorem dX6_readDigitBut_1 : decode cX6_readDigitBut 1 = .ok (.getfield 43, 3) := by decide +kernel
theorem dX6_readDigitBut_4 : decode cX6_readDigitBut 4 = .ok (.aload_n 0, 1) := by decide +kernel
theorem dX6_readDigitBut_5 : decode cX6_readDigitBut 5 = .ok (.getfield 39, 3) := by decide +kernel
theorem dX6_readDigitBut_8 : decode cX6_readDigitBut 8 = .ok (.if_icmp .ge 24, 3) := by decide +kernel
theorem dX6_readDigitBut_11 : decode cX6_readDigitBut 11 = .ok (.aload_n 0, 1) := by decide +kernel
theorem dX6_readDigitBut_12 : decode cX6_readDigitBut 12 = .ok (.getfield 29, 3) := by decide +kernel
theorem dX6_readDigitBut_15 : decode cX6_readDigitBut 15 = .ok (.aload_n 0, 1) := by decide +kernel
theorem dX6_readDigitBut_16 : decode cX6_readDigitBut 16 = .ok (.getfield 43, 3) := by decide +kernel
theorem dX6_readDigitBut_19 : decode cX6_readDigitBut 19 = .ok (.caload, 1) := by decide +kernel
theorem dX6_readDigitBut_20 : decode cX6_readDigitBut 20 = .ok (.bipush 48, 2) := by decide +kernel
theorem dX6_readDigitBut_22 : decode cX6_readDigitBut 22 = .ok (.isub, 1) := by decide +kernel
theorem dX6_readDigitBut_23 : decode cX6_readDigitBut 23 = .ok (.iload_n 1, 1) := by decide +kernel
theorem dX6_readDigitBut_24 : decode cX6_readDigitBut 24 = .ok (.if_icmp .ne 8, 3) := by decide +kernel
theorem dX6_readDigitBut_27 : decode cX6_readDigitBut 27 = .ok (.aload_n 0, 1) := by decide +kernel
theorem dX6_readDigitBut_28 : decode cX6_readDigitBut 28 = .ok (.iconst 1, 1) := by decide +kernel
theorem dX6_readDigitBut_29 : decode cX6_readDigitBut 29 = .ok (.putfield 46, 3) := by decide +kernel
theorem dX6_readDigitBut_32 : decode cX6_readDigitBut 32 = .ok (.aload_n 0, 1) := by decide +kernel
theorem dX6_readDigitBut_33 : decode cX6_readDigitBut 33 = .ok (.iconst 0, 1) := by decide +kernel
theorem dX6_readDigitBut_34 : decode cX6_readDigitBut 34 = .ok (.iload_n 2, 1) := by decide +kernel
theorem dX6_readDigitBut_35 : decode cX6_readDigitBut 35 = .ok (.invokevirtual 60, 3) := by decide +kernel
theorem dX6_readDigitBut_38 : decode cX6_readDigitBut 38 = .ok (.ireturn, 1) := by decide +kernel
theorem dX7_init_0 : decode cX7_init 0 = .ok (.aload_n 0, 1) := by decide +kernel
theorem dX7_init_1 : decode cX7_init 1 = .ok (.invokespecial 3, 3) := by decide +kernel
theorem dX7_init_4 : decode cX7_init 4 = .ok (.aload_n 0, 1) := by decide +kernel
theorem dX7_init_5 : decode cX7_init 5 = .ok (.sipush 4096, 3) := by decide +kernel
theorem dX7_init_8 : decode cX7_init 8 = .ok (.newarray .int, 2) := by decide +kernel
theorem dX7_init_10 : decode cX7_init 10 = .ok (.putfield 9, 3) := by decide +kernel
theorem dX7_init_13 : decode cX7_init 13 = .ok (.aload_n 0, 1) := by decide +kernel
theorem dX7_init_14 : decode cX7_init 14 = .ok (.sipush 4096, 3) := by decide +kernel
theorem dX7_init_17 : decode cX7_init 17 = .ok (.newarray .int, 2) := by decide +kernel
theorem dX7_init_19 : decode cX7_init 19 = .ok (.putfield 15, 3) := by decide +kernel
theorem dX7_init_22 : decode cX7_init 22 = .ok (.aload_n 0, 1) := by decide +kernel
theorem dX7_init_23 : decode cX7_init 23 = .ok (.iconst (-1), 1) := by decide +kernel
theorem dX7_init_24 : decode cX7_init 24 = .ok (.putfield 18, 3) := by decide +kernel
theorem dX7_init_27 : decode cX7_init 27 = .ok (.aload_n 0, 1) := by decide +kernel
theorem dX7_init_28 : decode cX7_init 28 = .ok (.aload_n 1, 1) := by decide +kernel
theorem dX7_init_29 : decode cX7_init 29 = .ok (.putfield 22, 3) := by decide +kernel
theorem dX7_init_32 : decode cX7_init 32 = .ok (.return_, 1) := by decide +kernel
theorem dX7_forget_0 : decode cX7_forget 0 = .ok (.aload_n 0, 1) := by decide +kernel
theorem dX7_forget_1 : decode cX7_forget 1 = .ok (.iconst (-1), 1) := by decide +kernel
theorem dX7_forget_2 : decode cX7_forget 2 = .ok (.putfield 18, 3) := by decide +kernel
theorem dX7_forget_5 : decode cX7_forget 5 = .ok (.return_, 1) := by decide +kernel
theorem dX7_distance_0 : decode cX7_distance 0 = .ok (.aload_n 0, 1) := by decide +kernel
theorem dX7_distance_1 : decode cX7_distance 1 = .ok (.getfield 18, 3) := by decide +kernel
theorem dX7_distance_4 : decode cX7_distance 4 = .ok (.iload_n 2, 1) := by decide +kernel
theorem dX7_distance_5 : decode cX7_distance 5 = .ok (.if_icmp .eq 8, 3) := by decide +kernel
theorem dX7_distance_8 : decode cX7_distance 8 = .ok (.aload_n 0, 1) := by decide +kernel
theorem dX7_distance_9 : decode cX7_distance 9 = .ok (.iload_n 2, 1) := by decide +kernel
theorem dX7_distance_10 : decode cX7_distance 10 = .ok (.invokevirtual 26, 3) := by decide +kernel
theorem dX7_distance_13 : decode cX7_distance 13 = .ok (.iconst 0, 1) := by decide +kernel
theorem dX7_distance_14 : decode cX7_distance 14 = .ok (.istore_n 3, 1) := by decide +kernel
theorem dX7_distance_15 : decode cX7_distance 15 = .ok (.iload_n 3, 1) := by decide +kernel
theorem dX7_distance_16 : decode cX7_distance 16 = .ok (.sipush 4096, 3) := by decide +kernel
theorem dX7_distance_19 : decode cX7_distance 19 = .ok (.if_icmp .ge 53, 3) := by decide +kernel
theorem dX7_distance_22 : decode cX7_distance 22 = .ok (.aload_n 0, 1) := by decide +kernel
theorem dX7_distance_23 : decode cX7_distance 23 = .ok (.getfield 30, 3) := by decide +kernel
theorem dX7_distance_26 : decode cX7_distance 26 = .ok (.aload_n 0, 1) := by decide +kernel
theorem dX7_distance_27 : decode cX7_distance 27 = .ok (.getfield 33, 3) := by decide +kernel
theorem dX7_distance_30 : decode cX7_distance 30 = .ok (.if_icmp .ge 42, 3) := by decide +kernel
theorem dX7_distance_33 : decode cX7_distance 33 = .ok (.aload_n 0, 1) := by decide +kernel
theorem dX7_distance_34 : decode cX7_distance 34 = .ok (.iload_n 1, 1) := by decide +kernel
theorem dX7_distance_35 : decode cX7_distance 35 = .ok (.invokevirtual 36, 3) := by decide +kernel
theorem dX7_distance_38 : decode cX7_distance 38 = .ok (.bipush (-9), 2) := by decide +kernel
theorem dX7_distance_40 : decode cX7_distance 40 = .ok (.if_icmp .ne 32, 3) := by decide +kernel
theorem dX7_distance_43 : decode cX7_distance 43 = .ok (.aload_n 0, 1) := by decide +kernel
theorem dX7_distance_44 : decode cX7_distance 44 = .ok (.aload_n 0, 1) := by decide +kernel
theorem dX7_distance_45 : decode cX7_distance 45 = .ok (.getfield 15, 3) := by decide +kernel
theorem dX7_distance_48 : decode cX7_distance 48 = .ok (.aload_n 0, 1) := by decide +kernel
theorem dX7_distance_49 : decode cX7_distance 49 = .ok (.getfield 30, 3) := by decide +kernel
theorem dX7_distance_52 : decode cX7_distance 52 = .ok (.iaload, 1) := by decide +kernel
theorem dX7_distance_53 : decode cX7_distance 53 = .ok (.invokevirtual 40, 3) := by decide +kernel
theorem dX7_distance_56 : decode cX7_distance 56 = .ok (.aload_n 0, 1) := by decide +kernel
theorem dX7_distance_57 : decode cX7_distance 57 = .ok (.dup, 1) := by decide +kernel
theorem dX7_distance_58 : decode cX7_distance 58 = .ok (.getfield 30, 3) := by decide +kernel
theorem dX7_distance_61 : decode cX7_distance 61 = .ok (.iconst 1, 1) := by decide +kernel
theorem dX7_distance_62 : decode cX7_distance 62 = .ok (.iadd, 1) := by decide +kernel
theorem dX7_distance_63 : decode cX7_distance 63 = .ok (.putfield 30, 3) := by decide +kernel
theorem dX7_distance_66 : decode cX7_distance 66 = .ok (.iinc 3 1, 3) := by decide +kernel
theorem dX7_distance_69 : decode cX7_distance 69 = .ok (.goto (-54), 3) := by decide +kernel
theorem dX7_distance_72 : decode cX7_distance 72 = .ok (.aload_n 0, 1) := by decide +kernel
theorem dX7_distance_73 : decode cX7_distance 73 = .ok (.iload_n 1, 1) := by decide +kernel
theorem dX7_distance_74 : decode cX7_distance 74 = .ok (.invokevirtual 36, 3) := by decide +kernel
theorem dX7_distance_77 : decode cX7_distance 77 = .ok (.ireturn, 1) := by decide +kernel
theorem dX7_aimAt_0 : decode cX7_aimAt 0 = .ok (.aload_n 0, 1) := by decide +kernel
theorem dX7_aimAt_1 : decode cX7_aimAt 1 = .ok (.iload_n 1, 1) := by decide +kernel
theorem dX7_aimAt_2 : decode cX7_aimAt 2 = .ok (.putfield 18, 3) := by decide +kernel
theorem dX7_aimAt_5 : decode cX7_aimAt 5 = .ok (.aload_n 0, 1) := by decide +kernel
theorem dX7_aimAt_6 : decode cX7_aimAt 6 = .ok (.getfield 9, 3) := by decide +kernel
theorem dX7_aimAt_9 : decode cX7_aimAt 9 = .ok (.bipush (-9), 2) := by decide +kernel
theorem dX7_aimAt_11 : decode cX7_aimAt 11 = .ok (.invokestatic 43, 3) := by decide +kernel
theorem dX7_aimAt_14 : decode cX7_aimAt 14 = .ok (.aload_n 0, 1) := by decide +kernel
theorem dX7_aimAt_15 : decode cX7_aimAt 15 = .ok (.iconst 0, 1) := by decide +kernel
theorem dX7_aimAt_16 : decode cX7_aimAt 16 = .ok (.putfield 30, 3) := by decide +kernel
theorem dX7_aimAt_19 : decode cX7_aimAt 19 = .ok (.aload_n 0, 1) := by decide +kernel
theorem dX7_aimAt_20 : decode cX7_aimAt 20 = .ok (.iconst 0, 1) := by decide +kernel
theorem dX7_aimAt_21 : decode cX7_aimAt 21 = .ok (.putfield 33, 3) := by decide +kernel
theorem dX7_aimAt_24 : decode cX7_aimAt 24 = .ok (.aload_n 0, 1) := by decide +kernel
theorem dX7_aimAt_25 : decode cX7_aimAt 25 = .ok (.iload_n 1, 1) := by decide +kernel
theorem dX7_aimAt_26 : decode cX7_aimAt 26 = .ok (.iconst 0, 1) := by decide +kernel
theorem dX7_aimAt_27 : decode cX7_aimAt 27 = .ok (.invokevirtual 49, 3) := by decide +kernel
theorem dX7_aimAt_30 : decode cX7_aimAt 30 = .ok (.return_, 1) := by decide +kernel
theorem dX7_distanceOf_0 : decode cX7_distanceOf 0 = .ok (.aload_n 0, 1) := by decide +kernel
theorem dX7_distanceOf_1 : decode cX7_distanceOf 1 = .ok (.getfield 9, 3) := by decide +kernel
theorem dX7_distanceOf_4 : decode cX7_distanceOf 4 = .ok (.iload_n 1, 1) := by decide +kernel
theorem dX7_distanceOf_5 : decode cX7_distanceOf 5 = .ok (.sipush 4095, 3) := by decide +kernel
theorem dX7_distanceOf_8 : decode cX7_distanceOf 8 = .ok (.iand, 1) := by decide +kernel
theorem dX7_distanceOf_9 : decode cX7_distanceOf 9 = .ok (.iaload, 1) := by decide +kernel
theorem dX7_distanceOf_10 : decode cX7_distanceOf 10 = .ok (.ireturn, 1) := by decide +kernel
theorem dX7_enqueue_0 : decode cX7_enqueue 0 = .ok (.aload_n 0, 1) := by decide +kernel
theorem dX7_enqueue_1 : decode cX7_enqueue 1 = .ok (.getfield 33, 3) := by decide +kernel
theorem dX7_enqueue_4 : decode cX7_enqueue 4 = .ok (.sipush 4096, 3) := by decide +kernel
theorem dX7_enqueue_7 : decode cX7_enqueue 7 = .ok (.if_icmp .ge 34, 3) := by decide +kernel
theorem dX7_enqueue_10 : decode cX7_enqueue 10 = .ok (.aload_n 0, 1) := by decide +kernel
theorem dX7_enqueue_11 : decode cX7_enqueue 11 = .ok (.getfield 9, 3) := by decide +kernel
theorem dX7_enqueue_14 : decode cX7_enqueue 14 = .ok (.iload_n 1, 1) := by decide +kernel
theorem dX7_enqueue_15 : decode cX7_enqueue 15 = .ok (.sipush 4095, 3) := by decide +kernel
theorem dX7_enqueue_18 : decode cX7_enqueue 18 = .ok (.iand, 1) := by decide +kernel
theorem dX7_enqueue_19 : decode cX7_enqueue 19 = .ok (.iload_n 2, 1) := by decide +kernel
theorem dX7_enqueue_20 : decode cX7_enqueue 20 = .ok (.iastore, 1) := by decide +kernel
theorem dX7_enqueue_21 : decode cX7_enqueue 21 = .ok (.aload_n 0, 1) := by decide +kernel
theorem dX7_enqueue_22 : decode cX7_enqueue 22 = .ok (.getfield 15, 3) := by decide +kernel
theorem dX7_enqueue_25 : decode cX7_enqueue 25 = .ok (.aload_n 0, 1) := by decide +kernel
theorem dX7_enqueue_26 : decode cX7_enqueue 26 = .ok (.getfield 33, 3) := by decide +kernel
theorem dX7_enqueue_29 : decode cX7_enqueue 29 = .ok (.iload_n 1, 1) := by decide +kernel
theorem dX7_enqueue_30 : decode cX7_enqueue 30 = .ok (.iastore, 1) := by decide +kernel
theorem dX7_enqueue_31 : decode cX7_enqueue 31 = .ok (.aload_n 0, 1) := by decide +kernel
theorem dX7_enqueue_32 : decode cX7_enqueue 32 = .ok (.dup, 1) := by decide +kernel
theorem dX7_enqueue_33 : decode cX7_enqueue 33 = .ok (.getfield 33, 3) := by decide +kernel
theorem dX7_enqueue_36 : decode cX7_enqueue 36 = .ok (.iconst 1, 1) := by decide +kernel
theorem dX7_enqueue_37 : decode cX7_enqueue 37 = .ok (.iadd, 1) := by decide +kernel
theorem dX7_enqueue_38 : decode cX7_enqueue 38 = .ok (.putfield 33, 3) := by decide +kernel
theorem dX7_enqueue_41 : decode cX7_enqueue 41 = .ok (.return_, 1) := by decide +kernel
theorem dX7_reachFrom_0 : decode cX7_reachFrom 0 = .ok (.aload_n 0, 1) := by decide +kernel
theorem dX7_reachFrom_1 : decode cX7_reachFrom 1 = .ok (.iload_n 1, 1) := by decide +kernel
theorem dX7_reachFrom_2 : decode cX7_reachFrom 2 = .ok (.invokevirtual 36, 3) := by decide +kernel
theorem dX7_reachFrom_5 : decode cX7_reachFrom 5 = .ok (.iconst 1, 1) := by decide +kernel
theorem dX7_reachFrom_6 : decode cX7_reachFrom 6 = .ok (.iadd, 1) := by decide +kernel
theorem dX7_reachFrom_7 : decode cX7_reachFrom 7 = .ok (.istore_n 2, 1) := by decide +kernel
theorem dX7_reachFrom_8 : decode cX7_reachFrom 8 = .ok (.iconst 0, 1) := by decide +kernel
theorem dX7_reachFrom_9 : decode cX7_reachFrom 9 = .ok (.istore_n 3, 1) := by decide +kernel
theorem dX7_reachFrom_10 : decode cX7_reachFrom 10 = .ok (.iload_n 3, 1) := by decide +kernel
theorem dX7_reachFrom_11 : decode cX7_reachFrom 11 = .ok (.aload_n 0, 1) := by decide +kernel
theorem dX7_reachFrom_12 : decode cX7_reachFrom 12 = .ok (.getfield 22, 3) := by decide +kernel
theorem dX7_reachFrom_15 : decode cX7_reachFrom 15 = .ok (.getfield 53, 3) := by decide +kernel
theorem dX7_reachFrom_18 : decode cX7_reachFrom 18 = .ok (.if_icmp .ge 68, 3) := by decide +kernel
theorem dX7_reachFrom_21 : decode cX7_reachFrom 21 = .ok (.iconst 1, 1) := by decide +kernel
theorem dX7_reachFrom_22 : decode cX7_reachFrom 22 = .ok (.istore 4, 2) := by decide +kernel
theorem dX7_reachFrom_24 : decode cX7_reachFrom 24 = .ok (.iload 4, 2) := by decide +kernel
theorem dX7_reachFrom_26 : decode cX7_reachFrom 26 = .ok (.iconst 4, 1) := by decide +kernel
theorem dX7_reachFrom_27 : decode cX7_reachFrom 27 = .ok (.if_icmp .ge 53, 3) := by decide +kernel
theorem dX7_reachFrom_30 : decode cX7_reachFrom 30 = .ok (.iload_n 1, 1) := by decide +kernel
theorem dX7_reachFrom_31 : decode cX7_reachFrom 31 = .ok (.iload 4, 2) := by decide +kernel
theorem dX7_reachFrom_33 : decode cX7_reachFrom 33 = .ok (.iconst 2, 1) := by decide +kernel
theorem dX7_reachFrom_34 : decode cX7_reachFrom 34 = .ok (.iload_n 3, 1) := by decide +kernel
theorem dX7_reachFrom_35 : decode cX7_reachFrom 35 = .ok (.imul, 1) := by decide +kernel
theorem dX7_reachFrom_36 : decode cX7_reachFrom 36 = .ok (.ishl, 1) := by decide +kernel
theorem dX7_reachFrom_37 : decode cX7_reachFrom 37 = .ok (.ixor, 1) := by decide +kernel
theorem dX7_reachFrom_38 : decode cX7_reachFrom 38 = .ok (.istore 5, 2) := by decide +kernel
theorem dX7_reachFrom_40 : decode cX7_reachFrom 40 = .ok (.aload_n 0, 1) := by decide +kernel
theorem dX7_reachFrom_41 : decode cX7_reachFrom 41 = .ok (.iload 5, 2) := by decide +kernel
theorem dX7_reachFrom_43 : decode cX7_reachFrom 43 = .ok (.invokevirtual 36, 3) := by decide +kernel
theorem dX7_reachFrom_46 : decode cX7_reachFrom 46 = .ok (.bipush (-9), 2) := by decide +kernel
theorem dX7_reachFrom_48 : decode cX7_reachFrom 48 = .ok (.if_icmp .ne 26, 3) := by decide +kernel
theorem dX7_reachFrom_51 : decode cX7_reachFrom 51 = .ok (.aload_n 0, 1) := by decide +kernel
theorem dX7_reachFrom_52 : decode cX7_reachFrom 52 = .ok (.getfield 22, 3) := by decide +kernel
theorem dX7_reachFrom_55 : decode cX7_reachFrom 55 = .ok (.getfield 58, 3) := by decide +kernel
theorem dX7_reachFrom_58 : decode cX7_reachFrom 58 = .ok (.iload 5, 2) := by decide +kernel
theorem dX7_reachFrom_60 : decode cX7_reachFrom 60 = .ok (.iload_n 1, 1) := by decide +kernel
theorem dX7_reachFrom_61 : decode cX7_reachFrom 61 = .ok (.invokevirtual 62, 3) := by decide +kernel
theorem dX7_reachFrom_64 : decode cX7_reachFrom 64 = .ok (.ifCond .ne 10, 3) := by decide +kernel
theorem dX7_reachFrom_67 : decode cX7_reachFrom 67 = .ok (.aload_n 0, 1) := by decide +kernel
theorem dX7_reachFrom_68 : decode cX7_reachFrom 68 = .ok (.iload 5, 2) := by decide +kernel
theorem dX7_reachFrom_70 : decode cX7_reachFrom 70 = .ok (.iload_n 2, 1) := by decide +kernel
theorem dX7_reachFrom_71 : decode cX7_reachFrom 71 = .ok (.invokevirtual 49, 3) := by decide +kernel
theorem dX7_reachFrom_74 : decode cX7_reachFrom 74 = .ok (.iinc 4 1, 3) := by decide +kernel
theorem dX7_reachFrom_77 : decode cX7_reachFrom 77 = .ok (.goto (-53), 3) := by decide +kernel
theorem dX7_reachFrom_80 : decode cX7_reachFrom 80 = .ok (.iinc 3 1, 3) := by decide +kernel
theorem dX7_reachFrom_83 : decode cX7_reachFrom 83 = .ok (.goto (-73), 3) := by decide +kernel
theorem dX7_reachFrom_86 : decode cX7_reachFrom 86 = .ok (.return_, 1) := by decide +kernel
theorem dX7_changeOfBest_0 : decode cX7_changeOfBest 0 = .ok (.iload_n 3, 1) := by decide +kernel
theorem dX7_changeOfBest_1 : decode cX7_changeOfBest 1 = .ok (.aload_n 0, 1) := by decide +kernel
theorem dX7_changeOfBest_2 : decode cX7_changeOfBest 2 = .ok (.iload_n 1, 1) := by decide +kernel
theorem dX7_changeOfBest_3 : decode cX7_changeOfBest 3 = .ok (.iload_n 2, 1) := by decide +kernel
theorem dX7_changeOfBest_4 : decode cX7_changeOfBest 4 = .ok (.invokevirtual 68, 3) := by decide +kernel
theorem dX7_changeOfBest_7 : decode cX7_changeOfBest 7 = .ok (.if_icmp .lt 6, 3) := by decide +kernel
theorem dX7_changeOfBest_10 : decode cX7_changeOfBest 10 = .ok (.bipush (-9), 2) := by decide +kernel
theorem dX7_changeOfBest_12 : decode cX7_changeOfBest 12 = .ok (.ireturn, 1) := by decide +kernel
theorem dX7_changeOfBest_13 : decode cX7_changeOfBest 13 = .ok (.iload_n 1, 1) := by decide +kernel
theorem dX7_changeOfBest_14 : decode cX7_changeOfBest 14 = .ok (.istore 4, 2) := by decide +kernel
theorem dX7_changeOfBest_16 : decode cX7_changeOfBest 16 = .ok (.iconst 0, 1) := by decide +kernel
theorem dX7_changeOfBest_17 : decode cX7_changeOfBest 17 = .ok (.istore 5, 2) := by decide +kernel
theorem dX7_changeOfBest_19 : decode cX7_changeOfBest 19 = .ok (.iload 5, 2) := by decide +kernel
theorem dX7_changeOfBest_21 : decode cX7_changeOfBest 21 = .ok (.iload_n 3, 1) := by decide +kernel
theorem dX7_changeOfBest_22 : decode cX7_changeOfBest 22 = .ok (.if_icmp .ge 22, 3) := by decide +kernel
theorem dX7_changeOfBest_25 : decode cX7_changeOfBest 25 = .ok (.iload 4, 2) := by decide +kernel
theorem dX7_changeOfBest_27 : decode cX7_changeOfBest 27 = .ok (.aload_n 0, 1) := by decide +kernel
theorem dX7_changeOfBest_28 : decode cX7_changeOfBest 28 = .ok (.iload 4, 2) := by decide +kernel
theorem dX7_changeOfBest_30 : decode cX7_changeOfBest 30 = .ok (.invokevirtual 71, 3) := by decide +kernel
theorem dX7_changeOfBest_33 : decode cX7_changeOfBest 33 = .ok (.invokestatic 74, 3) := by decide +kernel
theorem dX7_changeOfBest_36 : decode cX7_changeOfBest 36 = .ok (.istore 4, 2) := by decide +kernel
theorem dX7_changeOfBest_38 : decode cX7_changeOfBest 38 = .ok (.iinc 5 1, 3) := by decide +kernel
theorem dX7_changeOfBest_41 : decode cX7_changeOfBest 41 = .ok (.goto (-22), 3) := by decide +kernel
theorem dX7_changeOfBest_44 : decode cX7_changeOfBest 44 = .ok (.aload_n 0, 1) := by decide +kernel
theorem dX7_changeOfBest_45 : decode cX7_changeOfBest 45 = .ok (.iload 4, 2) := by decide +kernel
theorem dX7_changeOfBest_47 : decode cX7_changeOfBest 47 = .ok (.invokevirtual 71, 3) := by decide +kernel
theorem dX7_changeOfBest_50 : decode cX7_changeOfBest 50 = .ok (.ireturn, 1) := by decide +kernel
theorem dX7_afterChange_0 : decode cX7_afterChange 0 = .ok (.iload_n 0, 1) := by decide +kernel
theorem dX7_afterChange_1 : decode cX7_afterChange 1 = .ok (.iload_n 1, 1) := by decide +kernel
theorem dX7_afterChange_2 : decode cX7_afterChange 2 = .ok (.iconst 2, 1) := by decide +kernel
theorem dX7_afterChange_3 : decode cX7_afterChange 3 = .ok (.ishr, 1) := by decide +kernel
theorem dX7_afterChange_4 : decode cX7_afterChange 4 = .ok (.iload_n 1, 1) := by decide +kernel
theorem dX7_afterChange_5 : decode cX7_afterChange 5 = .ok (.iconst 3, 1) := by decide +kernel
theorem dX7_afterChange_6 : decode cX7_afterChange 6 = .ok (.iand, 1) := by decide +kernel
theorem dX7_afterChange_7 : decode cX7_afterChange 7 = .ok (.invokestatic 77, 3) := by decide +kernel
theorem dX7_afterChange_10 : decode cX7_afterChange 10 = .ok (.ireturn, 1) := by decide +kernel
theorem dX7_bestChange_0 : decode cX7_bestChange 0 = .ok (.aload_n 0, 1) := by decide +kernel
theorem dX7_bestChange_1 : decode cX7_bestChange 1 = .ok (.iload_n 1, 1) := by decide +kernel
theorem dX7_bestChange_2 : decode cX7_bestChange 2 = .ok (.invokevirtual 36, 3) := by decide +kernel
theorem dX7_bestChange_5 : decode cX7_bestChange 5 = .ok (.iconst 1, 1) := by decide +kernel
theorem dX7_bestChange_6 : decode cX7_bestChange 6 = .ok (.isub, 1) := by decide +kernel
theorem dX7_bestChange_7 : decode cX7_bestChange 7 = .ok (.istore_n 2, 1) := by decide +kernel
theorem dX7_bestChange_8 : decode cX7_bestChange 8 = .ok (.iconst 0, 1) := by decide +kernel
theorem dX7_bestChange_9 : decode cX7_bestChange 9 = .ok (.istore_n 3, 1) := by decide +kernel
theorem dX7_bestChange_10 : decode cX7_bestChange 10 = .ok (.iload_n 3, 1) := by decide +kernel
theorem dX7_bestChange_11 : decode cX7_bestChange 11 = .ok (.iconst 4, 1) := by decide +kernel
theorem dX7_bestChange_12 : decode cX7_bestChange 12 = .ok (.aload_n 0, 1) := by decide +kernel
theorem dX7_bestChange_13 : decode cX7_bestChange 13 = .ok (.getfield 22, 3) := by decide +kernel
theorem dX7_bestChange_16 : decode cX7_bestChange 16 = .ok (.getfield 53, 3) := by decide +kernel
theorem dX7_bestChange_19 : decode cX7_bestChange 19 = .ok (.imul, 1) := by decide +kernel
theorem dX7_bestChange_20 : decode cX7_bestChange 20 = .ok (.if_icmp .ge 44, 3) := by decide +kernel
theorem dX7_bestChange_23 : decode cX7_bestChange 23 = .ok (.iload_n 1, 1) := by decide +kernel
theorem dX7_bestChange_24 : decode cX7_bestChange 24 = .ok (.iload_n 3, 1) := by decide +kernel
theorem dX7_bestChange_25 : decode cX7_bestChange 25 = .ok (.invokestatic 74, 3) := by decide +kernel
theorem dX7_bestChange_28 : decode cX7_bestChange 28 = .ok (.istore 4, 2) := by decide +kernel
theorem dX7_bestChange_30 : decode cX7_bestChange 30 = .ok (.aload_n 0, 1) := by decide +kernel
theorem dX7_bestChange_31 : decode cX7_bestChange 31 = .ok (.iload 4, 2) := by decide +kernel
theorem dX7_bestChange_33 : decode cX7_bestChange 33 = .ok (.invokevirtual 36, 3) := by decide +kernel
theorem dX7_bestChange_36 : decode cX7_bestChange 36 = .ok (.iload_n 2, 1) := by decide +kernel
theorem dX7_bestChange_37 : decode cX7_bestChange 37 = .ok (.if_icmp .ne 21, 3) := by decide +kernel
theorem dX7_bestChange_40 : decode cX7_bestChange 40 = .ok (.aload_n 0, 1) := by decide +kernel
theorem dX7_bestChange_41 : decode cX7_bestChange 41 = .ok (.getfield 22, 3) := by decide +kernel
theorem dX7_bestChange_44 : decode cX7_bestChange 44 = .ok (.getfield 58, 3) := by decide +kernel
theorem dX7_bestChange_47 : decode cX7_bestChange 47 = .ok (.iload_n 1, 1) := by decide +kernel
theorem dX7_bestChange_48 : decode cX7_bestChange 48 = .ok (.iload 4, 2) := by decide +kernel
theorem dX7_bestChange_50 : decode cX7_bestChange 50 = .ok (.invokevirtual 62, 3) := by decide +kernel
theorem dX7_bestChange_53 : decode cX7_bestChange 53 = .ok (.ifCond .ne 5, 3) := by decide +kernel
theorem dX7_bestChange_56 : decode cX7_bestChange 56 = .ok (.iload_n 3, 1) := by decide +kernel
theorem dX7_bestChange_57 : decode cX7_bestChange 57 = .ok (.ireturn, 1) := by decide +kernel
theorem dX7_bestChange_58 : decode cX7_bestChange 58 = .ok (.iinc 3 1, 3) := by decide +kernel
theorem dX7_bestChange_61 : decode cX7_bestChange 61 = .ok (.goto (-51), 3) := by decide +kernel
theorem dX7_bestChange_64 : decode cX7_bestChange 64 = .ok (.iconst 0, 1) := by decide +kernel
theorem dX7_bestChange_65 : decode cX7_bestChange 65 = .ok (.ireturn, 1) := by decide +kernel
theorem dX8_init_0 : decode cX8_init 0 = .ok (.aload_n 0, 1) := by decide +kernel
theorem dX8_init_1 : decode cX8_init 1 = .ok (.invokespecial 3, 3) := by decide +kernel
theorem dX8_init_4 : decode cX8_init 4 = .ok (.aload_n 0, 1) := by decide +kernel
theorem dX8_init_5 : decode cX8_init 5 = .ok (.sipush 160, 3) := by decide +kernel
theorem dX8_init_8 : decode cX8_init 8 = .ok (.newarray .char, 2) := by decide +kernel
theorem dX8_init_10 : decode cX8_init 10 = .ok (.putfield 9, 3) := by decide +kernel
theorem dX8_init_13 : decode cX8_init 13 = .ok (.aload_n 0, 1) := by decide +kernel
theorem dX8_init_14 : decode cX8_init 14 = .ok (.new 13, 3) := by decide +kernel
theorem dX8_init_17 : decode cX8_init 17 = .ok (.dup, 1) := by decide +kernel
theorem dX8_init_18 : decode cX8_init 18 = .ok (.aload_n 0, 1) := by decide +kernel
theorem dX8_init_19 : decode cX8_init 19 = .ok (.getfield 9, 3) := by decide +kernel
theorem dX8_init_22 : decode cX8_init 22 = .ok (.invokespecial 15, 3) := by decide +kernel
theorem dX8_init_25 : decode cX8_init 25 = .ok (.putfield 18, 3) := by decide +kernel
theorem dX8_init_28 : decode cX8_init 28 = .ok (.aload_n 0, 1) := by decide +kernel
theorem dX8_init_29 : decode cX8_init 29 = .ok (.new 22, 3) := by decide +kernel
theorem dX8_init_32 : decode cX8_init 32 = .ok (.dup, 1) := by decide +kernel
theorem dX8_init_33 : decode cX8_init 33 = .ok (.invokespecial 24, 3) := by decide +kernel
theorem dX8_init_36 : decode cX8_init 36 = .ok (.putfield 25, 3) := by decide +kernel
theorem dX8_init_39 : decode cX8_init 39 = .ok (.aload_n 0, 1) := by decide +kernel
theorem dX8_init_40 : decode cX8_init 40 = .ok (.new 29, 3) := by decide +kernel
theorem dX8_init_43 : decode cX8_init 43 = .ok (.dup, 1) := by decide +kernel
theorem dX8_init_44 : decode cX8_init 44 = .ok (.aload_n 0, 1) := by decide +kernel
theorem dX8_init_45 : decode cX8_init 45 = .ok (.getfield 25, 3) := by decide +kernel
theorem dX8_init_48 : decode cX8_init 48 = .ok (.invokespecial 31, 3) := by decide +kernel
theorem dX8_init_51 : decode cX8_init 51 = .ok (.putfield 34, 3) := by decide +kernel
theorem dX8_init_54 : decode cX8_init 54 = .ok (.aload_n 0, 1) := by decide +kernel
theorem dX8_init_55 : decode cX8_init 55 = .ok (.new 38, 3) := by decide +kernel
theorem dX8_init_58 : decode cX8_init 58 = .ok (.dup, 1) := by decide +kernel
theorem dX8_init_59 : decode cX8_init 59 = .ok (.aload_n 0, 1) := by decide +kernel
theorem dX8_init_60 : decode cX8_init 60 = .ok (.getfield 25, 3) := by decide +kernel
theorem dX8_init_63 : decode cX8_init 63 = .ok (.invokespecial 40, 3) := by decide +kernel
theorem dX8_init_66 : decode cX8_init 66 = .ok (.putfield 41, 3) := by decide +kernel
theorem dX8_init_69 : decode cX8_init 69 = .ok (.aload_n 0, 1) := by decide +kernel
theorem dX8_init_70 : decode cX8_init 70 = .ok (.new 38, 3) := by decide +kernel
theorem dX8_init_73 : decode cX8_init 73 = .ok (.dup, 1) := by decide +kernel
theorem dX8_init_74 : decode cX8_init 74 = .ok (.aload_n 0, 1) := by decide +kernel
theorem dX8_init_75 : decode cX8_init 75 = .ok (.getfield 25, 3) := by decide +kernel
theorem dX8_init_78 : decode cX8_init 78 = .ok (.invokespecial 40, 3) := by decide +kernel
theorem dX8_init_81 : decode cX8_init 81 = .ok (.putfield 45, 3) := by decide +kernel
theorem dX8_init_84 : decode cX8_init 84 = .ok (.aload_n 0, 1) := by decide +kernel
theorem dX8_init_85 : decode cX8_init 85 = .ok (.new 48, 3) := by decide +kernel
theorem dX8_init_88 : decode cX8_init 88 = .ok (.dup, 1) := by decide +kernel
theorem dX8_init_89 : decode cX8_init 89 = .ok (.aload_n 0, 1) := by decide +kernel
theorem dX8_init_90 : decode cX8_init 90 = .ok (.getfield 25, 3) := by decide +kernel
theorem dX8_init_93 : decode cX8_init 93 = .ok (.invokespecial 50, 3) := by decide +kernel
theorem dX8_init_96 : decode cX8_init 96 = .ok (.putfield 51, 3) := by decide +kernel
theorem dX8_init_99 : decode cX8_init 99 = .ok (.aload_n 0, 1) := by decide +kernel
theorem dX8_init_100 : decode cX8_init 100 = .ok (.iconst 2, 1) := by decide +kernel
theorem dX8_init_101 : decode cX8_init 101 = .ok (.anewarray 38, 3) := by decide +kernel
theorem dX8_init_104 : decode cX8_init 104 = .ok (.putfield 55, 3) := by decide +kernel
theorem dX8_init_107 : decode cX8_init 107 = .ok (.aload_n 0, 1) := by decide +kernel
theorem dX8_init_108 : decode cX8_init 108 = .ok (.iconst 2, 1) := by decide +kernel
theorem dX8_init_109 : decode cX8_init 109 = .ok (.newarray .boolean, 2) := by decide +kernel
theorem dX8_init_111 : decode cX8_init 111 = .ok (.putfield 59, 3) := by decide +kernel
theorem dX8_init_114 : decode cX8_init 114 = .ok (.iconst 0, 1) := by decide +kernel
theorem dX8_init_115 : decode cX8_init 115 = .ok (.istore_n 1, 1) := by decide +kernel
theorem dX8_init_116 : decode cX8_init 116 = .ok (.iload_n 1, 1) := by decide +kernel
theorem dX8_init_117 : decode cX8_init 117 = .ok (.iconst 2, 1) := by decide +kernel
theorem dX8_init_118 : decode cX8_init 118 = .ok (.if_icmp .ge 26, 3) := by decide +kernel
theorem dX8_init_121 : decode cX8_init 121 = .ok (.aload_n 0, 1) := by decide +kernel
theorem dX8_init_122 : decode cX8_init 122 = .ok (.getfield 55, 3) := by decide +kernel
theorem dX8_init_125 : decode cX8_init 125 = .ok (.iload_n 1, 1) := by decide +kernel
theorem dX8_init_126 : decode cX8_init 126 = .ok (.new 38, 3) := by decide +kernel
theorem dX8_init_129 : decode cX8_init 129 = .ok (.dup, 1) := by decide +kernel
theorem dX8_init_130 : decode cX8_init 130 = .ok (.aload_n 0, 1) := by decide +kernel
theorem dX8_init_131 : decode cX8_init 131 = .ok (.getfield 25, 3) := by decide +kernel
theorem dX8_init_134 : decode cX8_init 134 = .ok (.invokespecial 40, 3) := by decide +kernel
theorem dX8_init_137 : decode cX8_init 137 = .ok (.aastore, 1) := by decide +kernel
theorem dX8_init_138 : decode cX8_init 138 = .ok (.iinc 1 1, 3) := by decide +kernel
theorem dX8_init_141 : decode cX8_init 141 = .ok (.goto (-25), 3) := by decide +kernel
theorem dX8_init_144 : decode cX8_init 144 = .ok (.return_, 1) := by decide +kernel
theorem dX8_append_0 : decode cX8_append 0 = .ok (.iload_n 1, 1) := by decide +kernel
theorem dX8_append_1 : decode cX8_append 1 = .ok (.iconst 0, 1) := by decide +kernel
theorem dX8_append_2 : decode cX8_append 2 = .ok (.sipush 255, 3) := by decide +kernel
theorem dX8_append_5 : decode cX8_append 5 = .ok (.invokestatic 63, 3) := by decide +kernel
theorem dX8_append_8 : decode cX8_append 8 = .ok (.aload_n 0, 1) := by decide +kernel
theorem dX8_append_9 : decode cX8_append 9 = .ok (.getfield 67, 3) := by decide +kernel
theorem dX8_append_12 : decode cX8_append 12 = .ok (.sipush 160, 3) := by decide +kernel
theorem dX8_append_15 : decode cX8_append 15 = .ok (.if_icmp .lt 13, 3) := by decide +kernel
theorem dX8_append_18 : decode cX8_append 18 = .ok (.new 71, 3) := by decide +kernel
theorem dX8_append_21 : decode cX8_append 21 = .ok (.dup, 1) := by decide +kernel
theorem dX8_append_22 : decode cX8_append 22 = .ok (.ldc 73, 2) := by decide +kernel
theorem dX8_append_24 : decode cX8_append 24 = .ok (.invokespecial 75, 3) := by decide +kernel
theorem dX8_append_27 : decode cX8_append 27 = .ok (.athrow, 1) := by decide +kernel
theorem dX8_append_28 : decode cX8_append 28 = .ok (.aload_n 0, 1) := by decide +kernel
theorem dX8_append_29 : decode cX8_append 29 = .ok (.getfield 9, 3) := by decide +kernel
theorem dX8_append_32 : decode cX8_append 32 = .ok (.aload_n 0, 1) := by decide +kernel
theorem dX8_append_33 : decode cX8_append 33 = .ok (.getfield 67, 3) := by decide +kernel
theorem dX8_append_36 : decode cX8_append 36 = .ok (.iload_n 1, 1) := by decide +kernel
theorem dX8_append_37 : decode cX8_append 37 = .ok (.i2c, 1) := by decide +kernel
theorem dX8_append_38 : decode cX8_append 38 = .ok (.castore, 1) := by decide +kernel
theorem dX8_append_39 : decode cX8_append 39 = .ok (.aload_n 0, 1) := by decide +kernel
theorem dX8_append_40 : decode cX8_append 40 = .ok (.dup, 1) := by decide +kernel
theorem dX8_append_41 : decode cX8_append 41 = .ok (.getfield 67, 3) := by decide +kernel
theorem dX8_append_44 : decode cX8_append 44 = .ok (.iconst 1, 1) := by decide +kernel
theorem dX8_append_45 : decode cX8_append 45 = .ok (.iadd, 1) := by decide +kernel
theorem dX8_append_46 : decode cX8_append 46 = .ok (.putfield 67, 3) := by decide +kernel
theorem dX8_append_49 : decode cX8_append 49 = .ok (.aload_n 0, 1) := by decide +kernel
theorem dX8_append_50 : decode cX8_append 50 = .ok (.getfield 67, 3) := by decide +kernel
theorem dX8_append_53 : decode cX8_append 53 = .ok (.ireturn, 1) := by decide +kernel
theorem dX8_clearText_0 : decode cX8_clearText 0 = .ok (.aload_n 0, 1) := by decide +kernel
theorem dX8_clearText_1 : decode cX8_clearText 1 = .ok (.getfield 67, 3) := by decide +kernel
theorem dX8_clearText_4 : decode cX8_clearText 4 = .ok (.istore_n 1, 1) := by decide +kernel
theorem dX8_clearText_5 : decode cX8_clearText 5 = .ok (.aload_n 0, 1) := by decide +kernel
theorem dX8_clearText_6 : decode cX8_clearText 6 = .ok (.iconst 0, 1) := by decide +kernel
theorem dX8_clearText_7 : decode cX8_clearText 7 = .ok (.putfield 67, 3) := by decide +kernel
theorem dX8_clearText_10 : decode cX8_clearText 10 = .ok (.iload_n 1, 1) := by decide +kernel
theorem dX8_clearText_11 : decode cX8_clearText 11 = .ok (.ireturn, 1) := by decide +kernel
theorem dX8_errorPosition_0 : decode cX8_errorPosition 0 = .ok (.aload_n 0, 1) := by decide +kernel
theorem dX8_errorPosition_1 : decode cX8_errorPosition 1 = .ok (.getfield 18, 3) := by decide +kernel
theorem dX8_errorPosition_4 : decode cX8_errorPosition 4 = .ok (.aload_n 0, 1) := by decide +kernel
theorem dX8_errorPosition_5 : decode cX8_errorPosition 5 = .ok (.getfield 67, 3) := by decide +kernel
theorem dX8_errorPosition_8 : decode cX8_errorPosition 8 = .ok (.invokevirtual 78, 3) := by decide +kernel
theorem dX8_errorPosition_11 : decode cX8_errorPosition 11 = .ok (.ireturn, 1) := by decide +kernel
theorem dX8_load_0 : decode cX8_load 0 = .ok (.aload_n 0, 1) := by decide +kernel
theorem dX8_load_1 : decode cX8_load 1 = .ok (.getfield 18, 3) := by decide +kernel
theorem dX8_load_4 : decode cX8_load 4 = .ok (.aload_n 0, 1) := by decide +kernel
theorem dX8_load_5 : decode cX8_load 5 = .ok (.getfield 67, 3) := by decide +kernel
theorem dX8_load_8 : decode cX8_load 8 = .ok (.invokevirtual 78, 3) := by decide +kernel
theorem dX8_load_11 : decode cX8_load 11 = .ok (.bipush (-9), 2) := by decide +kernel
theorem dX8_load_13 : decode cX8_load 13 = .ok (.if_icmp .eq 13, 3) := by decide +kernel
theorem dX8_load_16 : decode cX8_load 16 = .ok (.new 71, 3) := by decide +kernel
theorem dX8_load_19 : decode cX8_load 19 = .ok (.dup, 1) := by decide +kernel
theorem dX8_load_20 : decode cX8_load 20 = .ok (.ldc 82, 2) := by decide +kernel
theorem dX8_load_22 : decode cX8_load 22 = .ok (.invokespecial 75, 3) := by decide +kernel
theorem dX8_load_25 : decode cX8_load 25 = .ok (.athrow, 1) := by decide +kernel
theorem dX8_load_26 : decode cX8_load 26 = .ok (.aload_n 0, 1) := by decide +kernel
theorem dX8_load_27 : decode cX8_load 27 = .ok (.getfield 25, 3) := by decide +kernel
theorem dX8_load_30 : decode cX8_load 30 = .ok (.aload_n 0, 1) := by decide +kernel
theorem dX8_load_31 : decode cX8_load 31 = .ok (.getfield 18, 3) := by decide +kernel
theorem dX8_load_34 : decode cX8_load 34 = .ok (.invokevirtual 84, 3) := by decide +kernel
theorem dX8_load_37 : decode cX8_load 37 = .ok (.aload_n 0, 1) := by decide +kernel
theorem dX8_load_38 : decode cX8_load 38 = .ok (.getfield 41, 3) := by decide +kernel
theorem dX8_load_41 : decode cX8_load 41 = .ok (.aload_n 0, 1) := by decide +kernel
theorem dX8_load_42 : decode cX8_load 42 = .ok (.getfield 18, 3) := by decide +kernel
theorem dX8_load_45 : decode cX8_load 45 = .ok (.invokevirtual 88, 3) := by decide +kernel
theorem dX8_load_48 : decode cX8_load 48 = .ok (.aload_n 0, 1) := by decide +kernel
theorem dX8_load_49 : decode cX8_load 49 = .ok (.getfield 34, 3) := by decide +kernel
theorem dX8_load_52 : decode cX8_load 52 = .ok (.invokevirtual 89, 3) := by decide +kernel
theorem dX8_load_55 : decode cX8_load 55 = .ok (.aload_n 0, 1) := by decide +kernel
theorem dX8_load_56 : decode cX8_load 56 = .ok (.getfield 51, 3) := by decide +kernel
theorem dX8_load_59 : decode cX8_load 59 = .ok (.invokevirtual 92, 3) := by decide +kernel
theorem dX8_load_62 : decode cX8_load 62 = .ok (.iconst 0, 1) := by decide +kernel
theorem dX8_load_63 : decode cX8_load 63 = .ok (.istore_n 1, 1) := by decide +kernel
theorem dX8_load_64 : decode cX8_load 64 = .ok (.iload_n 1, 1) := by decide +kernel
theorem dX8_load_65 : decode cX8_load 65 = .ok (.iconst 2, 1) := by decide +kernel
theorem dX8_load_66 : decode cX8_load 66 = .ok (.if_icmp .ge 16, 3) := by decide +kernel
theorem dX8_load_69 : decode cX8_load 69 = .ok (.aload_n 0, 1) := by decide +kernel
theorem dX8_load_70 : decode cX8_load 70 = .ok (.getfield 59, 3) := by decide +kernel
theorem dX8_load_73 : decode cX8_load 73 = .ok (.iload_n 1, 1) := by decide +kernel
theorem dX8_load_74 : decode cX8_load 74 = .ok (.iconst 0, 1) := by decide +kernel
theorem dX8_load_75 : decode cX8_load 75 = .ok (.bastore, 1) := by decide +kernel
theorem dX8_load_76 : decode cX8_load 76 = .ok (.iinc 1 1, 3) := by decide +kernel
theorem dX8_load_79 : decode cX8_load 79 = .ok (.goto (-15), 3) := by decide +kernel
theorem dX8_load_82 : decode cX8_load 82 = .ok (.aload_n 0, 1) := by decide +kernel
theorem dX8_load_83 : decode cX8_load 83 = .ok (.getfield 25, 3) := by decide +kernel
theorem dX8_load_86 : decode cX8_load 86 = .ok (.getfield 93, 3) := by decide +kernel
theorem dX8_load_89 : decode cX8_load 89 = .ok (.getfield 97, 3) := by decide +kernel
theorem dX8_load_92 : decode cX8_load 92 = .ok (.ireturn, 1) := by decide +kernel
theorem dX8_about_0 : decode cX8_about 0 = .ok (.iload_n 1, 1) := by decide +kernel
theorem dX8_about_1 : decode cX8_about 1 = .ok (.tableswitch 114 0 7 #[47, 55, 63, 74, 82, 90, 98, 106], 47) := by decide +kernel
theorem dX8_about_48 : decode cX8_about 48 = .ok (.aload_n 0, 1) := by decide +kernel
theorem dX8_about_49 : decode cX8_about 49 = .ok (.getfield 25, 3) := by decide +kernel
theorem dX8_about_52 : decode cX8_about 52 = .ok (.getfield 102, 3) := by decide +kernel
theorem dX8_about_55 : decode cX8_about 55 = .ok (.ireturn, 1) := by decide +kernel
theorem dX8_about_56 : decode cX8_about 56 = .ok (.aload_n 0, 1) := by decide +kernel
theorem dX8_about_57 : decode cX8_about 57 = .ok (.getfield 25, 3) := by decide +kernel
theorem dX8_about_60 : decode cX8_about 60 = .ok (.getfield 105, 3) := by decide +kernel
theorem dX8_about_63 : decode cX8_about 63 = .ok (.ireturn, 1) := by decide +kernel
theorem dX8_about_64 : decode cX8_about 64 = .ok (.aload_n 0, 1) := by decide +kernel
theorem dX8_about_65 : decode cX8_about 65 = .ok (.getfield 25, 3) := by decide +kernel
theorem dX8_about_68 : decode cX8_about 68 = .ok (.getfield 93, 3) := by decide +kernel
theorem dX8_about_71 : decode cX8_about 71 = .ok (.getfield 97, 3) := by decide +kernel
theorem dX8_about_74 : decode cX8_about 74 = .ok (.ireturn, 1) := by decide +kernel
theorem dX8_about_75 : decode cX8_about 75 = .ok (.aload_n 0, 1) := by decide +kernel
theorem dX8_about_76 : decode cX8_about 76 = .ok (.getfield 25, 3) := by decide +kernel
theorem dX8_about_79 : decode cX8_about 79 = .ok (.getfield 108, 3) := by decide +kernel
theorem dX8_about_82 : decode cX8_about 82 = .ok (.ireturn, 1) := by decide +kernel
theorem dX8_about_83 : decode cX8_about 83 = .ok (.aload_n 0, 1) := by decide +kernel
theorem dX8_about_84 : decode cX8_about 84 = .ok (.getfield 25, 3) := by decide +kernel
theorem dX8_about_87 : decode cX8_about 87 = .ok (.getfield 111, 3) := by decide +kernel
theorem dX8_about_90 : decode cX8_about 90 = .ok (.ireturn, 1) := by decide +kernel
theorem dX8_about_91 : decode cX8_about 91 = .ok (.aload_n 0, 1) := by decide +kernel
theorem dX8_about_92 : decode cX8_about 92 = .ok (.getfield 41, 3) := by decide +kernel
theorem dX8_about_95 : decode cX8_about 95 = .ok (.getfield 114, 3) := by decide +kernel
theorem dX8_about_98 : decode cX8_about 98 = .ok (.ireturn, 1) := by decide +kernel
theorem dX8_about_99 : decode cX8_about 99 = .ok (.aload_n 0, 1) := by decide +kernel
theorem dX8_about_100 : decode cX8_about 100 = .ok (.getfield 41, 3) := by decide +kernel
theorem dX8_about_103 : decode cX8_about 103 = .ok (.getfield 117, 3) := by decide +kernel
theorem dX8_about_106 : decode cX8_about 106 = .ok (.ireturn, 1) := by decide +kernel
theorem dX8_about_107 : decode cX8_about 107 = .ok (.aload_n 0, 1) := by decide +kernel
theorem dX8_about_108 : decode cX8_about 108 = .ok (.getfield 41, 3) := by decide +kernel
theorem dX8_about_111 : decode cX8_about 111 = .ok (.invokevirtual 120, 3) := by decide +kernel
theorem dX8_about_114 : decode cX8_about 114 = .ok (.ireturn, 1) := by decide +kernel
theorem dX8_about_115 : decode cX8_about 115 = .ok (.new 124, 3) := by decide +kernel
theorem dX8_about_118 : decode cX8_about 118 = .ok (.dup, 1) := by decide +kernel
theorem dX8_about_119 : decode cX8_about 119 = .ok (.ldc 126, 2) := by decide +kernel
theorem dX8_about_121 : decode cX8_about 121 = .ok (.invokespecial 128, 3) := by decide +kernel
theorem dX8_about_124 : decode cX8_about 124 = .ok (.athrow, 1) := by decide +kernel
theorem dX8_node_0 : decode cX8_node 0 = .ok (.aload_n 0, 1) := by decide +kernel
theorem dX8_node_1 : decode cX8_node 1 = .ok (.iload_n 1, 1) := by decide +kernel
theorem dX8_node_2 : decode cX8_node 2 = .ok (.invokevirtual 129, 3) := by decide +kernel
theorem dX8_node_5 : decode cX8_node 5 = .ok (.iload_n 2, 1) := by decide +kernel
theorem dX8_node_6 : decode cX8_node 6 = .ok (.iconst 0, 1) := by decide +kernel
theorem dX8_node_7 : decode cX8_node 7 = .ok (.bipush 6, 2) := by decide +kernel
theorem dX8_node_9 : decode cX8_node 9 = .ok (.invokestatic 63, 3) := by decide +kernel
theorem dX8_node_12 : decode cX8_node 12 = .ok (.aload_n 0, 1) := by decide +kernel
theorem dX8_node_13 : decode cX8_node 13 = .ok (.getfield 41, 3) := by decide +kernel
theorem dX8_node_16 : decode cX8_node 16 = .ok (.iload_n 1, 1) := by decide +kernel
theorem dX8_node_17 : decode cX8_node 17 = .ok (.iload_n 2, 1) := by decide +kernel
theorem dX8_node_18 : decode cX8_node 18 = .ok (.invokevirtual 133, 3) := by decide +kernel
theorem dX8_node_21 : decode cX8_node 21 = .ok (.ireturn, 1) := by decide +kernel
theorem dX8_version_0 : decode cX8_version 0 = .ok (.aload_n 0, 1) := by decide +kernel
theorem dX8_version_1 : decode cX8_version 1 = .ok (.iload_n 1, 1) := by decide +kernel
theorem dX8_version_2 : decode cX8_version 2 = .ok (.invokevirtual 129, 3) := by decide +kernel
theorem dX8_version_5 : decode cX8_version 5 = .ok (.aload_n 0, 1) := by decide +kernel
theorem dX8_version_6 : decode cX8_version 6 = .ok (.iload_n 2, 1) := by decide +kernel
theorem dX8_version_7 : decode cX8_version 7 = .ok (.invokevirtual 137, 3) := by decide +kernel
theorem dX8_version_10 : decode cX8_version 10 = .ok (.iload_n 3, 1) := by decide +kernel
theorem dX8_version_11 : decode cX8_version 11 = .ok (.ifCond .eq 15, 3) := by decide +kernel
theorem dX8_version_14 : decode cX8_version 14 = .ok (.aload_n 0, 1) := by decide +kernel
theorem dX8_version_15 : decode cX8_version 15 = .ok (.getfield 41, 3) := by decide +kernel
theorem dX8_version_18 : decode cX8_version 18 = .ok (.getfield 140, 3) := by decide +kernel
theorem dX8_version_21 : decode cX8_version 21 = .ok (.iload_n 1, 1) := by decide +kernel
theorem dX8_version_22 : decode cX8_version 22 = .ok (.iaload, 1) := by decide +kernel
theorem dX8_version_23 : decode cX8_version 23 = .ok (.goto 12, 3) := by decide +kernel
theorem dX8_version_26 : decode cX8_version 26 = .ok (.aload_n 0, 1) := by decide +kernel
theorem dX8_version_27 : decode cX8_version 27 = .ok (.getfield 41, 3) := by decide +kernel
theorem dX8_version_30 : decode cX8_version 30 = .ok (.getfield 144, 3) := by decide +kernel
theorem dX8_version_33 : decode cX8_version 33 = .ok (.iload_n 1, 1) := by decide +kernel
theorem dX8_version_34 : decode cX8_version 34 = .ok (.iaload, 1) := by decide +kernel
theorem dX8_version_35 : decode cX8_version 35 = .ok (.iload_n 2, 1) := by decide +kernel
theorem dX8_version_36 : decode cX8_version 36 = .ok (.invokestatic 147, 3) := by decide +kernel
theorem dX8_version_39 : decode cX8_version 39 = .ok (.ireturn, 1) := by decide +kernel
theorem dX8_rule_0 : decode cX8_rule 0 = .ok (.aload_n 0, 1) := by decide +kernel
theorem dX8_rule_1 : decode cX8_rule 1 = .ok (.iload_n 1, 1) := by decide +kernel
theorem dX8_rule_2 : decode cX8_rule 2 = .ok (.invokevirtual 152, 3) := by decide +kernel
theorem dX8_rule_5 : decode cX8_rule 5 = .ok (.iload_n 2, 1) := by decide +kernel
theorem dX8_rule_6 : decode cX8_rule 6 = .ok (.iconst 0, 1) := by decide +kernel
theorem dX8_rule_7 : decode cX8_rule 7 = .ok (.iconst 4, 1) := by decide +kernel
theorem dX8_rule_8 : decode cX8_rule 8 = .ok (.invokestatic 63, 3) := by decide +kernel
theorem dX8_rule_11 : decode cX8_rule 11 = .ok (.aload_n 0, 1) := by decide +kernel
theorem dX8_rule_12 : decode cX8_rule 12 = .ok (.getfield 25, 3) := by decide +kernel
theorem dX8_rule_15 : decode cX8_rule 15 = .ok (.getfield 93, 3) := by decide +kernel
theorem dX8_rule_18 : decode cX8_rule 18 = .ok (.iload_n 1, 1) := by decide +kernel
theorem dX8_rule_19 : decode cX8_rule 19 = .ok (.iload_n 2, 1) := by decide +kernel
theorem dX8_rule_20 : decode cX8_rule 20 = .ok (.invokevirtual 155, 3) := by decide +kernel
theorem dX8_rule_23 : decode cX8_rule 23 = .ok (.ireturn, 1) := by decide +kernel
theorem dX8_approvals_0 : decode cX8_approvals 0 = .ok (.aload_n 0, 1) := by decide +kernel
theorem dX8_approvals_1 : decode cX8_approvals 1 = .ok (.iload_n 1, 1) := by decide +kernel
theorem dX8_approvals_2 : decode cX8_approvals 2 = .ok (.invokevirtual 137, 3) := by decide +kernel
theorem dX8_approvals_5 : decode cX8_approvals 5 = .ok (.iload_n 2, 1) := by decide +kernel
theorem dX8_approvals_6 : decode cX8_approvals 6 = .ok (.iconst 0, 1) := by decide +kernel
theorem dX8_approvals_7 : decode cX8_approvals 7 = .ok (.iconst 3, 1) := by decide +kernel
theorem dX8_approvals_8 : decode cX8_approvals 8 = .ok (.invokestatic 63, 3) := by decide +kernel
theorem dX8_approvals_11 : decode cX8_approvals 11 = .ok (.aload_n 0, 1) := by decide +kernel
theorem dX8_approvals_12 : decode cX8_approvals 12 = .ok (.getfield 41, 3) := by decide +kernel
theorem dX8_approvals_15 : decode cX8_approvals 15 = .ok (.getfield 158, 3) := by decide +kernel
theorem dX8_approvals_18 : decode cX8_approvals 18 = .ok (.iload_n 1, 1) := by decide +kernel
theorem dX8_approvals_19 : decode cX8_approvals 19 = .ok (.iload_n 2, 1) := by decide +kernel
theorem dX8_approvals_20 : decode cX8_approvals 20 = .ok (.invokestatic 161, 3) := by decide +kernel
theorem dX8_approvals_23 : decode cX8_approvals 23 = .ok (.iaload, 1) := by decide +kernel
theorem dX8_approvals_24 : decode cX8_approvals 24 = .ok (.ireturn, 1) := by decide +kernel
theorem dX8_quorum_0 : decode cX8_quorum 0 = .ok (.aload_n 0, 1) := by decide +kernel
theorem dX8_quorum_1 : decode cX8_quorum 1 = .ok (.iload_n 1, 1) := by decide +kernel
theorem dX8_quorum_2 : decode cX8_quorum 2 = .ok (.invokevirtual 137, 3) := by decide +kernel
theorem dX8_quorum_5 : decode cX8_quorum 5 = .ok (.aload_n 0, 1) := by decide +kernel
theorem dX8_quorum_6 : decode cX8_quorum 6 = .ok (.getfield 41, 3) := by decide +kernel
theorem dX8_quorum_9 : decode cX8_quorum 9 = .ok (.getfield 164, 3) := by decide +kernel
theorem dX8_quorum_12 : decode cX8_quorum 12 = .ok (.iload_n 1, 1) := by decide +kernel
theorem dX8_quorum_13 : decode cX8_quorum 13 = .ok (.iaload, 1) := by decide +kernel
theorem dX8_quorum_14 : decode cX8_quorum 14 = .ok (.ireturn, 1) := by decide +kernel
theorem dX8_wish_0 : decode cX8_wish 0 = .ok (.aload_n 0, 1) := by decide +kernel
theorem dX8_wish_1 : decode cX8_wish 1 = .ok (.iload_n 1, 1) := by decide +kernel
theorem dX8_wish_2 : decode cX8_wish 2 = .ok (.invokevirtual 129, 3) := by decide +kernel
theorem dX8_wish_5 : decode cX8_wish 5 = .ok (.aload_n 0, 1) := by decide +kernel
theorem dX8_wish_6 : decode cX8_wish 6 = .ok (.iload_n 2, 1) := by decide +kernel
theorem dX8_wish_7 : decode cX8_wish 7 = .ok (.invokevirtual 137, 3) := by decide +kernel
theorem dX8_wish_10 : decode cX8_wish 10 = .ok (.iload_n 3, 1) := by decide +kernel
theorem dX8_wish_11 : decode cX8_wish 11 = .ok (.iconst 0, 1) := by decide +kernel
theorem dX8_wish_12 : decode cX8_wish 12 = .ok (.iconst 3, 1) := by decide +kernel
theorem dX8_wish_13 : decode cX8_wish 13 = .ok (.invokestatic 63, 3) := by decide +kernel
theorem dX8_wish_16 : decode cX8_wish 16 = .ok (.aload_n 0, 1) := by decide +kernel
theorem dX8_wish_17 : decode cX8_wish 17 = .ok (.getfield 51, 3) := by decide +kernel
theorem dX8_wish_20 : decode cX8_wish 20 = .ok (.aload_n 0, 1) := by decide +kernel
theorem dX8_wish_21 : decode cX8_wish 21 = .ok (.getfield 41, 3) := by decide +kernel
theorem dX8_wish_24 : decode cX8_wish 24 = .ok (.invokevirtual 167, 3) := by decide +kernel
theorem dX8_wish_27 : decode cX8_wish 27 = .ok (.aload_n 0, 1) := by decide +kernel
theorem dX8_wish_28 : decode cX8_wish 28 = .ok (.getfield 41, 3) := by decide +kernel
theorem dX8_wish_31 : decode cX8_wish 31 = .ok (.getfield 140, 3) := by decide +kernel
theorem dX8_wish_34 : decode cX8_wish 34 = .ok (.iload_n 1, 1) := by decide +kernel
theorem dX8_wish_35 : decode cX8_wish 35 = .ok (.iaload, 1) := by decide +kernel
theorem dX8_wish_36 : decode cX8_wish 36 = .ok (.iload_n 2, 1) := by decide +kernel
theorem dX8_wish_37 : decode cX8_wish 37 = .ok (.invokestatic 147, 3) := by decide +kernel
theorem dX8_wish_40 : decode cX8_wish 40 = .ok (.istore 4, 2) := by decide +kernel
theorem dX8_wish_42 : decode cX8_wish 42 = .ok (.aload_n 0, 1) := by decide +kernel
theorem dX8_wish_43 : decode cX8_wish 43 = .ok (.getfield 41, 3) := by decide +kernel
theorem dX8_wish_46 : decode cX8_wish 46 = .ok (.getfield 140, 3) := by decide +kernel
theorem dX8_wish_49 : decode cX8_wish 49 = .ok (.iload_n 1, 1) := by decide +kernel
theorem dX8_wish_50 : decode cX8_wish 50 = .ok (.aload_n 0, 1) := by decide +kernel
theorem dX8_wish_51 : decode cX8_wish 51 = .ok (.getfield 41, 3) := by decide +kernel
theorem dX8_wish_54 : decode cX8_wish 54 = .ok (.getfield 140, 3) := by decide +kernel
theorem dX8_wish_57 : decode cX8_wish 57 = .ok (.iload_n 1, 1) := by decide +kernel
theorem dX8_wish_58 : decode cX8_wish 58 = .ok (.iaload, 1) := by decide +kernel
theorem dX8_wish_59 : decode cX8_wish 59 = .ok (.iload_n 2, 1) := by decide +kernel
theorem dX8_wish_60 : decode cX8_wish 60 = .ok (.iload_n 3, 1) := by decide +kernel
theorem dX8_wish_61 : decode cX8_wish 61 = .ok (.invokestatic 171, 3) := by decide +kernel
theorem dX8_wish_64 : decode cX8_wish 64 = .ok (.iastore, 1) := by decide +kernel
theorem dX8_wish_65 : decode cX8_wish 65 = .ok (.iload 4, 2) := by decide +kernel
theorem dX8_wish_67 : decode cX8_wish 67 = .ok (.ireturn, 1) := by decide +kernel
theorem dX8_wishRing_0 : decode cX8_wishRing 0 = .ok (.aload_n 0, 1) := by decide +kernel
theorem dX8_wishRing_1 : decode cX8_wishRing 1 = .ok (.iload_n 2, 1) := by decide +kernel
theorem dX8_wishRing_2 : decode cX8_wishRing 2 = .ok (.invokevirtual 137, 3) := by decide +kernel
theorem dX8_wishRing_5 : decode cX8_wishRing 5 = .ok (.iload_n 1, 1) := by decide +kernel
theorem dX8_wishRing_6 : decode cX8_wishRing 6 = .ok (.iconst 0, 1) := by decide +kernel
theorem dX8_wishRing_7 : decode cX8_wishRing 7 = .ok (.iconst 2, 1) := by decide +kernel
theorem dX8_wishRing_8 : decode cX8_wishRing 8 = .ok (.invokestatic 63, 3) := by decide +kernel
theorem dX8_wishRing_11 : decode cX8_wishRing 11 = .ok (.iload_n 3, 1) := by decide +kernel
theorem dX8_wishRing_12 : decode cX8_wishRing 12 = .ok (.iconst 0, 1) := by decide +kernel
theorem dX8_wishRing_13 : decode cX8_wishRing 13 = .ok (.iconst 3, 1) := by decide +kernel
theorem dX8_wishRing_14 : decode cX8_wishRing 14 = .ok (.invokestatic 63, 3) := by decide +kernel
theorem dX8_wishRing_17 : decode cX8_wishRing 17 = .ok (.aload_n 0, 1) := by decide +kernel
theorem dX8_wishRing_18 : decode cX8_wishRing 18 = .ok (.getfield 51, 3) := by decide +kernel
theorem dX8_wishRing_21 : decode cX8_wishRing 21 = .ok (.aload_n 0, 1) := by decide +kernel
theorem dX8_wishRing_22 : decode cX8_wishRing 22 = .ok (.getfield 41, 3) := by decide +kernel
theorem dX8_wishRing_25 : decode cX8_wishRing 25 = .ok (.invokevirtual 167, 3) := by decide +kernel
theorem dX8_wishRing_28 : decode cX8_wishRing 28 = .ok (.iconst 0, 1) := by decide +kernel
theorem dX8_wishRing_29 : decode cX8_wishRing 29 = .ok (.istore 4, 2) := by decide +kernel
theorem dX8_wishRing_31 : decode cX8_wishRing 31 = .ok (.iconst 0, 1) := by decide +kernel
theorem dX8_wishRing_32 : decode cX8_wishRing 32 = .ok (.istore 5, 2) := by decide +kernel
theorem dX8_wishRing_34 : decode cX8_wishRing 34 = .ok (.iload 5, 2) := by decide +kernel
theorem dX8_wishRing_36 : decode cX8_wishRing 36 = .ok (.aload_n 0, 1) := by decide +kernel
theorem dX8_wishRing_37 : decode cX8_wishRing 37 = .ok (.getfield 25, 3) := by decide +kernel
theorem dX8_wishRing_40 : decode cX8_wishRing 40 = .ok (.getfield 102, 3) := by decide +kernel
theorem dX8_wishRing_43 : decode cX8_wishRing 43 = .ok (.if_icmp .ge 51, 3) := by decide +kernel
theorem dX8_wishRing_46 : decode cX8_wishRing 46 = .ok (.aload_n 0, 1) := by decide +kernel
theorem dX8_wishRing_47 : decode cX8_wishRing 47 = .ok (.getfield 25, 3) := by decide +kernel
theorem dX8_wishRing_50 : decode cX8_wishRing 50 = .ok (.getfield 175, 3) := by decide +kernel
theorem dX8_wishRing_53 : decode cX8_wishRing 53 = .ok (.iload 5, 2) := by decide +kernel
theorem dX8_wishRing_55 : decode cX8_wishRing 55 = .ok (.iaload, 1) := by decide +kernel
theorem dX8_wishRing_56 : decode cX8_wishRing 56 = .ok (.iload_n 1, 1) := by decide +kernel
theorem dX8_wishRing_57 : decode cX8_wishRing 57 = .ok (.if_icmp .ne 31, 3) := by decide +kernel
theorem dX8_wishRing_60 : decode cX8_wishRing 60 = .ok (.aload_n 0, 1) := by decide +kernel
theorem dX8_wishRing_61 : decode cX8_wishRing 61 = .ok (.getfield 41, 3) := by decide +kernel
theorem dX8_wishRing_64 : decode cX8_wishRing 64 = .ok (.getfield 140, 3) := by decide +kernel
theorem dX8_wishRing_67 : decode cX8_wishRing 67 = .ok (.iload 5, 2) := by decide +kernel
theorem dX8_wishRing_69 : decode cX8_wishRing 69 = .ok (.aload_n 0, 1) := by decide +kernel
theorem dX8_wishRing_70 : decode cX8_wishRing 70 = .ok (.getfield 41, 3) := by decide +kernel
theorem dX8_wishRing_73 : decode cX8_wishRing 73 = .ok (.getfield 140, 3) := by decide +kernel
theorem dX8_wishRing_76 : decode cX8_wishRing 76 = .ok (.iload 5, 2) := by decide +kernel
theorem dX8_wishRing_78 : decode cX8_wishRing 78 = .ok (.iaload, 1) := by decide +kernel
theorem dX8_wishRing_79 : decode cX8_wishRing 79 = .ok (.iload_n 2, 1) := by decide +kernel
theorem dX8_wishRing_80 : decode cX8_wishRing 80 = .ok (.iload_n 3, 1) := by decide +kernel
theorem dX8_wishRing_81 : decode cX8_wishRing 81 = .ok (.invokestatic 171, 3) := by decide +kernel
theorem dX8_wishRing_84 : decode cX8_wishRing 84 = .ok (.iastore, 1) := by decide +kernel
theorem dX8_wishRing_85 : decode cX8_wishRing 85 = .ok (.iinc 4 1, 3) := by decide +kernel
theorem dX8_wishRing_88 : decode cX8_wishRing 88 = .ok (.iinc 5 1, 3) := by decide +kernel
theorem dX8_wishRing_91 : decode cX8_wishRing 91 = .ok (.goto (-57), 3) := by decide +kernel
theorem dX8_wishRing_94 : decode cX8_wishRing 94 = .ok (.iload 4, 2) := by decide +kernel
theorem dX8_wishRing_96 : decode cX8_wishRing 96 = .ok (.ireturn, 1) := by decide +kernel
theorem dX8_drift_0 : decode cX8_drift 0 = .ok (.aload_n 0, 1) := by decide +kernel
theorem dX8_drift_1 : decode cX8_drift 1 = .ok (.iload_n 1, 1) := by decide +kernel
theorem dX8_drift_2 : decode cX8_drift 2 = .ok (.invokevirtual 129, 3) := by decide +kernel
theorem dX8_drift_5 : decode cX8_drift 5 = .ok (.aload_n 0, 1) := by decide +kernel
theorem dX8_drift_6 : decode cX8_drift 6 = .ok (.iload_n 2, 1) := by decide +kernel
theorem dX8_drift_7 : decode cX8_drift 7 = .ok (.invokevirtual 137, 3) := by decide +kernel
theorem dX8_drift_10 : decode cX8_drift 10 = .ok (.iload_n 3, 1) := by decide +kernel
theorem dX8_drift_11 : decode cX8_drift 11 = .ok (.iconst 0, 1) := by decide +kernel
theorem dX8_drift_12 : decode cX8_drift 12 = .ok (.iconst 3, 1) := by decide +kernel
theorem dX8_drift_13 : decode cX8_drift 13 = .ok (.invokestatic 63, 3) := by decide +kernel
theorem dX8_drift_16 : decode cX8_drift 16 = .ok (.aload_n 0, 1) := by decide +kernel
theorem dX8_drift_17 : decode cX8_drift 17 = .ok (.getfield 51, 3) := by decide +kernel
theorem dX8_drift_20 : decode cX8_drift 20 = .ok (.aload_n 0, 1) := by decide +kernel
theorem dX8_drift_21 : decode cX8_drift 21 = .ok (.getfield 41, 3) := by decide +kernel
theorem dX8_drift_24 : decode cX8_drift 24 = .ok (.invokevirtual 167, 3) := by decide +kernel
theorem dX8_drift_27 : decode cX8_drift 27 = .ok (.aload_n 0, 1) := by decide +kernel
theorem dX8_drift_28 : decode cX8_drift 28 = .ok (.getfield 41, 3) := by decide +kernel
theorem dX8_drift_31 : decode cX8_drift 31 = .ok (.getfield 144, 3) := by decide +kernel
theorem dX8_drift_34 : decode cX8_drift 34 = .ok (.iload_n 1, 1) := by decide +kernel
theorem dX8_drift_35 : decode cX8_drift 35 = .ok (.iaload, 1) := by decide +kernel
theorem dX8_drift_36 : decode cX8_drift 36 = .ok (.iload_n 2, 1) := by decide +kernel
theorem dX8_drift_37 : decode cX8_drift 37 = .ok (.invokestatic 147, 3) := by decide +kernel
theorem dX8_drift_40 : decode cX8_drift 40 = .ok (.istore 4, 2) := by decide +kernel
theorem dX8_drift_42 : decode cX8_drift 42 = .ok (.aload_n 0, 1) := by decide +kernel
theorem dX8_drift_43 : decode cX8_drift 43 = .ok (.getfield 41, 3) := by decide +kernel
theorem dX8_drift_46 : decode cX8_drift 46 = .ok (.getfield 144, 3) := by decide +kernel
theorem dX8_drift_49 : decode cX8_drift 49 = .ok (.iload_n 1, 1) := by decide +kernel
theorem dX8_drift_50 : decode cX8_drift 50 = .ok (.aload_n 0, 1) := by decide +kernel
theorem dX8_drift_51 : decode cX8_drift 51 = .ok (.getfield 41, 3) := by decide +kernel
theorem dX8_drift_54 : decode cX8_drift 54 = .ok (.getfield 144, 3) := by decide +kernel
theorem dX8_drift_57 : decode cX8_drift 57 = .ok (.iload_n 1, 1) := by decide +kernel
theorem dX8_drift_58 : decode cX8_drift 58 = .ok (.iaload, 1) := by decide +kernel
theorem dX8_drift_59 : decode cX8_drift 59 = .ok (.iload_n 2, 1) := by decide +kernel
theorem dX8_drift_60 : decode cX8_drift 60 = .ok (.iload_n 3, 1) := by decide +kernel
theorem dX8_drift_61 : decode cX8_drift 61 = .ok (.invokestatic 171, 3) := by decide +kernel
theorem dX8_drift_64 : decode cX8_drift 64 = .ok (.iastore, 1) := by decide +kernel
theorem dX8_drift_65 : decode cX8_drift 65 = .ok (.iload 4, 2) := by decide +kernel
theorem dX8_drift_67 : decode cX8_drift 67 = .ok (.ireturn, 1) := by decide +kernel
theorem dX8_approve_0 : decode cX8_approve 0 = .ok (.aload_n 0, 1) := by decide +kernel
theorem dX8_approve_1 : decode cX8_approve 1 = .ok (.iload_n 1, 1) := by decide +kernel
theorem dX8_approve_2 : decode cX8_approve 2 = .ok (.invokevirtual 137, 3) := by decide +kernel
theorem dX8_approve_5 : decode cX8_approve 5 = .ok (.iload_n 3, 1) := by decide +kernel
theorem dX8_approve_6 : decode cX8_approve 6 = .ok (.invokestatic 178, 3) := by decide +kernel
theorem dX8_approve_9 : decode cX8_approve 9 = .ok (.iload_n 2, 1) := by decide +kernel
theorem dX8_approve_10 : decode cX8_approve 10 = .ok (.iconst 0, 1) := by decide +kernel
theorem dX8_approve_11 : decode cX8_approve 11 = .ok (.iconst 3, 1) := by decide +kernel
theorem dX8_approve_12 : decode cX8_approve 12 = .ok (.invokestatic 63, 3) := by decide +kernel
theorem dX8_approve_15 : decode cX8_approve 15 = .ok (.iload_n 1, 1) := by decide +kernel
theorem dX8_approve_16 : decode cX8_approve 16 = .ok (.iload_n 2, 1) := by decide +kernel
theorem dX8_approve_17 : decode cX8_approve 17 = .ok (.invokestatic 161, 3) := by decide +kernel
theorem dX8_approve_20 : decode cX8_approve 20 = .ok (.istore 4, 2) := by decide +kernel
theorem dX8_approve_22 : decode cX8_approve 22 = .ok (.aload_n 0, 1) := by decide +kernel
theorem dX8_approve_23 : decode cX8_approve 23 = .ok (.getfield 41, 3) := by decide +kernel
theorem dX8_approve_26 : decode cX8_approve 26 = .ok (.getfield 158, 3) := by decide +kernel
theorem dX8_approve_29 : decode cX8_approve 29 = .ok (.iload 4, 2) := by decide +kernel
theorem dX8_approve_31 : decode cX8_approve 31 = .ok (.iaload, 1) := by decide +kernel
theorem dX8_approve_32 : decode cX8_approve 32 = .ok (.iconst 1, 1) := by decide +kernel
theorem dX8_approve_33 : decode cX8_approve 33 = .ok (.iload_n 3, 1) := by decide +kernel
theorem dX8_approve_34 : decode cX8_approve 34 = .ok (.ishl, 1) := by decide +kernel
theorem dX8_approve_35 : decode cX8_approve 35 = .ok (.iand, 1) := by decide +kernel
theorem dX8_approve_36 : decode cX8_approve 36 = .ok (.ifCond .eq 13, 3) := by decide +kernel
theorem dX8_approve_39 : decode cX8_approve 39 = .ok (.new 71, 3) := by decide +kernel
theorem dX8_approve_42 : decode cX8_approve 42 = .ok (.dup, 1) := by decide +kernel
theorem dX8_approve_43 : decode cX8_approve 43 = .ok (.ldc 181, 2) := by decide +kernel
theorem dX8_approve_45 : decode cX8_approve 45 = .ok (.invokespecial 75, 3) := by decide +kernel
theorem dX8_approve_48 : decode cX8_approve 48 = .ok (.athrow, 1) := by decide +kernel
theorem dX8_approve_49 : decode cX8_approve 49 = .ok (.aload_n 0, 1) := by decide +kernel
theorem dX8_approve_50 : decode cX8_approve 50 = .ok (.getfield 51, 3) := by decide +kernel
theorem dX8_approve_53 : decode cX8_approve 53 = .ok (.aload_n 0, 1) := by decide +kernel
theorem dX8_approve_54 : decode cX8_approve 54 = .ok (.getfield 41, 3) := by decide +kernel
theorem dX8_approve_57 : decode cX8_approve 57 = .ok (.invokevirtual 167, 3) := by decide +kernel
theorem dX8_approve_60 : decode cX8_approve 60 = .ok (.aload_n 0, 1) := by decide +kernel
theorem dX8_approve_61 : decode cX8_approve 61 = .ok (.getfield 41, 3) := by decide +kernel
theorem dX8_approve_64 : decode cX8_approve 64 = .ok (.getfield 158, 3) := by decide +kernel
theorem dX8_approve_67 : decode cX8_approve 67 = .ok (.iload 4, 2) := by decide +kernel
theorem dX8_approve_69 : decode cX8_approve 69 = .ok (.dup2, 1) := by decide +kernel
theorem dX8_approve_70 : decode cX8_approve 70 = .ok (.iaload, 1) := by decide +kernel
theorem dX8_approve_71 : decode cX8_approve 71 = .ok (.iconst 1, 1) := by decide +kernel
theorem dX8_approve_72 : decode cX8_approve 72 = .ok (.iload_n 3, 1) := by decide +kernel
theorem dX8_approve_73 : decode cX8_approve 73 = .ok (.ishl, 1) := by decide +kernel
theorem dX8_approve_74 : decode cX8_approve 74 = .ok (.ior, 1) := by decide +kernel
theorem dX8_approve_75 : decode cX8_approve 75 = .ok (.iastore, 1) := by decide +kernel
theorem dX8_approve_76 : decode cX8_approve 76 = .ok (.aload_n 0, 1) := by decide +kernel
theorem dX8_approve_77 : decode cX8_approve 77 = .ok (.getfield 41, 3) := by decide +kernel
theorem dX8_approve_80 : decode cX8_approve 80 = .ok (.getfield 158, 3) := by decide +kernel
theorem dX8_approve_83 : decode cX8_approve 83 = .ok (.iload 4, 2) := by decide +kernel
theorem dX8_approve_85 : decode cX8_approve 85 = .ok (.iaload, 1) := by decide +kernel
theorem dX8_approve_86 : decode cX8_approve 86 = .ok (.invokestatic 183, 3) := by decide +kernel
theorem dX8_approve_89 : decode cX8_approve 89 = .ok (.ireturn, 1) := by decide +kernel
theorem dX8_dismiss_0 : decode cX8_dismiss 0 = .ok (.iload_n 1, 1) := by decide +kernel
theorem dX8_dismiss_1 : decode cX8_dismiss 1 = .ok (.invokestatic 178, 3) := by decide +kernel
theorem dX8_dismiss_4 : decode cX8_dismiss 4 = .ok (.aload_n 0, 1) := by decide +kernel
theorem dX8_dismiss_5 : decode cX8_dismiss 5 = .ok (.getfield 51, 3) := by decide +kernel
theorem dX8_dismiss_8 : decode cX8_dismiss 8 = .ok (.aload_n 0, 1) := by decide +kernel
theorem dX8_dismiss_9 : decode cX8_dismiss 9 = .ok (.getfield 41, 3) := by decide +kernel
theorem dX8_dismiss_12 : decode cX8_dismiss 12 = .ok (.invokevirtual 167, 3) := by decide +kernel
theorem dX8_dismiss_15 : decode cX8_dismiss 15 = .ok (.iconst 0, 1) := by decide +kernel
theorem dX8_dismiss_16 : decode cX8_dismiss 16 = .ok (.istore_n 2, 1) := by decide +kernel
theorem dX8_dismiss_17 : decode cX8_dismiss 17 = .ok (.iconst 0, 1) := by decide +kernel
theorem dX8_dismiss_18 : decode cX8_dismiss 18 = .ok (.istore_n 3, 1) := by decide +kernel
theorem dX8_dismiss_19 : decode cX8_dismiss 19 = .ok (.iload_n 3, 1) := by decide +kernel
theorem dX8_dismiss_20 : decode cX8_dismiss 20 = .ok (.aload_n 0, 1) := by decide +kernel
theorem dX8_dismiss_21 : decode cX8_dismiss 21 = .ok (.getfield 41, 3) := by decide +kernel
theorem dX8_dismiss_24 : decode cX8_dismiss 24 = .ok (.getfield 158, 3) := by decide +kernel
theorem dX8_dismiss_27 : decode cX8_dismiss 27 = .ok (.arraylength, 1) := by decide +kernel
theorem dX8_dismiss_28 : decode cX8_dismiss 28 = .ok (.if_icmp .ge 45, 3) := by decide +kernel
theorem dX8_dismiss_31 : decode cX8_dismiss 31 = .ok (.aload_n 0, 1) := by decide +kernel
theorem dX8_dismiss_32 : decode cX8_dismiss 32 = .ok (.getfield 41, 3) := by decide +kernel
theorem dX8_dismiss_35 : decode cX8_dismiss 35 = .ok (.getfield 158, 3) := by decide +kernel
theorem dX8_dismiss_38 : decode cX8_dismiss 38 = .ok (.iload_n 3, 1) := by decide +kernel
theorem dX8_dismiss_39 : decode cX8_dismiss 39 = .ok (.iaload, 1) := by decide +kernel
theorem dX8_dismiss_40 : decode cX8_dismiss 40 = .ok (.iconst 1, 1) := by decide +kernel
theorem dX8_dismiss_41 : decode cX8_dismiss 41 = .ok (.iload_n 1, 1) := by decide +kernel
theorem dX8_dismiss_42 : decode cX8_dismiss 42 = .ok (.ishl, 1) := by decide +kernel
theorem dX8_dismiss_43 : decode cX8_dismiss 43 = .ok (.iand, 1) := by decide +kernel
theorem dX8_dismiss_44 : decode cX8_dismiss 44 = .ok (.ifCond .eq 23, 3) := by decide +kernel
theorem dX8_dismiss_47 : decode cX8_dismiss 47 = .ok (.aload_n 0, 1) := by decide +kernel
theorem dX8_dismiss_48 : decode cX8_dismiss 48 = .ok (.getfield 41, 3) := by decide +kernel
theorem dX8_dismiss_51 : decode cX8_dismiss 51 = .ok (.getfield 158, 3) := by decide +kernel
theorem dX8_dismiss_54 : decode cX8_dismiss 54 = .ok (.iload_n 3, 1) := by decide +kernel
theorem dX8_dismiss_55 : decode cX8_dismiss 55 = .ok (.dup2, 1) := by decide +kernel
theorem dX8_dismiss_56 : decode cX8_dismiss 56 = .ok (.iaload, 1) := by decide +kernel
theorem dX8_dismiss_57 : decode cX8_dismiss 57 = .ok (.iconst 1, 1) := by decide +kernel
theorem dX8_dismiss_58 : decode cX8_dismiss 58 = .ok (.iload_n 1, 1) := by decide +kernel
theorem dX8_dismiss_59 : decode cX8_dismiss 59 = .ok (.ishl, 1) := by decide +kernel
theorem dX8_dismiss_60 : decode cX8_dismiss 60 = .ok (.iconst (-1), 1) := by decide +kernel
theorem dX8_dismiss_61 : decode cX8_dismiss 61 = .ok (.ixor, 1) := by decide +kernel
theorem dX8_dismiss_62 : decode cX8_dismiss 62 = .ok (.iand, 1) := by decide +kernel
theorem dX8_dismiss_63 : decode cX8_dismiss 63 = .ok (.iastore, 1) := by decide +kernel
theorem dX8_dismiss_64 : decode cX8_dismiss 64 = .ok (.iinc 2 1, 3) := by decide +kernel
theorem dX8_dismiss_67 : decode cX8_dismiss 67 = .ok (.iinc 3 1, 3) := by decide +kernel
theorem dX8_dismiss_70 : decode cX8_dismiss 70 = .ok (.goto (-51), 3) := by decide +kernel
theorem dX8_dismiss_73 : decode cX8_dismiss 73 = .ok (.iload_n 2, 1) := by decide +kernel
theorem dX8_dismiss_74 : decode cX8_dismiss 74 = .ok (.ireturn, 1) := by decide +kernel
theorem dX8_setQuorum_0 : decode cX8_setQuorum 0 = .ok (.aload_n 0, 1) := by decide +kernel
theorem dX8_setQuorum_1 : decode cX8_setQuorum 1 = .ok (.iload_n 1, 1) := by decide +kernel
theorem dX8_setQuorum_2 : decode cX8_setQuorum 2 = .ok (.invokevirtual 137, 3) := by decide +kernel
theorem dX8_setQuorum_5 : decode cX8_setQuorum 5 = .ok (.iload_n 2, 1) := by decide +kernel
theorem dX8_setQuorum_6 : decode cX8_setQuorum 6 = .ok (.iconst 0, 1) := by decide +kernel
theorem dX8_setQuorum_7 : decode cX8_setQuorum 7 = .ok (.iconst 5, 1) := by decide +kernel
theorem dX8_setQuorum_8 : decode cX8_setQuorum 8 = .ok (.invokestatic 63, 3) := by decide +kernel
theorem dX8_setQuorum_11 : decode cX8_setQuorum 11 = .ok (.aload_n 0, 1) := by decide +kernel
theorem dX8_setQuorum_12 : decode cX8_setQuorum 12 = .ok (.getfield 51, 3) := by decide +kernel
theorem dX8_setQuorum_15 : decode cX8_setQuorum 15 = .ok (.aload_n 0, 1) := by decide +kernel
theorem dX8_setQuorum_16 : decode cX8_setQuorum 16 = .ok (.getfield 41, 3) := by decide +kernel
theorem dX8_setQuorum_19 : decode cX8_setQuorum 19 = .ok (.invokevirtual 167, 3) := by decide +kernel
theorem dX8_setQuorum_22 : decode cX8_setQuorum 22 = .ok (.aload_n 0, 1) := by decide +kernel
theorem dX8_setQuorum_23 : decode cX8_setQuorum 23 = .ok (.getfield 41, 3) := by decide +kernel
theorem dX8_setQuorum_26 : decode cX8_setQuorum 26 = .ok (.getfield 164, 3) := by decide +kernel
theorem dX8_setQuorum_29 : decode cX8_setQuorum 29 = .ok (.iload_n 1, 1) := by decide +kernel
theorem dX8_setQuorum_30 : decode cX8_setQuorum 30 = .ok (.iaload, 1) := by decide +kernel
theorem dX8_setQuorum_31 : decode cX8_setQuorum 31 = .ok (.istore_n 3, 1) := by decide +kernel
theorem dX8_setQuorum_32 : decode cX8_setQuorum 32 = .ok (.aload_n 0, 1) := by decide +kernel
theorem dX8_setQuorum_33 : decode cX8_setQuorum 33 = .ok (.getfield 41, 3) := by decide +kernel
theorem dX8_setQuorum_36 : decode cX8_setQuorum 36 = .ok (.getfield 164, 3) := by decide +kernel
theorem dX8_setQuorum_39 : decode cX8_setQuorum 39 = .ok (.iload_n 1, 1) := by decide +kernel
theorem dX8_setQuorum_40 : decode cX8_setQuorum 40 = .ok (.iload_n 2, 1) := by decide +kernel
theorem dX8_setQuorum_41 : decode cX8_setQuorum 41 = .ok (.iastore, 1) := by decide +kernel
theorem dX8_setQuorum_42 : decode cX8_setQuorum 42 = .ok (.iload_n 3, 1) := by decide +kernel
theorem dX8_setQuorum_43 : decode cX8_setQuorum 43 = .ok (.ireturn, 1) := by decide +kernel
theorem dX8_setFaults_0 : decode cX8_setFaults 0 = .ok (.aload_n 0, 1) := by decide +kernel
theorem dX8_setFaults_1 : decode cX8_setFaults 1 = .ok (.iload_n 1, 1) := by decide +kernel
theorem dX8_setFaults_2 : decode cX8_setFaults 2 = .ok (.invokevirtual 129, 3) := by decide +kernel
theorem dX8_setFaults_5 : decode cX8_setFaults 5 = .ok (.iload_n 2, 1) := by decide +kernel
theorem dX8_setFaults_6 : decode cX8_setFaults 6 = .ok (.iconst 0, 1) := by decide +kernel
theorem dX8_setFaults_7 : decode cX8_setFaults 7 = .ok (.bipush 9, 2) := by decide +kernel
theorem dX8_setFaults_9 : decode cX8_setFaults 9 = .ok (.invokestatic 63, 3) := by decide +kernel
theorem dX8_setFaults_12 : decode cX8_setFaults 12 = .ok (.aload_n 0, 1) := by decide +kernel
theorem dX8_setFaults_13 : decode cX8_setFaults 13 = .ok (.getfield 51, 3) := by decide +kernel
theorem dX8_setFaults_16 : decode cX8_setFaults 16 = .ok (.aload_n 0, 1) := by decide +kernel
theorem dX8_setFaults_17 : decode cX8_setFaults 17 = .ok (.getfield 41, 3) := by decide +kernel
theorem dX8_setFaults_20 : decode cX8_setFaults 20 = .ok (.invokevirtual 167, 3) := by decide +kernel
theorem dX8_setFaults_23 : decode cX8_setFaults 23 = .ok (.aload_n 0, 1) := by decide +kernel
theorem dX8_setFaults_24 : decode cX8_setFaults 24 = .ok (.getfield 41, 3) := by decide +kernel
theorem dX8_setFaults_27 : decode cX8_setFaults 27 = .ok (.getfield 188, 3) := by decide +kernel
theorem dX8_setFaults_30 : decode cX8_setFaults 30 = .ok (.iload_n 1, 1) := by decide +kernel
theorem dX8_setFaults_31 : decode cX8_setFaults 31 = .ok (.iaload, 1) := by decide +kernel
theorem dX8_setFaults_32 : decode cX8_setFaults 32 = .ok (.istore_n 3, 1) := by decide +kernel
theorem dX8_setFaults_33 : decode cX8_setFaults 33 = .ok (.aload_n 0, 1) := by decide +kernel
theorem dX8_setFaults_34 : decode cX8_setFaults 34 = .ok (.getfield 41, 3) := by decide +kernel
theorem dX8_setFaults_37 : decode cX8_setFaults 37 = .ok (.getfield 188, 3) := by decide +kernel
theorem dX8_setFaults_40 : decode cX8_setFaults 40 = .ok (.iload_n 1, 1) := by decide +kernel
theorem dX8_setFaults_41 : decode cX8_setFaults 41 = .ok (.iload_n 2, 1) := by decide +kernel
theorem dX8_setFaults_42 : decode cX8_setFaults 42 = .ok (.iastore, 1) := by decide +kernel
theorem dX8_setFaults_43 : decode cX8_setFaults 43 = .ok (.iload_n 3, 1) := by decide +kernel
theorem dX8_setFaults_44 : decode cX8_setFaults 44 = .ok (.ireturn, 1) := by decide +kernel
theorem dX8_pardon_0 : decode cX8_pardon 0 = .ok (.aload_n 0, 1) := by decide +kernel
theorem dX8_pardon_1 : decode cX8_pardon 1 = .ok (.iload_n 1, 1) := by decide +kernel
theorem dX8_pardon_2 : decode cX8_pardon 2 = .ok (.invokevirtual 129, 3) := by decide +kernel
theorem dX8_pardon_5 : decode cX8_pardon 5 = .ok (.aload_n 0, 1) := by decide +kernel
theorem dX8_pardon_6 : decode cX8_pardon 6 = .ok (.getfield 41, 3) := by decide +kernel
theorem dX8_pardon_9 : decode cX8_pardon 9 = .ok (.iload_n 1, 1) := by decide +kernel
theorem dX8_pardon_10 : decode cX8_pardon 10 = .ok (.invokevirtual 191, 3) := by decide +kernel
theorem dX8_pardon_13 : decode cX8_pardon 13 = .ok (.ifCond .ne 13, 3) := by decide +kernel
theorem dX8_pardon_16 : decode cX8_pardon 16 = .ok (.new 71, 3) := by decide +kernel
theorem dX8_pardon_19 : decode cX8_pardon 19 = .ok (.dup, 1) := by decide +kernel
theorem dX8_pardon_20 : decode cX8_pardon 20 = .ok (.ldc 195, 2) := by decide +kernel
theorem dX8_pardon_22 : decode cX8_pardon 22 = .ok (.invokespecial 75, 3) := by decide +kernel
theorem dX8_pardon_25 : decode cX8_pardon 25 = .ok (.athrow, 1) := by decide +kernel
theorem dX8_pardon_26 : decode cX8_pardon 26 = .ok (.aload_n 0, 1) := by decide +kernel
theorem dX8_pardon_27 : decode cX8_pardon 27 = .ok (.getfield 51, 3) := by decide +kernel
theorem dX8_pardon_30 : decode cX8_pardon 30 = .ok (.aload_n 0, 1) := by decide +kernel
theorem dX8_pardon_31 : decode cX8_pardon 31 = .ok (.getfield 41, 3) := by decide +kernel
theorem dX8_pardon_34 : decode cX8_pardon 34 = .ok (.invokevirtual 167, 3) := by decide +kernel
theorem dX8_pardon_37 : decode cX8_pardon 37 = .ok (.aload_n 0, 1) := by decide +kernel
theorem dX8_pardon_38 : decode cX8_pardon 38 = .ok (.getfield 41, 3) := by decide +kernel
theorem dX8_pardon_41 : decode cX8_pardon 41 = .ok (.getfield 197, 3) := by decide +kernel
theorem dX8_pardon_44 : decode cX8_pardon 44 = .ok (.iload_n 1, 1) := by decide +kernel
theorem dX8_pardon_45 : decode cX8_pardon 45 = .ok (.iaload, 1) := by decide +kernel
theorem dX8_pardon_46 : decode cX8_pardon 46 = .ok (.aload_n 0, 1) := by decide +kernel
theorem dX8_pardon_47 : decode cX8_pardon 47 = .ok (.getfield 41, 3) := by decide +kernel
theorem dX8_pardon_50 : decode cX8_pardon 50 = .ok (.getfield 114, 3) := by decide +kernel
theorem dX8_pardon_53 : decode cX8_pardon 53 = .ok (.isub, 1) := by decide +kernel
theorem dX8_pardon_54 : decode cX8_pardon 54 = .ok (.istore_n 2, 1) := by decide +kernel
theorem dX8_pardon_55 : decode cX8_pardon 55 = .ok (.aload_n 0, 1) := by decide +kernel
theorem dX8_pardon_56 : decode cX8_pardon 56 = .ok (.getfield 41, 3) := by decide +kernel
theorem dX8_pardon_59 : decode cX8_pardon 59 = .ok (.getfield 197, 3) := by decide +kernel
theorem dX8_pardon_62 : decode cX8_pardon 62 = .ok (.iload_n 1, 1) := by decide +kernel
theorem dX8_pardon_63 : decode cX8_pardon 63 = .ok (.aload_n 0, 1) := by decide +kernel
theorem dX8_pardon_64 : decode cX8_pardon 64 = .ok (.getfield 41, 3) := by decide +kernel
theorem dX8_pardon_67 : decode cX8_pardon 67 = .ok (.getfield 114, 3) := by decide +kernel
theorem dX8_pardon_70 : decode cX8_pardon 70 = .ok (.iastore, 1) := by decide +kernel
theorem dX8_pardon_71 : decode cX8_pardon 71 = .ok (.aload_n 0, 1) := by decide +kernel
theorem dX8_pardon_72 : decode cX8_pardon 72 = .ok (.getfield 41, 3) := by decide +kernel
theorem dX8_pardon_75 : decode cX8_pardon 75 = .ok (.getfield 200, 3) := by decide +kernel
theorem dX8_pardon_78 : decode cX8_pardon 78 = .ok (.iload_n 1, 1) := by decide +kernel
theorem dX8_pardon_79 : decode cX8_pardon 79 = .ok (.iconst 0, 1) := by decide +kernel
theorem dX8_pardon_80 : decode cX8_pardon 80 = .ok (.iastore, 1) := by decide +kernel
theorem dX8_pardon_81 : decode cX8_pardon 81 = .ok (.iload_n 2, 1) := by decide +kernel
theorem dX8_pardon_82 : decode cX8_pardon 82 = .ok (.ireturn, 1) := by decide +kernel
theorem dX8_tick_0 : decode cX8_tick 0 = .ok (.iload_n 1, 1) := by decide +kernel
theorem dX8_tick_1 : decode cX8_tick 1 = .ok (.iconst 1, 1) := by decide +kernel
theorem dX8_tick_2 : decode cX8_tick 2 = .ok (.bipush 50, 2) := by decide +kernel
theorem dX8_tick_4 : decode cX8_tick 4 = .ok (.invokestatic 63, 3) := by decide +kernel
theorem dX8_tick_7 : decode cX8_tick 7 = .ok (.aload_n 0, 1) := by decide +kernel
theorem dX8_tick_8 : decode cX8_tick 8 = .ok (.getfield 51, 3) := by decide +kernel
theorem dX8_tick_11 : decode cX8_tick 11 = .ok (.aload_n 0, 1) := by decide +kernel
theorem dX8_tick_12 : decode cX8_tick 12 = .ok (.getfield 41, 3) := by decide +kernel
theorem dX8_tick_15 : decode cX8_tick 15 = .ok (.invokevirtual 167, 3) := by decide +kernel
theorem dX8_tick_18 : decode cX8_tick 18 = .ok (.aload_n 0, 1) := by decide +kernel
theorem dX8_tick_19 : decode cX8_tick 19 = .ok (.getfield 41, 3) := by decide +kernel
theorem dX8_tick_22 : decode cX8_tick 22 = .ok (.getfield 117, 3) := by decide +kernel
theorem dX8_tick_25 : decode cX8_tick 25 = .ok (.istore_n 2, 1) := by decide +kernel
theorem dX8_tick_26 : decode cX8_tick 26 = .ok (.aload_n 0, 1) := by decide +kernel
theorem dX8_tick_27 : decode cX8_tick 27 = .ok (.getfield 41, 3) := by decide +kernel
theorem dX8_tick_30 : decode cX8_tick 30 = .ok (.iload_n 1, 1) := by decide +kernel
theorem dX8_tick_31 : decode cX8_tick 31 = .ok (.invokevirtual 203, 3) := by decide +kernel
theorem dX8_tick_34 : decode cX8_tick 34 = .ok (.aload_n 0, 1) := by decide +kernel
theorem dX8_tick_35 : decode cX8_tick 35 = .ok (.getfield 41, 3) := by decide +kernel
theorem dX8_tick_38 : decode cX8_tick 38 = .ok (.getfield 117, 3) := by decide +kernel
theorem dX8_tick_41 : decode cX8_tick 41 = .ok (.iload_n 2, 1) := by decide +kernel
theorem dX8_tick_42 : decode cX8_tick 42 = .ok (.isub, 1) := by decide +kernel
theorem dX8_tick_43 : decode cX8_tick 43 = .ok (.ireturn, 1) := by decide +kernel
theorem dX8_undo_0 : decode cX8_undo 0 = .ok (.aload_n 0, 1) := by decide +kernel
theorem dX8_undo_1 : decode cX8_undo 1 = .ok (.getfield 51, 3) := by decide +kernel
theorem dX8_undo_4 : decode cX8_undo 4 = .ok (.getfield 206, 3) := by decide +kernel
theorem dX8_undo_7 : decode cX8_undo 7 = .ok (.ifCond .ne 13, 3) := by decide +kernel
theorem dX8_undo_10 : decode cX8_undo 10 = .ok (.new 71, 3) := by decide +kernel
theorem dX8_undo_13 : decode cX8_undo 13 = .ok (.dup, 1) := by decide +kernel
theorem dX8_undo_14 : decode cX8_undo 14 = .ok (.ldc 207, 2) := by decide +kernel
theorem dX8_undo_16 : decode cX8_undo 16 = .ok (.invokespecial 75, 3) := by decide +kernel
theorem dX8_undo_19 : decode cX8_undo 19 = .ok (.athrow, 1) := by decide +kernel
theorem dX8_undo_20 : decode cX8_undo 20 = .ok (.aload_n 0, 1) := by decide +kernel
theorem dX8_undo_21 : decode cX8_undo 21 = .ok (.getfield 51, 3) := by decide +kernel
theorem dX8_undo_24 : decode cX8_undo 24 = .ok (.aload_n 0, 1) := by decide +kernel
theorem dX8_undo_25 : decode cX8_undo 25 = .ok (.getfield 41, 3) := by decide +kernel
theorem dX8_undo_28 : decode cX8_undo 28 = .ok (.invokevirtual 209, 3) := by decide +kernel
theorem dX8_undo_31 : decode cX8_undo 31 = .ok (.aload_n 0, 1) := by decide +kernel
theorem dX8_undo_32 : decode cX8_undo 32 = .ok (.getfield 51, 3) := by decide +kernel
theorem dX8_undo_35 : decode cX8_undo 35 = .ok (.getfield 206, 3) := by decide +kernel
theorem dX8_undo_38 : decode cX8_undo 38 = .ok (.ireturn, 1) := by decide +kernel
theorem dX8_state_0 : decode cX8_state 0 = .ok (.aload_n 0, 1) := by decide +kernel
theorem dX8_state_1 : decode cX8_state 1 = .ok (.iload_n 1, 1) := by decide +kernel
theorem dX8_state_2 : decode cX8_state 2 = .ok (.invokevirtual 129, 3) := by decide +kernel
theorem dX8_state_5 : decode cX8_state 5 = .ok (.aload_n 0, 1) := by decide +kernel
theorem dX8_state_6 : decode cX8_state 6 = .ok (.iload_n 2, 1) := by decide +kernel
theorem dX8_state_7 : decode cX8_state 7 = .ok (.invokevirtual 137, 3) := by decide +kernel
theorem dX8_state_10 : decode cX8_state 10 = .ok (.aload_n 0, 1) := by decide +kernel
theorem dX8_state_11 : decode cX8_state 11 = .ok (.getfield 41, 3) := by decide +kernel
theorem dX8_state_14 : decode cX8_state 14 = .ok (.iload_n 1, 1) := by decide +kernel
theorem dX8_state_15 : decode cX8_state 15 = .ok (.iload_n 2, 1) := by decide +kernel
theorem dX8_state_16 : decode cX8_state 16 = .ok (.invokevirtual 212, 3) := by decide +kernel
theorem dX8_state_19 : decode cX8_state 19 = .ok (.ireturn, 1) := by decide +kernel
theorem dX8_next_0 : decode cX8_next 0 = .ok (.aload_n 0, 1) := by decide +kernel
theorem dX8_next_1 : decode cX8_next 1 = .ok (.iload_n 1, 1) := by decide +kernel
theorem dX8_next_2 : decode cX8_next 2 = .ok (.invokevirtual 129, 3) := by decide +kernel
theorem dX8_next_5 : decode cX8_next 5 = .ok (.aload_n 0, 1) := by decide +kernel
theorem dX8_next_6 : decode cX8_next 6 = .ok (.getfield 41, 3) := by decide +kernel
theorem dX8_next_9 : decode cX8_next 9 = .ok (.iload_n 1, 1) := by decide +kernel
theorem dX8_next_10 : decode cX8_next 10 = .ok (.invokevirtual 215, 3) := by decide +kernel
theorem dX8_next_13 : decode cX8_next 13 = .ok (.ireturn, 1) := by decide +kernel
theorem dX8_breaks_0 : decode cX8_breaks 0 = .ok (.aload_n 0, 1) := by decide +kernel
theorem dX8_breaks_1 : decode cX8_breaks 1 = .ok (.iload_n 1, 1) := by decide +kernel
theorem dX8_breaks_2 : decode cX8_breaks 2 = .ok (.invokevirtual 129, 3) := by decide +kernel
theorem dX8_breaks_5 : decode cX8_breaks 5 = .ok (.aload_n 0, 1) := by decide +kernel
theorem dX8_breaks_6 : decode cX8_breaks 6 = .ok (.iload_n 2, 1) := by decide +kernel
theorem dX8_breaks_7 : decode cX8_breaks 7 = .ok (.invokevirtual 137, 3) := by decide +kernel
theorem dX8_breaks_10 : decode cX8_breaks 10 = .ok (.iload_n 3, 1) := by decide +kernel
theorem dX8_breaks_11 : decode cX8_breaks 11 = .ok (.iconst 0, 1) := by decide +kernel
theorem dX8_breaks_12 : decode cX8_breaks 12 = .ok (.iconst 3, 1) := by decide +kernel
theorem dX8_breaks_13 : decode cX8_breaks 13 = .ok (.invokestatic 63, 3) := by decide +kernel
theorem dX8_breaks_16 : decode cX8_breaks 16 = .ok (.aload_n 0, 1) := by decide +kernel
theorem dX8_breaks_17 : decode cX8_breaks 17 = .ok (.getfield 25, 3) := by decide +kernel
theorem dX8_breaks_20 : decode cX8_breaks 20 = .ok (.getfield 93, 3) := by decide +kernel
theorem dX8_breaks_23 : decode cX8_breaks 23 = .ok (.aload_n 0, 1) := by decide +kernel
theorem dX8_breaks_24 : decode cX8_breaks 24 = .ok (.getfield 41, 3) := by decide +kernel
theorem dX8_breaks_27 : decode cX8_breaks 27 = .ok (.getfield 144, 3) := by decide +kernel
theorem dX8_breaks_30 : decode cX8_breaks 30 = .ok (.iload_n 1, 1) := by decide +kernel
theorem dX8_breaks_31 : decode cX8_breaks 31 = .ok (.iaload, 1) := by decide +kernel
theorem dX8_breaks_32 : decode cX8_breaks 32 = .ok (.aload_n 0, 1) := by decide +kernel
theorem dX8_breaks_33 : decode cX8_breaks 33 = .ok (.getfield 41, 3) := by decide +kernel
theorem dX8_breaks_36 : decode cX8_breaks 36 = .ok (.getfield 144, 3) := by decide +kernel
theorem dX8_breaks_39 : decode cX8_breaks 39 = .ok (.iload_n 1, 1) := by decide +kernel
theorem dX8_breaks_40 : decode cX8_breaks 40 = .ok (.iaload, 1) := by decide +kernel
theorem dX8_breaks_41 : decode cX8_breaks 41 = .ok (.iload_n 2, 1) := by decide +kernel
theorem dX8_breaks_42 : decode cX8_breaks 42 = .ok (.iload_n 3, 1) := by decide +kernel
theorem dX8_breaks_43 : decode cX8_breaks 43 = .ok (.invokestatic 171, 3) := by decide +kernel
theorem dX8_breaks_46 : decode cX8_breaks 46 = .ok (.invokevirtual 218, 3) := by decide +kernel
theorem dX8_breaks_49 : decode cX8_breaks 49 = .ok (.ireturn, 1) := by decide +kernel
theorem dX8_holdsUp_0 : decode cX8_holdsUp 0 = .ok (.aload_n 0, 1) := by decide +kernel
theorem dX8_holdsUp_1 : decode cX8_holdsUp 1 = .ok (.iload_n 1, 1) := by decide +kernel
theorem dX8_holdsUp_2 : decode cX8_holdsUp 2 = .ok (.invokevirtual 152, 3) := by decide +kernel
theorem dX8_holdsUp_5 : decode cX8_holdsUp 5 = .ok (.aload_n 0, 1) := by decide +kernel
theorem dX8_holdsUp_6 : decode cX8_holdsUp 6 = .ok (.getfield 41, 3) := by decide +kernel
theorem dX8_holdsUp_9 : decode cX8_holdsUp 9 = .ok (.iload_n 1, 1) := by decide +kernel
theorem dX8_holdsUp_10 : decode cX8_holdsUp 10 = .ok (.invokevirtual 221, 3) := by decide +kernel
theorem dX8_holdsUp_13 : decode cX8_holdsUp 13 = .ok (.ireturn, 1) := by decide +kernel
theorem dX8_missing_0 : decode cX8_missing 0 = .ok (.aload_n 0, 1) := by decide +kernel
theorem dX8_missing_1 : decode cX8_missing 1 = .ok (.iload_n 1, 1) := by decide +kernel
theorem dX8_missing_2 : decode cX8_missing 2 = .ok (.invokevirtual 137, 3) := by decide +kernel
theorem dX8_missing_5 : decode cX8_missing 5 = .ok (.aload_n 0, 1) := by decide +kernel
theorem dX8_missing_6 : decode cX8_missing 6 = .ok (.getfield 41, 3) := by decide +kernel
theorem dX8_missing_9 : decode cX8_missing 9 = .ok (.iload_n 1, 1) := by decide +kernel
theorem dX8_missing_10 : decode cX8_missing 10 = .ok (.invokevirtual 224, 3) := by decide +kernel
theorem dX8_missing_13 : decode cX8_missing 13 = .ok (.ireturn, 1) := by decide +kernel
theorem dX8_ahead_0 : decode cX8_ahead 0 = .ok (.aload_n 0, 1) := by decide +kernel
theorem dX8_ahead_1 : decode cX8_ahead 1 = .ok (.iload_n 2, 1) := by decide +kernel
theorem dX8_ahead_2 : decode cX8_ahead 2 = .ok (.invokevirtual 129, 3) := by decide +kernel
theorem dX8_ahead_5 : decode cX8_ahead 5 = .ok (.iload_n 1, 1) := by decide +kernel
theorem dX8_ahead_6 : decode cX8_ahead 6 = .ok (.iconst 0, 1) := by decide +kernel
theorem dX8_ahead_7 : decode cX8_ahead 7 = .ok (.bipush 99, 2) := by decide +kernel
theorem dX8_ahead_9 : decode cX8_ahead 9 = .ok (.invokestatic 63, 3) := by decide +kernel
theorem dX8_ahead_12 : decode cX8_ahead 12 = .ok (.iload_n 3, 1) := by decide +kernel
theorem dX8_ahead_13 : decode cX8_ahead 13 = .ok (.iconst 0, 1) := by decide +kernel
theorem dX8_ahead_14 : decode cX8_ahead 14 = .ok (.bipush 6, 2) := by decide +kernel
theorem dX8_ahead_16 : decode cX8_ahead 16 = .ok (.invokestatic 63, 3) := by decide +kernel
theorem dX8_ahead_19 : decode cX8_ahead 19 = .ok (.aload_n 0, 1) := by decide +kernel
theorem dX8_ahead_20 : decode cX8_ahead 20 = .ok (.getfield 45, 3) := by decide +kernel
theorem dX8_ahead_23 : decode cX8_ahead 23 = .ok (.aload_n 0, 1) := by decide +kernel
theorem dX8_ahead_24 : decode cX8_ahead 24 = .ok (.getfield 41, 3) := by decide +kernel
theorem dX8_ahead_27 : decode cX8_ahead 27 = .ok (.invokevirtual 227, 3) := by decide +kernel
theorem dX8_ahead_30 : decode cX8_ahead 30 = .ok (.aload_n 0, 1) := by decide +kernel
theorem dX8_ahead_31 : decode cX8_ahead 31 = .ok (.getfield 45, 3) := by decide +kernel
theorem dX8_ahead_34 : decode cX8_ahead 34 = .ok (.iload_n 1, 1) := by decide +kernel
theorem dX8_ahead_35 : decode cX8_ahead 35 = .ok (.invokevirtual 203, 3) := by decide +kernel
theorem dX8_ahead_38 : decode cX8_ahead 38 = .ok (.aload_n 0, 1) := by decide +kernel
theorem dX8_ahead_39 : decode cX8_ahead 39 = .ok (.getfield 45, 3) := by decide +kernel
theorem dX8_ahead_42 : decode cX8_ahead 42 = .ok (.iload_n 2, 1) := by decide +kernel
theorem dX8_ahead_43 : decode cX8_ahead 43 = .ok (.iload_n 3, 1) := by decide +kernel
theorem dX8_ahead_44 : decode cX8_ahead 44 = .ok (.invokevirtual 133, 3) := by decide +kernel
theorem dX8_ahead_47 : decode cX8_ahead 47 = .ok (.ireturn, 1) := by decide +kernel
theorem dX8_calmAfter_0 : decode cX8_calmAfter 0 = .ok (.aload_n 0, 1) := by decide +kernel
theorem dX8_calmAfter_1 : decode cX8_calmAfter 1 = .ok (.getfield 45, 3) := by decide +kernel
theorem dX8_calmAfter_4 : decode cX8_calmAfter 4 = .ok (.aload_n 0, 1) := by decide +kernel
theorem dX8_calmAfter_5 : decode cX8_calmAfter 5 = .ok (.getfield 41, 3) := by decide +kernel
theorem dX8_calmAfter_8 : decode cX8_calmAfter 8 = .ok (.invokevirtual 227, 3) := by decide +kernel
theorem dX8_calmAfter_11 : decode cX8_calmAfter 11 = .ok (.iconst 0, 1) := by decide +kernel
theorem dX8_calmAfter_12 : decode cX8_calmAfter 12 = .ok (.istore_n 1, 1) := by decide +kernel
theorem dX8_calmAfter_13 : decode cX8_calmAfter 13 = .ok (.iload_n 1, 1) := by decide +kernel
theorem dX8_calmAfter_14 : decode cX8_calmAfter 14 = .ok (.bipush 99, 2) := by decide +kernel
theorem dX8_calmAfter_16 : decode cX8_calmAfter 16 = .ok (.if_icmp .gt 29, 3) := by decide +kernel
theorem dX8_calmAfter_19 : decode cX8_calmAfter 19 = .ok (.aload_n 0, 1) := by decide +kernel
theorem dX8_calmAfter_20 : decode cX8_calmAfter 20 = .ok (.getfield 45, 3) := by decide +kernel
theorem dX8_calmAfter_23 : decode cX8_calmAfter 23 = .ok (.invokevirtual 230, 3) := by decide +kernel
theorem dX8_calmAfter_26 : decode cX8_calmAfter 26 = .ok (.ifCond .ne 5, 3) := by decide +kernel
theorem dX8_calmAfter_29 : decode cX8_calmAfter 29 = .ok (.iload_n 1, 1) := by decide +kernel
theorem dX8_calmAfter_30 : decode cX8_calmAfter 30 = .ok (.ireturn, 1) := by decide +kernel
theorem dX8_calmAfter_31 : decode cX8_calmAfter 31 = .ok (.aload_n 0, 1) := by decide +kernel
theorem dX8_calmAfter_32 : decode cX8_calmAfter 32 = .ok (.getfield 45, 3) := by decide +kernel
theorem dX8_calmAfter_35 : decode cX8_calmAfter 35 = .ok (.iconst 1, 1) := by decide +kernel
theorem dX8_calmAfter_36 : decode cX8_calmAfter 36 = .ok (.invokevirtual 203, 3) := by decide +kernel
theorem dX8_calmAfter_39 : decode cX8_calmAfter 39 = .ok (.iinc 1 1, 3) := by decide +kernel
theorem dX8_calmAfter_42 : decode cX8_calmAfter 42 = .ok (.goto (-29), 3) := by decide +kernel
theorem dX8_calmAfter_45 : decode cX8_calmAfter 45 = .ok (.bipush (-9), 2) := by decide +kernel
theorem dX8_calmAfter_47 : decode cX8_calmAfter 47 = .ok (.ireturn, 1) := by decide +kernel
theorem dX8_fewest_0 : decode cX8_fewest 0 = .ok (.aload_n 0, 1) := by decide +kernel
theorem dX8_fewest_1 : decode cX8_fewest 1 = .ok (.iload_n 1, 1) := by decide +kernel
theorem dX8_fewest_2 : decode cX8_fewest 2 = .ok (.invokevirtual 129, 3) := by decide +kernel
theorem dX8_fewest_5 : decode cX8_fewest 5 = .ok (.aload_n 0, 1) := by decide +kernel
theorem dX8_fewest_6 : decode cX8_fewest 6 = .ok (.getfield 34, 3) := by decide +kernel
theorem dX8_fewest_9 : decode cX8_fewest 9 = .ok (.aload_n 0, 1) := by decide +kernel
theorem dX8_fewest_10 : decode cX8_fewest 10 = .ok (.getfield 41, 3) := by decide +kernel
theorem dX8_fewest_13 : decode cX8_fewest 13 = .ok (.getfield 144, 3) := by decide +kernel
theorem dX8_fewest_16 : decode cX8_fewest 16 = .ok (.iload_n 1, 1) := by decide +kernel
theorem dX8_fewest_17 : decode cX8_fewest 17 = .ok (.iaload, 1) := by decide +kernel
theorem dX8_fewest_18 : decode cX8_fewest 18 = .ok (.aload_n 0, 1) := by decide +kernel
theorem dX8_fewest_19 : decode cX8_fewest 19 = .ok (.getfield 41, 3) := by decide +kernel
theorem dX8_fewest_22 : decode cX8_fewest 22 = .ok (.getfield 140, 3) := by decide +kernel
theorem dX8_fewest_25 : decode cX8_fewest 25 = .ok (.iload_n 1, 1) := by decide +kernel
theorem dX8_fewest_26 : decode cX8_fewest 26 = .ok (.iaload, 1) := by decide +kernel
theorem dX8_fewest_27 : decode cX8_fewest 27 = .ok (.invokevirtual 233, 3) := by decide +kernel
theorem dX8_fewest_30 : decode cX8_fewest 30 = .ok (.ireturn, 1) := by decide +kernel
theorem dX8_step_0 : decode cX8_step 0 = .ok (.aload_n 0, 1) := by decide +kernel
theorem dX8_step_1 : decode cX8_step 1 = .ok (.iload_n 1, 1) := by decide +kernel
theorem dX8_step_2 : decode cX8_step 2 = .ok (.invokevirtual 129, 3) := by decide +kernel
theorem dX8_step_5 : decode cX8_step 5 = .ok (.iload_n 2, 1) := by decide +kernel
theorem dX8_step_6 : decode cX8_step 6 = .ok (.ifCond .ge 13, 3) := by decide +kernel
theorem dX8_step_9 : decode cX8_step 9 = .ok (.new 124, 3) := by decide +kernel
theorem dX8_step_12 : decode cX8_step 12 = .ok (.dup, 1) := by decide +kernel
theorem dX8_step_13 : decode cX8_step 13 = .ok (.ldc 236, 2) := by decide +kernel
theorem dX8_step_15 : decode cX8_step 15 = .ok (.invokespecial 128, 3) := by decide +kernel
theorem dX8_step_18 : decode cX8_step 18 = .ok (.athrow, 1) := by decide +kernel
theorem dX8_step_19 : decode cX8_step 19 = .ok (.aload_n 0, 1) := by decide +kernel
theorem dX8_step_20 : decode cX8_step 20 = .ok (.getfield 34, 3) := by decide +kernel
theorem dX8_step_23 : decode cX8_step 23 = .ok (.aload_n 0, 1) := by decide +kernel
theorem dX8_step_24 : decode cX8_step 24 = .ok (.getfield 41, 3) := by decide +kernel
theorem dX8_step_27 : decode cX8_step 27 = .ok (.getfield 144, 3) := by decide +kernel
theorem dX8_step_30 : decode cX8_step 30 = .ok (.iload_n 1, 1) := by decide +kernel
theorem dX8_step_31 : decode cX8_step 31 = .ok (.iaload, 1) := by decide +kernel
theorem dX8_step_32 : decode cX8_step 32 = .ok (.aload_n 0, 1) := by decide +kernel
theorem dX8_step_33 : decode cX8_step 33 = .ok (.getfield 41, 3) := by decide +kernel
theorem dX8_step_36 : decode cX8_step 36 = .ok (.getfield 140, 3) := by decide +kernel
theorem dX8_step_39 : decode cX8_step 39 = .ok (.iload_n 1, 1) := by decide +kernel
theorem dX8_step_40 : decode cX8_step 40 = .ok (.iaload, 1) := by decide +kernel
theorem dX8_step_41 : decode cX8_step 41 = .ok (.iload_n 2, 1) := by decide +kernel
theorem dX8_step_42 : decode cX8_step 42 = .ok (.invokevirtual 238, 3) := by decide +kernel
theorem dX8_step_45 : decode cX8_step 45 = .ok (.ireturn, 1) := by decide +kernel
theorem dX8_needed_0 : decode cX8_needed 0 = .ok (.aload_n 0, 1) := by decide +kernel
theorem dX8_needed_1 : decode cX8_needed 1 = .ok (.iload_n 1, 1) := by decide +kernel
theorem dX8_needed_2 : decode cX8_needed 2 = .ok (.invokevirtual 137, 3) := by decide +kernel
theorem dX8_needed_5 : decode cX8_needed 5 = .ok (.aload_n 0, 1) := by decide +kernel
theorem dX8_needed_6 : decode cX8_needed 6 = .ok (.iload_n 3, 1) := by decide +kernel
theorem dX8_needed_7 : decode cX8_needed 7 = .ok (.invokevirtual 137, 3) := by decide +kernel
theorem dX8_needed_10 : decode cX8_needed 10 = .ok (.iload_n 2, 1) := by decide +kernel
theorem dX8_needed_11 : decode cX8_needed 11 = .ok (.iconst 0, 1) := by decide +kernel
theorem dX8_needed_12 : decode cX8_needed 12 = .ok (.iconst 3, 1) := by decide +kernel
theorem dX8_needed_13 : decode cX8_needed 13 = .ok (.invokestatic 63, 3) := by decide +kernel
theorem dX8_needed_16 : decode cX8_needed 16 = .ok (.aload_n 0, 1) := by decide +kernel
theorem dX8_needed_17 : decode cX8_needed 17 = .ok (.getfield 25, 3) := by decide +kernel
theorem dX8_needed_20 : decode cX8_needed 20 = .ok (.getfield 93, 3) := by decide +kernel
theorem dX8_needed_23 : decode cX8_needed 23 = .ok (.iconst 0, 1) := by decide +kernel
theorem dX8_needed_24 : decode cX8_needed 24 = .ok (.iload_n 1, 1) := by decide +kernel
theorem dX8_needed_25 : decode cX8_needed 25 = .ok (.iload_n 2, 1) := by decide +kernel
theorem dX8_needed_26 : decode cX8_needed 26 = .ok (.invokestatic 171, 3) := by decide +kernel
theorem dX8_needed_29 : decode cX8_needed 29 = .ok (.invokevirtual 241, 3) := by decide +kernel
theorem dX8_needed_32 : decode cX8_needed 32 = .ok (.iload_n 3, 1) := by decide +kernel
theorem dX8_needed_33 : decode cX8_needed 33 = .ok (.invokestatic 147, 3) := by decide +kernel
theorem dX8_needed_36 : decode cX8_needed 36 = .ok (.ireturn, 1) := by decide +kernel
theorem dX8_isPossible_0 : decode cX8_isPossible 0 = .ok (.aload_n 0, 1) := by decide +kernel
theorem dX8_isPossible_1 : decode cX8_isPossible 1 = .ok (.iload_n 1, 1) := by decide +kernel
theorem dX8_isPossible_2 : decode cX8_isPossible 2 = .ok (.invokevirtual 137, 3) := by decide +kernel
theorem dX8_isPossible_5 : decode cX8_isPossible 5 = .ok (.iload_n 2, 1) := by decide +kernel
theorem dX8_isPossible_6 : decode cX8_isPossible 6 = .ok (.iconst 0, 1) := by decide +kernel
theorem dX8_isPossible_7 : decode cX8_isPossible 7 = .ok (.iconst 3, 1) := by decide +kernel
theorem dX8_isPossible_8 : decode cX8_isPossible 8 = .ok (.invokestatic 63, 3) := by decide +kernel
theorem dX8_isPossible_11 : decode cX8_isPossible 11 = .ok (.aload_n 0, 1) := by decide +kernel
theorem dX8_isPossible_12 : decode cX8_isPossible 12 = .ok (.getfield 25, 3) := by decide +kernel
theorem dX8_isPossible_15 : decode cX8_isPossible 15 = .ok (.getfield 93, 3) := by decide +kernel
theorem dX8_isPossible_18 : decode cX8_isPossible 18 = .ok (.iload_n 1, 1) := by decide +kernel
theorem dX8_isPossible_19 : decode cX8_isPossible 19 = .ok (.iload_n 2, 1) := by decide +kernel
theorem dX8_isPossible_20 : decode cX8_isPossible 20 = .ok (.invokevirtual 244, 3) := by decide +kernel
theorem dX8_isPossible_23 : decode cX8_isPossible 23 = .ok (.ireturn, 1) := by decide +kernel
theorem dX8_explains_0 : decode cX8_explains 0 = .ok (.aload_n 0, 1) := by decide +kernel
theorem dX8_explains_1 : decode cX8_explains 1 = .ok (.iload_n 1, 1) := by decide +kernel
theorem dX8_explains_2 : decode cX8_explains 2 = .ok (.invokevirtual 129, 3) := by decide +kernel
theorem dX8_explains_5 : decode cX8_explains 5 = .ok (.iload_n 2, 1) := by decide +kernel
theorem dX8_explains_6 : decode cX8_explains 6 = .ok (.iconst 0, 1) := by decide +kernel
theorem dX8_explains_7 : decode cX8_explains 7 = .ok (.bipush 63, 2) := by decide +kernel
theorem dX8_explains_9 : decode cX8_explains 9 = .ok (.invokestatic 63, 3) := by decide +kernel
theorem dX8_explains_12 : decode cX8_explains 12 = .ok (.aload_n 0, 1) := by decide +kernel
theorem dX8_explains_13 : decode cX8_explains 13 = .ok (.getfield 41, 3) := by decide +kernel
theorem dX8_explains_16 : decode cX8_explains 16 = .ok (.iload_n 1, 1) := by decide +kernel
theorem dX8_explains_17 : decode cX8_explains 17 = .ok (.iload_n 2, 1) := by decide +kernel
theorem dX8_explains_18 : decode cX8_explains 18 = .ok (.invokevirtual 248, 3) := by decide +kernel
theorem dX8_explains_21 : decode cX8_explains 21 = .ok (.ireturn, 1) := by decide +kernel
theorem dX8_ranked_0 : decode cX8_ranked 0 = .ok (.aload_n 0, 1) := by decide +kernel
theorem dX8_ranked_1 : decode cX8_ranked 1 = .ok (.iload_n 1, 1) := by decide +kernel
theorem dX8_ranked_2 : decode cX8_ranked 2 = .ok (.invokevirtual 129, 3) := by decide +kernel
theorem dX8_ranked_5 : decode cX8_ranked 5 = .ok (.iconst 0, 1) := by decide +kernel
theorem dX8_ranked_6 : decode cX8_ranked 6 = .ok (.istore_n 2, 1) := by decide +kernel
theorem dX8_ranked_7 : decode cX8_ranked 7 = .ok (.iload_n 2, 1) := by decide +kernel
theorem dX8_ranked_8 : decode cX8_ranked 8 = .ok (.aload_n 0, 1) := by decide +kernel
theorem dX8_ranked_9 : decode cX8_ranked 9 = .ok (.getfield 25, 3) := by decide +kernel
theorem dX8_ranked_12 : decode cX8_ranked 12 = .ok (.getfield 102, 3) := by decide +kernel
theorem dX8_ranked_15 : decode cX8_ranked 15 = .ok (.if_icmp .ge 23, 3) := by decide +kernel
theorem dX8_ranked_18 : decode cX8_ranked 18 = .ok (.aload_n 0, 1) := by decide +kernel
theorem dX8_ranked_19 : decode cX8_ranked 19 = .ok (.getfield 41, 3) := by decide +kernel
theorem dX8_ranked_22 : decode cX8_ranked 22 = .ok (.iload_n 2, 1) := by decide +kernel
theorem dX8_ranked_23 : decode cX8_ranked 23 = .ok (.invokevirtual 251, 3) := by decide +kernel
theorem dX8_ranked_26 : decode cX8_ranked 26 = .ok (.iload_n 1, 1) := by decide +kernel
theorem dX8_ranked_27 : decode cX8_ranked 27 = .ok (.if_icmp .ne 5, 3) := by decide +kernel
theorem dX8_ranked_30 : decode cX8_ranked 30 = .ok (.iload_n 2, 1) := by decide +kernel
theorem dX8_ranked_31 : decode cX8_ranked 31 = .ok (.ireturn, 1) := by decide +kernel
theorem dX8_ranked_32 : decode cX8_ranked 32 = .ok (.iinc 2 1, 3) := by decide +kernel
theorem dX8_ranked_35 : decode cX8_ranked 35 = .ok (.goto (-28), 3) := by decide +kernel
theorem dX8_ranked_38 : decode cX8_ranked 38 = .ok (.bipush (-9), 2) := by decide +kernel
theorem dX8_ranked_40 : decode cX8_ranked 40 = .ok (.ireturn, 1) := by decide +kernel
theorem dX8_runScript_0 : decode cX8_runScript 0 = .ok (.iload_n 1, 1) := by decide +kernel
theorem dX8_runScript_1 : decode cX8_runScript 1 = .ok (.iconst 1, 1) := by decide +kernel
theorem dX8_runScript_2 : decode cX8_runScript 2 = .ok (.iconst 4, 1) := by decide +kernel
theorem dX8_runScript_3 : decode cX8_runScript 3 = .ok (.invokestatic 63, 3) := by decide +kernel
theorem dX8_runScript_6 : decode cX8_runScript 6 = .ok (.lconst 1, 1) := by decide +kernel
theorem dX8_runScript_7 : decode cX8_runScript 7 = .ok (.lstore 4, 2) := by decide +kernel
theorem dX8_runScript_9 : decode cX8_runScript 9 = .ok (.iconst 0, 1) := by decide +kernel
theorem dX8_runScript_10 : decode cX8_runScript 10 = .ok (.istore 6, 2) := by decide +kernel
theorem dX8_runScript_12 : decode cX8_runScript 12 = .ok (.iload 6, 2) := by decide +kernel
theorem dX8_runScript_14 : decode cX8_runScript 14 = .ok (.iload_n 1, 1) := by decide +kernel
theorem dX8_runScript_15 : decode cX8_runScript 15 = .ok (.if_icmp .ge 17, 3) := by decide +kernel
theorem dX8_runScript_18 : decode cX8_runScript 18 = .ok (.lload 4, 2) := by decide +kernel
theorem dX8_runScript_20 : decode cX8_runScript 20 = .ok (.ldc2_w 254, 3) := by decide +kernel
theorem dX8_runScript_23 : decode cX8_runScript 23 = .ok (.lmul, 1) := by decide +kernel
theorem dX8_runScript_24 : decode cX8_runScript 24 = .ok (.lstore 4, 2) := by decide +kernel
theorem dX8_runScript_26 : decode cX8_runScript 26 = .ok (.iinc 6 1, 3) := by decide +kernel
theorem dX8_runScript_29 : decode cX8_runScript 29 = .ok (.goto (-17), 3) := by decide +kernel
theorem dX8_runScript_32 : decode cX8_runScript 32 = .ok (.lload_n 2, 1) := by decide +kernel
theorem dX8_runScript_33 : decode cX8_runScript 33 = .ok (.lconst 0, 1) := by decide +kernel
theorem dX8_runScript_34 : decode cX8_runScript 34 = .ok (.lcmp, 1) := by decide +kernel
theorem dX8_runScript_35 : decode cX8_runScript 35 = .ok (.ifCond .lt 10, 3) := by decide +kernel
theorem dX8_runScript_38 : decode cX8_runScript 38 = .ok (.lload_n 2, 1) := by decide +kernel
theorem dX8_runScript_39 : decode cX8_runScript 39 = .ok (.lload 4, 2) := by decide +kernel
theorem dX8_runScript_41 : decode cX8_runScript 41 = .ok (.lcmp, 1) := by decide +kernel
theorem dX8_runScript_42 : decode cX8_runScript 42 = .ok (.ifCond .lt 14, 3) := by decide +kernel
theorem dX8_runScript_45 : decode cX8_runScript 45 = .ok (.new 124, 3) := by decide +kernel
theorem dX8_runScript_48 : decode cX8_runScript 48 = .ok (.dup, 1) := by decide +kernel
theorem dX8_runScript_49 : decode cX8_runScript 49 = .ok (.ldc_w 256, 3) := by decide +kernel
theorem dX8_runScript_52 : decode cX8_runScript 52 = .ok (.invokespecial 128, 3) := by decide +kernel
theorem dX8_runScript_55 : decode cX8_runScript 55 = .ok (.athrow, 1) := by decide +kernel
theorem dX8_runScript_56 : decode cX8_runScript 56 = .ok (.aload_n 0, 1) := by decide +kernel
theorem dX8_runScript_57 : decode cX8_runScript 57 = .ok (.getfield 45, 3) := by decide +kernel
theorem dX8_runScript_60 : decode cX8_runScript 60 = .ok (.aload_n 0, 1) := by decide +kernel
theorem dX8_runScript_61 : decode cX8_runScript 61 = .ok (.getfield 41, 3) := by decide +kernel
theorem dX8_runScript_64 : decode cX8_runScript 64 = .ok (.invokevirtual 227, 3) := by decide +kernel
theorem dX8_runScript_67 : decode cX8_runScript 67 = .ok (.iconst 0, 1) := by decide +kernel
theorem dX8_runScript_68 : decode cX8_runScript 68 = .ok (.istore 6, 2) := by decide +kernel
theorem dX8_runScript_70 : decode cX8_runScript 70 = .ok (.iload 6, 2) := by decide +kernel
theorem dX8_runScript_72 : decode cX8_runScript 72 = .ok (.iload_n 1, 1) := by decide +kernel
theorem dX8_runScript_73 : decode cX8_runScript 73 = .ok (.if_icmp .ge 54, 3) := by decide +kernel
theorem dX8_runScript_76 : decode cX8_runScript 76 = .ok (.lload 4, 2) := by decide +kernel
theorem dX8_runScript_78 : decode cX8_runScript 78 = .ok (.ldc2_w 254, 3) := by decide +kernel
theorem dX8_runScript_81 : decode cX8_runScript 81 = .ok (.ldiv, 1) := by decide +kernel
theorem dX8_runScript_82 : decode cX8_runScript 82 = .ok (.lstore 4, 2) := by decide +kernel
theorem dX8_runScript_84 : decode cX8_runScript 84 = .ok (.lload 4, 2) := by decide +kernel
theorem dX8_runScript_86 : decode cX8_runScript 86 = .ok (.lconst 0, 1) := by decide +kernel
theorem dX8_runScript_87 : decode cX8_runScript 87 = .ok (.lcmp, 1) := by decide +kernel
theorem dX8_runScript_88 : decode cX8_runScript 88 = .ok (.ifCond .le 15, 3) := by decide +kernel
theorem dX8_runScript_91 : decode cX8_runScript 91 = .ok (.lload_n 2, 1) := by decide +kernel
theorem dX8_runScript_92 : decode cX8_runScript 92 = .ok (.lload 4, 2) := by decide +kernel
theorem dX8_runScript_94 : decode cX8_runScript 94 = .ok (.ldiv, 1) := by decide +kernel
theorem dX8_runScript_95 : decode cX8_runScript 95 = .ok (.ldc2_w 254, 3) := by decide +kernel
theorem dX8_runScript_98 : decode cX8_runScript 98 = .ok (.lrem, 1) := by decide +kernel
theorem dX8_runScript_99 : decode cX8_runScript 99 = .ok (.l2i, 1) := by decide +kernel
theorem dX8_runScript_100 : decode cX8_runScript 100 = .ok (.goto 4, 3) := by decide +kernel
theorem dX8_runScript_103 : decode cX8_runScript 103 = .ok (.iconst 0, 1) := by decide +kernel
theorem dX8_runScript_104 : decode cX8_runScript 104 = .ok (.istore 7, 2) := by decide +kernel
theorem dX8_runScript_106 : decode cX8_runScript 106 = .ok (.aload_n 0, 1) := by decide +kernel
theorem dX8_runScript_107 : decode cX8_runScript 107 = .ok (.getfield 45, 3) := by decide +kernel
theorem dX8_runScript_110 : decode cX8_runScript 110 = .ok (.iload 7, 2) := by decide +kernel
theorem dX8_runScript_112 : decode cX8_runScript 112 = .ok (.invokestatic 258, 3) := by decide +kernel
theorem dX8_runScript_115 : decode cX8_runScript 115 = .ok (.ifCond .ne 6, 3) := by decide +kernel
theorem dX8_runScript_118 : decode cX8_runScript 118 = .ok (.iload 6, 2) := by decide +kernel
theorem dX8_runScript_120 : decode cX8_runScript 120 = .ok (.ireturn, 1) := by decide +kernel
theorem dX8_runScript_121 : decode cX8_runScript 121 = .ok (.iinc 6 1, 3) := by decide +kernel
theorem dX8_runScript_124 : decode cX8_runScript 124 = .ok (.goto (-54), 3) := by decide +kernel
theorem dX8_runScript_127 : decode cX8_runScript 127 = .ok (.bipush (-9), 2) := by decide +kernel
theorem dX8_runScript_129 : decode cX8_runScript 129 = .ok (.ireturn, 1) := by decide +kernel
theorem dX8_simulate_0 : decode cX8_simulate 0 = .ok (.iload_n 3, 1) := by decide +kernel
theorem dX8_simulate_1 : decode cX8_simulate 1 = .ok (.iconst 1, 1) := by decide +kernel
theorem dX8_simulate_2 : decode cX8_simulate 2 = .ok (.bipush 60, 2) := by decide +kernel
theorem dX8_simulate_4 : decode cX8_simulate 4 = .ok (.invokestatic 63, 3) := by decide +kernel
theorem dX8_simulate_7 : decode cX8_simulate 7 = .ok (.aload_n 0, 1) := by decide +kernel
theorem dX8_simulate_8 : decode cX8_simulate 8 = .ok (.getfield 45, 3) := by decide +kernel
theorem dX8_simulate_11 : decode cX8_simulate 11 = .ok (.aload_n 0, 1) := by decide +kernel
theorem dX8_simulate_12 : decode cX8_simulate 12 = .ok (.getfield 41, 3) := by decide +kernel
theorem dX8_simulate_15 : decode cX8_simulate 15 = .ok (.invokevirtual 227, 3) := by decide +kernel
theorem dX8_simulate_18 : decode cX8_simulate 18 = .ok (.lload_n 1, 1) := by decide +kernel
theorem dX8_simulate_19 : decode cX8_simulate 19 = .ok (.lstore 4, 2) := by decide +kernel
theorem dX8_simulate_21 : decode cX8_simulate 21 = .ok (.iconst 0, 1) := by decide +kernel
theorem dX8_simulate_22 : decode cX8_simulate 22 = .ok (.istore 6, 2) := by decide +kernel
theorem dX8_simulate_24 : decode cX8_simulate 24 = .ok (.iload 6, 2) := by decide +kernel
theorem dX8_simulate_26 : decode cX8_simulate 26 = .ok (.iload_n 3, 1) := by decide +kernel
theorem dX8_simulate_27 : decode cX8_simulate 27 = .ok (.if_icmp .ge 42, 3) := by decide +kernel
theorem dX8_simulate_30 : decode cX8_simulate 30 = .ok (.lload 4, 2) := by decide +kernel
theorem dX8_simulate_32 : decode cX8_simulate 32 = .ok (.ldc2_w 264, 3) := by decide +kernel
theorem dX8_simulate_35 : decode cX8_simulate 35 = .ok (.lmul, 1) := by decide +kernel
theorem dX8_simulate_36 : decode cX8_simulate 36 = .ok (.ldc2_w 266, 3) := by decide +kernel
theorem dX8_simulate_39 : decode cX8_simulate 39 = .ok (.ladd, 1) := by decide +kernel
theorem dX8_simulate_40 : decode cX8_simulate 40 = .ok (.lstore 4, 2) := by decide +kernel
theorem dX8_simulate_42 : decode cX8_simulate 42 = .ok (.aload_n 0, 1) := by decide +kernel
theorem dX8_simulate_43 : decode cX8_simulate 43 = .ok (.getfield 45, 3) := by decide +kernel
theorem dX8_simulate_46 : decode cX8_simulate 46 = .ok (.lload 4, 2) := by decide +kernel
theorem dX8_simulate_48 : decode cX8_simulate 48 = .ok (.bipush 33, 2) := by decide +kernel
theorem dX8_simulate_50 : decode cX8_simulate 50 = .ok (.lushr, 1) := by decide +kernel
theorem dX8_simulate_51 : decode cX8_simulate 51 = .ok (.l2i, 1) := by decide +kernel
theorem dX8_simulate_52 : decode cX8_simulate 52 = .ok (.invokevirtual 268, 3) := by decide +kernel
theorem dX8_simulate_55 : decode cX8_simulate 55 = .ok (.aload_n 0, 1) := by decide +kernel
theorem dX8_simulate_56 : decode cX8_simulate 56 = .ok (.getfield 45, 3) := by decide +kernel
theorem dX8_simulate_59 : decode cX8_simulate 59 = .ok (.iconst 1, 1) := by decide +kernel
theorem dX8_simulate_60 : decode cX8_simulate 60 = .ok (.invokevirtual 203, 3) := by decide +kernel
theorem dX8_simulate_63 : decode cX8_simulate 63 = .ok (.iinc 6 1, 3) := by decide +kernel
theorem dX8_simulate_66 : decode cX8_simulate 66 = .ok (.goto (-42), 3) := by decide +kernel
theorem dX8_simulate_69 : decode cX8_simulate 69 = .ok (.aload_n 0, 1) := by decide +kernel
theorem dX8_simulate_70 : decode cX8_simulate 70 = .ok (.getfield 45, 3) := by decide +kernel
theorem dX8_simulate_73 : decode cX8_simulate 73 = .ok (.getfield 117, 3) := by decide +kernel
theorem dX8_simulate_76 : decode cX8_simulate 76 = .ok (.aload_n 0, 1) := by decide +kernel
theorem dX8_simulate_77 : decode cX8_simulate 77 = .ok (.getfield 41, 3) := by decide +kernel
theorem dX8_simulate_80 : decode cX8_simulate 80 = .ok (.getfield 117, 3) := by decide +kernel
theorem dX8_simulate_83 : decode cX8_simulate 83 = .ok (.isub, 1) := by decide +kernel
theorem dX8_simulate_84 : decode cX8_simulate 84 = .ok (.sipush 1000, 3) := by decide +kernel
theorem dX8_simulate_87 : decode cX8_simulate 87 = .ok (.aload_n 0, 1) := by decide +kernel
theorem dX8_simulate_88 : decode cX8_simulate 88 = .ok (.getfield 45, 3) := by decide +kernel
theorem dX8_simulate_91 : decode cX8_simulate 91 = .ok (.invokevirtual 230, 3) := by decide +kernel
theorem dX8_simulate_94 : decode cX8_simulate 94 = .ok (.invokestatic 183, 3) := by decide +kernel
theorem dX8_simulate_97 : decode cX8_simulate 97 = .ok (.imul, 1) := by decide +kernel
theorem dX8_simulate_98 : decode cX8_simulate 98 = .ok (.iadd, 1) := by decide +kernel
theorem dX8_simulate_99 : decode cX8_simulate 99 = .ok (.ireturn, 1) := by decide +kernel
theorem dX8_save_0 : decode cX8_save 0 = .ok (.iload_n 1, 1) := by decide +kernel
theorem dX8_save_1 : decode cX8_save 1 = .ok (.invokestatic 271, 3) := by decide +kernel
theorem dX8_save_4 : decode cX8_save 4 = .ok (.aload_n 0, 1) := by decide +kernel
theorem dX8_save_5 : decode cX8_save 5 = .ok (.getfield 55, 3) := by decide +kernel
theorem dX8_save_8 : decode cX8_save 8 = .ok (.iload_n 1, 1) := by decide +kernel
theorem dX8_save_9 : decode cX8_save 9 = .ok (.aaload, 1) := by decide +kernel
theorem dX8_save_10 : decode cX8_save 10 = .ok (.aload_n 0, 1) := by decide +kernel
theorem dX8_save_11 : decode cX8_save 11 = .ok (.getfield 41, 3) := by decide +kernel
theorem dX8_save_14 : decode cX8_save 14 = .ok (.invokevirtual 227, 3) := by decide +kernel
theorem dX8_save_17 : decode cX8_save 17 = .ok (.aload_n 0, 1) := by decide +kernel
theorem dX8_save_18 : decode cX8_save 18 = .ok (.getfield 59, 3) := by decide +kernel
theorem dX8_save_21 : decode cX8_save 21 = .ok (.iload_n 1, 1) := by decide +kernel
theorem dX8_save_22 : decode cX8_save 22 = .ok (.iconst 1, 1) := by decide +kernel
theorem dX8_save_23 : decode cX8_save 23 = .ok (.bastore, 1) := by decide +kernel
theorem dX8_save_24 : decode cX8_save 24 = .ok (.aload_n 0, 1) := by decide +kernel
theorem dX8_save_25 : decode cX8_save 25 = .ok (.getfield 41, 3) := by decide +kernel
theorem dX8_save_28 : decode cX8_save 28 = .ok (.getfield 114, 3) := by decide +kernel
theorem dX8_save_31 : decode cX8_save 31 = .ok (.ireturn, 1) := by decide +kernel
theorem dX8_restore_0 : decode cX8_restore 0 = .ok (.iload_n 1, 1) := by decide +kernel
theorem dX8_restore_1 : decode cX8_restore 1 = .ok (.invokestatic 271, 3) := by decide +kernel
theorem dX8_restore_4 : decode cX8_restore 4 = .ok (.aload_n 0, 1) := by decide +kernel
theorem dX8_restore_5 : decode cX8_restore 5 = .ok (.getfield 59, 3) := by decide +kernel
theorem dX8_restore_8 : decode cX8_restore 8 = .ok (.iload_n 1, 1) := by decide +kernel
theorem dX8_restore_9 : decode cX8_restore 9 = .ok (.baload, 1) := by decide +kernel
theorem dX8_restore_10 : decode cX8_restore 10 = .ok (.ifCond .ne 14, 3) := by decide +kernel
theorem dX8_restore_13 : decode cX8_restore 13 = .ok (.new 71, 3) := by decide +kernel
theorem dX8_restore_16 : decode cX8_restore 16 = .ok (.dup, 1) := by decide +kernel
theorem dX8_restore_17 : decode cX8_restore 17 = .ok (.ldc_w 274, 3) := by decide +kernel
theorem dX8_restore_20 : decode cX8_restore 20 = .ok (.invokespecial 75, 3) := by decide +kernel
theorem dX8_restore_23 : decode cX8_restore 23 = .ok (.athrow, 1) := by decide +kernel
theorem dX8_restore_24 : decode cX8_restore 24 = .ok (.aload_n 0, 1) := by decide +kernel
theorem dX8_restore_25 : decode cX8_restore 25 = .ok (.getfield 41, 3) := by decide +kernel
theorem dX8_restore_28 : decode cX8_restore 28 = .ok (.aload_n 0, 1) := by decide +kernel
theorem dX8_restore_29 : decode cX8_restore 29 = .ok (.getfield 55, 3) := by decide +kernel
theorem dX8_restore_32 : decode cX8_restore 32 = .ok (.iload_n 1, 1) := by decide +kernel
theorem dX8_restore_33 : decode cX8_restore 33 = .ok (.aaload, 1) := by decide +kernel
theorem dX8_restore_34 : decode cX8_restore 34 = .ok (.invokevirtual 227, 3) := by decide +kernel
theorem dX8_restore_37 : decode cX8_restore 37 = .ok (.aload_n 0, 1) := by decide +kernel
theorem dX8_restore_38 : decode cX8_restore 38 = .ok (.getfield 51, 3) := by decide +kernel
theorem dX8_restore_41 : decode cX8_restore 41 = .ok (.invokevirtual 92, 3) := by decide +kernel
theorem dX8_restore_44 : decode cX8_restore 44 = .ok (.aload_n 0, 1) := by decide +kernel
theorem dX8_restore_45 : decode cX8_restore 45 = .ok (.getfield 41, 3) := by decide +kernel
theorem dX8_restore_48 : decode cX8_restore 48 = .ok (.getfield 114, 3) := by decide +kernel
theorem dX8_restore_51 : decode cX8_restore 51 = .ok (.ireturn, 1) := by decide +kernel
theorem dX8_requireNode_0 : decode cX8_requireNode 0 = .ok (.iload_n 1, 1) := by decide +kernel
theorem dX8_requireNode_1 : decode cX8_requireNode 1 = .ok (.ifCond .lt 14, 3) := by decide +kernel
theorem dX8_requireNode_4 : decode cX8_requireNode 4 = .ok (.iload_n 1, 1) := by decide +kernel
theorem dX8_requireNode_5 : decode cX8_requireNode 5 = .ok (.aload_n 0, 1) := by decide +kernel
theorem dX8_requireNode_6 : decode cX8_requireNode 6 = .ok (.getfield 25, 3) := by decide +kernel
theorem dX8_requireNode_9 : decode cX8_requireNode 9 = .ok (.getfield 102, 3) := by decide +kernel
theorem dX8_requireNode_12 : decode cX8_requireNode 12 = .ok (.if_icmp .lt 14, 3) := by decide +kernel
theorem dX8_requireNode_15 : decode cX8_requireNode 15 = .ok (.new 276, 3) := by decide +kernel
theorem dX8_requireNode_18 : decode cX8_requireNode 18 = .ok (.dup, 1) := by decide +kernel
theorem dX8_requireNode_19 : decode cX8_requireNode 19 = .ok (.ldc_w 278, 3) := by decide +kernel
theorem dX8_requireNode_22 : decode cX8_requireNode 22 = .ok (.invokespecial 280, 3) := by decide +kernel
theorem dX8_requireNode_25 : decode cX8_requireNode 25 = .ok (.athrow, 1) := by decide +kernel
theorem dX8_requireNode_26 : decode cX8_requireNode 26 = .ok (.return_, 1) := by decide +kernel
theorem dX8_requireComponent_0 : decode cX8_requireComponent 0 = .ok (.iload_n 1, 1) := by decide +kernel
theorem dX8_requireComponent_1 : decode cX8_requireComponent 1 = .ok (.ifCond .lt 14, 3) := by decide +kernel
theorem dX8_requireComponent_4 : decode cX8_requireComponent 4 = .ok (.iload_n 1, 1) := by decide +kernel
theorem dX8_requireComponent_5 : decode cX8_requireComponent 5 = .ok (.aload_n 0, 1) := by decide +kernel
theorem dX8_requireComponent_6 : decode cX8_requireComponent 6 = .ok (.getfield 25, 3) := by decide +kernel
theorem dX8_requireComponent_9 : decode cX8_requireComponent 9 = .ok (.getfield 105, 3) := by decide +kernel
theorem dX8_requireComponent_12 : decode cX8_requireComponent 12 = .ok (.if_icmp .lt 14, 3) := by decide +kernel
theorem dX8_requireComponent_15 : decode cX8_requireComponent 15 = .ok (.new 276, 3) := by decide +kernel
theorem dX8_requireComponent_18 : decode cX8_requireComponent 18 = .ok (.dup, 1) := by decide +kernel
theorem dX8_requireComponent_19 : decode cX8_requireComponent 19 = .ok (.ldc_w 281, 3) := by decide +kernel
theorem dX8_requireComponent_22 : decode cX8_requireComponent 22 = .ok (.invokespecial 280, 3) := by decide +kernel
theorem dX8_requireComponent_25 : decode cX8_requireComponent 25 = .ok (.athrow, 1) := by decide +kernel
theorem dX8_requireComponent_26 : decode cX8_requireComponent 26 = .ok (.return_, 1) := by decide +kernel
theorem dX8_requireRule_0 : decode cX8_requireRule 0 = .ok (.iload_n 1, 1) := by decide +kernel
theorem dX8_requireRule_1 : decode cX8_requireRule 1 = .ok (.ifCond .lt 17, 3) := by decide +kernel
theorem dX8_requireRule_4 : decode cX8_requireRule 4 = .ok (.iload_n 1, 1) := by decide +kernel
theorem dX8_requireRule_5 : decode cX8_requireRule 5 = .ok (.aload_n 0, 1) := by decide +kernel
theorem dX8_requireRule_6 : decode cX8_requireRule 6 = .ok (.getfield 25, 3) := by decide +kernel
theorem dX8_requireRule_9 : decode cX8_requireRule 9 = .ok (.getfield 93, 3) := by decide +kernel
theorem dX8_requireRule_12 : decode cX8_requireRule 12 = .ok (.getfield 97, 3) := by decide +kernel
theorem dX8_requireRule_15 : decode cX8_requireRule 15 = .ok (.if_icmp .lt 14, 3) := by decide +kernel
theorem dX8_requireRule_18 : decode cX8_requireRule 18 = .ok (.new 276, 3) := by decide +kernel
theorem dX8_requireRule_21 : decode cX8_requireRule 21 = .ok (.dup, 1) := by decide +kernel
theorem dX8_requireRule_22 : decode cX8_requireRule 22 = .ok (.ldc_w 283, 3) := by decide +kernel
theorem dX8_requireRule_25 : decode cX8_requireRule 25 = .ok (.invokespecial 280, 3) := by decide +kernel
theorem dX8_requireRule_28 : decode cX8_requireRule 28 = .ok (.athrow, 1) := by decide +kernel
theorem dX8_requireRule_29 : decode cX8_requireRule 29 = .ok (.return_, 1) := by decide +kernel
theorem dX8_requireApprover_0 : decode cX8_requireApprover 0 = .ok (.iload_n 0, 1) := by decide +kernel
theorem dX8_requireApprover_1 : decode cX8_requireApprover 1 = .ok (.ifCond .lt 8, 3) := by decide +kernel
theorem dX8_requireApprover_4 : decode cX8_requireApprover 4 = .ok (.iload_n 0, 1) := by decide +kernel
theorem dX8_requireApprover_5 : decode cX8_requireApprover 5 = .ok (.iconst 5, 1) := by decide +kernel
theorem dX8_requireApprover_6 : decode cX8_requireApprover 6 = .ok (.if_icmp .lt 14, 3) := by decide +kernel
theorem dX8_requireApprover_9 : decode cX8_requireApprover 9 = .ok (.new 276, 3) := by decide +kernel
theorem dX8_requireApprover_12 : decode cX8_requireApprover 12 = .ok (.dup, 1) := by decide +kernel
theorem dX8_requireApprover_13 : decode cX8_requireApprover 13 = .ok (.ldc_w 285, 3) := by decide +kernel
theorem dX8_requireApprover_16 : decode cX8_requireApprover 16 = .ok (.invokespecial 280, 3) := by decide +kernel
theorem dX8_requireApprover_19 : decode cX8_requireApprover 19 = .ok (.athrow, 1) := by decide +kernel
theorem dX8_requireApprover_20 : decode cX8_requireApprover 20 = .ok (.return_, 1) := by decide +kernel
theorem dX8_requireSlot_0 : decode cX8_requireSlot 0 = .ok (.iload_n 0, 1) := by decide +kernel
theorem dX8_requireSlot_1 : decode cX8_requireSlot 1 = .ok (.ifCond .lt 8, 3) := by decide +kernel
theorem dX8_requireSlot_4 : decode cX8_requireSlot 4 = .ok (.iload_n 0, 1) := by decide +kernel
theorem dX8_requireSlot_5 : decode cX8_requireSlot 5 = .ok (.iconst 2, 1) := by decide +kernel
theorem dX8_requireSlot_6 : decode cX8_requireSlot 6 = .ok (.if_icmp .lt 14, 3) := by decide +kernel
theorem dX8_requireSlot_9 : decode cX8_requireSlot 9 = .ok (.new 276, 3) := by decide +kernel
theorem dX8_requireSlot_12 : decode cX8_requireSlot 12 = .ok (.dup, 1) := by decide +kernel
theorem dX8_requireSlot_13 : decode cX8_requireSlot 13 = .ok (.ldc_w 287, 3) := by decide +kernel
theorem dX8_requireSlot_16 : decode cX8_requireSlot 16 = .ok (.invokespecial 280, 3) := by decide +kernel
theorem dX8_requireSlot_19 : decode cX8_requireSlot 19 = .ok (.athrow, 1) := by decide +kernel
theorem dX8_requireSlot_20 : decode cX8_requireSlot 20 = .ok (.return_, 1) := by decide +kernel
theorem dX8_requireRange_0 : decode cX8_requireRange 0 = .ok (.iload_n 0, 1) := by decide +kernel
theorem dX8_requireRange_1 : decode cX8_requireRange 1 = .ok (.iload_n 1, 1) := by decide +kernel
theorem dX8_requireRange_2 : decode cX8_requireRange 2 = .ok (.if_icmp .lt 8, 3) := by decide +kernel
theorem dX8_requireRange_5 : decode cX8_requireRange 5 = .ok (.iload_n 0, 1) := by decide +kernel
theorem dX8_requireRange_6 : decode cX8_requireRange 6 = .ok (.iload_n 2, 1) := by decide +kernel
theorem dX8_requireRange_7 : decode cX8_requireRange 7 = .ok (.if_icmp .le 14, 3) := by decide +kernel
theorem dX8_requireRange_10 : decode cX8_requireRange 10 = .ok (.new 124, 3) := by decide +kernel
theorem dX8_requireRange_13 : decode cX8_requireRange 13 = .ok (.dup, 1) := by decide +kernel
theorem dX8_requireRange_14 : decode cX8_requireRange 14 = .ok (.ldc_w 289, 3) := by decide +kernel
theorem dX8_requireRange_17 : decode cX8_requireRange 17 = .ok (.invokespecial 128, 3) := by decide +kernel
theorem dX8_requireRange_20 : decode cX8_requireRange 20 = .ok (.athrow, 1) := by decide +kernel
theorem dX8_requireRange_21 : decode cX8_requireRange 21 = .ok (.return_, 1) := by decide +kernel
