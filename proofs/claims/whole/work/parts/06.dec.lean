theorem dX9_init_0 : decode cX9_init 0 = .ok (.aload_n 0, 1) := by decide +kernel
theorem dX9_init_1 : decode cX9_init 1 = .ok (.invokespecial 1, 3) := by decide +kernel
theorem dX9_init_4 : decode cX9_init 4 = .ok (.aload_n 0, 1) := by decide +kernel
theorem dX9_init_5 : decode cX9_init 5 = .ok (.sipush 160, 3) := by decide +kernel
theorem dX9_init_8 : decode cX9_init 8 = .ok (.newarray .int, 2) := by decide +kernel
theorem dX9_init_10 : decode cX9_init 10 = .ok (.putfield 7, 3) := by decide +kernel
theorem dX9_init_13 : decode cX9_init 13 = .ok (.aload_n 0, 1) := by decide +kernel
theorem dX9_init_14 : decode cX9_init 14 = .ok (.iconst 1, 1) := by decide +kernel
theorem dX9_init_15 : decode cX9_init 15 = .ok (.putfield 13, 3) := by decide +kernel
theorem dX9_init_18 : decode cX9_init 18 = .ok (.aload_n 0, 1) := by decide +kernel
theorem dX9_init_19 : decode cX9_init 19 = .ok (.iconst 1, 1) := by decide +kernel
theorem dX9_init_20 : decode cX9_init 20 = .ok (.putfield 17, 3) := by decide +kernel
theorem dX9_init_23 : decode cX9_init 23 = .ok (.aload_n 0, 1) := by decide +kernel
theorem dX9_init_24 : decode cX9_init 24 = .ok (.iconst 3, 1) := by decide +kernel
theorem dX9_init_25 : decode cX9_init 25 = .ok (.putfield 20, 3) := by decide +kernel
theorem dX9_init_28 : decode cX9_init 28 = .ok (.aload_n 0, 1) := by decide +kernel
theorem dX9_init_29 : decode cX9_init 29 = .ok (.iconst 5, 1) := by decide +kernel
theorem dX9_init_30 : decode cX9_init 30 = .ok (.putfield 23, 3) := by decide +kernel
theorem dX9_init_33 : decode cX9_init 33 = .ok (.aload_n 0, 1) := by decide +kernel
theorem dX9_init_34 : decode cX9_init 34 = .ok (.iconst 5, 1) := by decide +kernel
theorem dX9_init_35 : decode cX9_init 35 = .ok (.newarray .int, 2) := by decide +kernel
theorem dX9_init_37 : decode cX9_init 37 = .ok (.putfield 26, 3) := by decide +kernel
theorem dX9_init_40 : decode cX9_init 40 = .ok (.aload_n 0, 1) := by decide +kernel
theorem dX9_init_41 : decode cX9_init 41 = .ok (.bipush 50, 2) := by decide +kernel
theorem dX9_init_43 : decode cX9_init 43 = .ok (.newarray .int, 2) := by decide +kernel
theorem dX9_init_45 : decode cX9_init 45 = .ok (.putfield 29, 3) := by decide +kernel
theorem dX9_init_48 : decode cX9_init 48 = .ok (.aload_n 0, 1) := by decide +kernel
theorem dX9_init_49 : decode cX9_init 49 = .ok (.iconst 5, 1) := by decide +kernel
theorem dX9_init_50 : decode cX9_init 50 = .ok (.newarray .int, 2) := by decide +kernel
theorem dX9_init_52 : decode cX9_init 52 = .ok (.putfield 32, 3) := by decide +kernel
theorem dX9_init_55 : decode cX9_init 55 = .ok (.aload_n 0, 1) := by decide +kernel
theorem dX9_init_56 : decode cX9_init 56 = .ok (.bipush 50, 2) := by decide +kernel
theorem dX9_init_58 : decode cX9_init 58 = .ok (.newarray .int, 2) := by decide +kernel
theorem dX9_init_60 : decode cX9_init 60 = .ok (.putfield 35, 3) := by decide +kernel
theorem dX9_init_63 : decode cX9_init 63 = .ok (.aload_n 0, 1) := by decide +kernel
theorem dX9_init_64 : decode cX9_init 64 = .ok (.bipush 107, 2) := by decide +kernel
theorem dX9_init_66 : decode cX9_init 66 = .ok (.newarray .int, 2) := by decide +kernel
theorem dX9_init_68 : decode cX9_init 68 = .ok (.putfield 38, 3) := by decide +kernel
theorem dX9_init_71 : decode cX9_init 71 = .ok (.aload_n 0, 1) := by decide +kernel
theorem dX9_init_72 : decode cX9_init 72 = .ok (.bipush 107, 2) := by decide +kernel
theorem dX9_init_74 : decode cX9_init 74 = .ok (.newarray .int, 2) := by decide +kernel
theorem dX9_init_76 : decode cX9_init 76 = .ok (.putfield 41, 3) := by decide +kernel
theorem dX9_init_79 : decode cX9_init 79 = .ok (.aload_n 0, 1) := by decide +kernel
theorem dX9_init_80 : decode cX9_init 80 = .ok (.bipush 107, 2) := by decide +kernel
theorem dX9_init_82 : decode cX9_init 82 = .ok (.newarray .int, 2) := by decide +kernel
theorem dX9_init_84 : decode cX9_init 84 = .ok (.putfield 44, 3) := by decide +kernel
theorem dX9_init_87 : decode cX9_init 87 = .ok (.aload_n 0, 1) := by decide +kernel
theorem dX9_init_88 : decode cX9_init 88 = .ok (.sipush 1498, 3) := by decide +kernel
theorem dX9_init_91 : decode cX9_init 91 = .ok (.newarray .int, 2) := by decide +kernel
theorem dX9_init_93 : decode cX9_init 93 = .ok (.putfield 47, 3) := by decide +kernel
theorem dX9_init_96 : decode cX9_init 96 = .ok (.aload_n 0, 1) := by decide +kernel
theorem dX9_init_97 : decode cX9_init 97 = .ok (.sipush 214, 3) := by decide +kernel
theorem dX9_init_100 : decode cX9_init 100 = .ok (.newarray .int, 2) := by decide +kernel
theorem dX9_init_102 : decode cX9_init 102 = .ok (.putfield 50, 3) := by decide +kernel
theorem dX9_init_105 : decode cX9_init 105 = .ok (.aload_n 0, 1) := by decide +kernel
theorem dX9_init_106 : decode cX9_init 106 = .ok (.iconst 2, 1) := by decide +kernel
theorem dX9_init_107 : decode cX9_init 107 = .ok (.newarray .boolean, 2) := by decide +kernel
theorem dX9_init_109 : decode cX9_init 109 = .ok (.putfield 53, 3) := by decide +kernel
theorem dX9_init_112 : decode cX9_init 112 = .ok (.aload_n 0, 1) := by decide +kernel
theorem dX9_init_113 : decode cX9_init 113 = .ok (.sipush 4096, 3) := by decide +kernel
theorem dX9_init_116 : decode cX9_init 116 = .ok (.newarray .int, 2) := by decide +kernel
theorem dX9_init_118 : decode cX9_init 118 = .ok (.putfield 57, 3) := by decide +kernel
theorem dX9_init_121 : decode cX9_init 121 = .ok (.aload_n 0, 1) := by decide +kernel
theorem dX9_init_122 : decode cX9_init 122 = .ok (.sipush 4096, 3) := by decide +kernel
theorem dX9_init_125 : decode cX9_init 125 = .ok (.newarray .int, 2) := by decide +kernel
theorem dX9_init_127 : decode cX9_init 127 = .ok (.putfield 60, 3) := by decide +kernel
theorem dX9_init_130 : decode cX9_init 130 = .ok (.aload_n 0, 1) := by decide +kernel
theorem dX9_init_131 : decode cX9_init 131 = .ok (.sipush 4096, 3) := by decide +kernel
theorem dX9_init_134 : decode cX9_init 134 = .ok (.newarray .int, 2) := by decide +kernel
theorem dX9_init_136 : decode cX9_init 136 = .ok (.putfield 63, 3) := by decide +kernel
theorem dX9_init_139 : decode cX9_init 139 = .ok (.aload_n 0, 1) := by decide +kernel
theorem dX9_init_140 : decode cX9_init 140 = .ok (.bipush 6, 2) := by decide +kernel
theorem dX9_init_142 : decode cX9_init 142 = .ok (.newarray .int, 2) := by decide +kernel
theorem dX9_init_144 : decode cX9_init 144 = .ok (.putfield 66, 3) := by decide +kernel
theorem dX9_init_147 : decode cX9_init 147 = .ok (.return_, 1) := by decide +kernel
theorem dX9_thrown_0 : decode cX9_thrown 0 = .ok (.aload_n 0, 1) := by decide +kernel
theorem dX9_thrown_1 : decode cX9_thrown 1 = .ok (.getfield 69, 3) := by decide +kernel
theorem dX9_thrown_4 : decode cX9_thrown 4 = .ok (.ireturn, 1) := by decide +kernel
theorem dX9_refused_0 : decode cX9_refused 0 = .ok (.aload_n 0, 1) := by decide +kernel
theorem dX9_refused_1 : decode cX9_refused 1 = .ok (.iload_n 1, 1) := by decide +kernel
theorem dX9_refused_2 : decode cX9_refused 2 = .ok (.putfield 69, 3) := by decide +kernel
theorem dX9_refused_5 : decode cX9_refused 5 = .ok (.iload_n 1, 1) := by decide +kernel
theorem dX9_refused_6 : decode cX9_refused 6 = .ok (.ifCond .le 7, 3) := by decide +kernel
theorem dX9_refused_9 : decode cX9_refused 9 = .ok (.iconst 1, 1) := by decide +kernel
theorem dX9_refused_10 : decode cX9_refused 10 = .ok (.goto 4, 3) := by decide +kernel
theorem dX9_refused_13 : decode cX9_refused 13 = .ok (.iconst 0, 1) := by decide +kernel
theorem dX9_refused_14 : decode cX9_refused 14 = .ok (.ireturn, 1) := by decide +kernel
theorem dX9_in_0 : decode cX9_in 0 = .ok (.lload_n 0, 1) := by decide +kernel
theorem dX9_in_1 : decode cX9_in 1 = .ok (.lload_n 2, 1) := by decide +kernel
theorem dX9_in_2 : decode cX9_in 2 = .ok (.lcmp, 1) := by decide +kernel
theorem dX9_in_3 : decode cX9_in 3 = .ok (.ifCond .lt 14, 3) := by decide +kernel
theorem dX9_in_6 : decode cX9_in 6 = .ok (.lload_n 0, 1) := by decide +kernel
theorem dX9_in_7 : decode cX9_in 7 = .ok (.lload 4, 2) := by decide +kernel
theorem dX9_in_9 : decode cX9_in 9 = .ok (.lcmp, 1) := by decide +kernel
theorem dX9_in_10 : decode cX9_in 10 = .ok (.ifCond .gt 7, 3) := by decide +kernel
theorem dX9_in_13 : decode cX9_in 13 = .ok (.iconst 1, 1) := by decide +kernel
theorem dX9_in_14 : decode cX9_in 14 = .ok (.goto 4, 3) := by decide +kernel
theorem dX9_in_17 : decode cX9_in 17 = .ok (.iconst 0, 1) := by decide +kernel
theorem dX9_in_18 : decode cX9_in 18 = .ok (.ireturn, 1) := by decide +kernel
theorem dX9_copy_0 : decode cX9_copy 0 = .ok (.iconst 0, 1) := by decide +kernel
theorem dX9_copy_1 : decode cX9_copy 1 = .ok (.istore 5, 2) := by decide +kernel
theorem dX9_copy_3 : decode cX9_copy 3 = .ok (.iload 5, 2) := by decide +kernel
theorem dX9_copy_5 : decode cX9_copy 5 = .ok (.iload 4, 2) := by decide +kernel
theorem dX9_copy_7 : decode cX9_copy 7 = .ok (.if_icmp .ge 21, 3) := by decide +kernel
theorem dX9_copy_10 : decode cX9_copy 10 = .ok (.aload_n 2, 1) := by decide +kernel
theorem dX9_copy_11 : decode cX9_copy 11 = .ok (.iload_n 3, 1) := by decide +kernel
theorem dX9_copy_12 : decode cX9_copy 12 = .ok (.iload 5, 2) := by decide +kernel
theorem dX9_copy_14 : decode cX9_copy 14 = .ok (.iadd, 1) := by decide +kernel
theorem dX9_copy_15 : decode cX9_copy 15 = .ok (.aload_n 0, 1) := by decide +kernel
theorem dX9_copy_16 : decode cX9_copy 16 = .ok (.iload_n 1, 1) := by decide +kernel
theorem dX9_copy_17 : decode cX9_copy 17 = .ok (.iload 5, 2) := by decide +kernel
theorem dX9_copy_19 : decode cX9_copy 19 = .ok (.iadd, 1) := by decide +kernel
theorem dX9_copy_20 : decode cX9_copy 20 = .ok (.iaload, 1) := by decide +kernel
theorem dX9_copy_21 : decode cX9_copy 21 = .ok (.iastore, 1) := by decide +kernel
theorem dX9_copy_22 : decode cX9_copy 22 = .ok (.iinc 5 1, 3) := by decide +kernel
theorem dX9_copy_25 : decode cX9_copy 25 = .ok (.goto (-22), 3) := by decide +kernel
theorem dX9_copy_28 : decode cX9_copy 28 = .ok (.return_, 1) := by decide +kernel
theorem dX9_note_0 : decode cX9_note 0 = .ok (.aload_n 0, 1) := by decide +kernel
theorem dX9_note_1 : decode cX9_note 1 = .ok (.getfield 72, 3) := by decide +kernel
theorem dX9_note_4 : decode cX9_note 4 = .ok (.bipush 14, 2) := by decide +kernel
theorem dX9_note_6 : decode cX9_note 6 = .ok (.if_icmp .ne 30, 3) := by decide +kernel
theorem dX9_note_9 : decode cX9_note 9 = .ok (.aload_n 0, 1) := by decide +kernel
theorem dX9_note_10 : decode cX9_note 10 = .ok (.getfield 47, 3) := by decide +kernel
theorem dX9_note_13 : decode cX9_note 13 = .ok (.bipush 107, 2) := by decide +kernel
theorem dX9_note_15 : decode cX9_note 15 = .ok (.aload_n 0, 1) := by decide +kernel
theorem dX9_note_16 : decode cX9_note 16 = .ok (.getfield 47, 3) := by decide +kernel
theorem dX9_note_19 : decode cX9_note 19 = .ok (.iconst 0, 1) := by decide +kernel
theorem dX9_note_20 : decode cX9_note 20 = .ok (.sipush 1391, 3) := by decide +kernel
theorem dX9_note_23 : decode cX9_note 23 = .ok (.invokestatic 75, 3) := by decide +kernel
theorem dX9_note_26 : decode cX9_note 26 = .ok (.aload_n 0, 1) := by decide +kernel
theorem dX9_note_27 : decode cX9_note 27 = .ok (.dup, 1) := by decide +kernel
theorem dX9_note_28 : decode cX9_note 28 = .ok (.getfield 72, 3) := by decide +kernel
theorem dX9_note_31 : decode cX9_note 31 = .ok (.iconst 1, 1) := by decide +kernel
theorem dX9_note_32 : decode cX9_note 32 = .ok (.isub, 1) := by decide +kernel
theorem dX9_note_33 : decode cX9_note 33 = .ok (.putfield 72, 3) := by decide +kernel
theorem dX9_note_36 : decode cX9_note 36 = .ok (.aload_n 0, 1) := by decide +kernel
theorem dX9_note_37 : decode cX9_note 37 = .ok (.getfield 41, 3) := by decide +kernel
theorem dX9_note_40 : decode cX9_note 40 = .ok (.iconst 0, 1) := by decide +kernel
theorem dX9_note_41 : decode cX9_note 41 = .ok (.aload_n 0, 1) := by decide +kernel
theorem dX9_note_42 : decode cX9_note 42 = .ok (.getfield 47, 3) := by decide +kernel
theorem dX9_note_45 : decode cX9_note 45 = .ok (.bipush 107, 2) := by decide +kernel
theorem dX9_note_47 : decode cX9_note 47 = .ok (.aload_n 0, 1) := by decide +kernel
theorem dX9_note_48 : decode cX9_note 48 = .ok (.getfield 72, 3) := by decide +kernel
theorem dX9_note_51 : decode cX9_note 51 = .ok (.imul, 1) := by decide +kernel
theorem dX9_note_52 : decode cX9_note 52 = .ok (.bipush 107, 2) := by decide +kernel
theorem dX9_note_54 : decode cX9_note 54 = .ok (.invokestatic 75, 3) := by decide +kernel
theorem dX9_note_57 : decode cX9_note 57 = .ok (.aload_n 0, 1) := by decide +kernel
theorem dX9_note_58 : decode cX9_note 58 = .ok (.dup, 1) := by decide +kernel
theorem dX9_note_59 : decode cX9_note 59 = .ok (.getfield 72, 3) := by decide +kernel
theorem dX9_note_62 : decode cX9_note 62 = .ok (.iconst 1, 1) := by decide +kernel
theorem dX9_note_63 : decode cX9_note 63 = .ok (.iadd, 1) := by decide +kernel
theorem dX9_note_64 : decode cX9_note 64 = .ok (.putfield 72, 3) := by decide +kernel
theorem dX9_note_67 : decode cX9_note 67 = .ok (.return_, 1) := by decide +kernel
theorem dX9_change_0 : decode cX9_change 0 = .ok (.aload_n 0, 1) := by decide +kernel
theorem dX9_change_1 : decode cX9_change 1 = .ok (.invokevirtual 79, 3) := by decide +kernel
theorem dX9_change_4 : decode cX9_change 4 = .ok (.aload_n 0, 1) := by decide +kernel
theorem dX9_change_5 : decode cX9_change 5 = .ok (.getfield 41, 3) := by decide +kernel
theorem dX9_change_8 : decode cX9_change 8 = .ok (.iload_n 1, 1) := by decide +kernel
theorem dX9_change_9 : decode cX9_change 9 = .ok (.iaload, 1) := by decide +kernel
theorem dX9_change_10 : decode cX9_change 10 = .ok (.istore_n 3, 1) := by decide +kernel
theorem dX9_change_11 : decode cX9_change 11 = .ok (.aload_n 0, 1) := by decide +kernel
theorem dX9_change_12 : decode cX9_change 12 = .ok (.getfield 41, 3) := by decide +kernel
theorem dX9_change_15 : decode cX9_change 15 = .ok (.iload_n 1, 1) := by decide +kernel
theorem dX9_change_16 : decode cX9_change 16 = .ok (.iload_n 2, 1) := by decide +kernel
theorem dX9_change_17 : decode cX9_change 17 = .ok (.iastore, 1) := by decide +kernel
theorem dX9_change_18 : decode cX9_change 18 = .ok (.iload_n 3, 1) := by decide +kernel
theorem dX9_change_19 : decode cX9_change 19 = .ok (.ireturn, 1) := by decide +kernel
theorem dX9_at_0 : decode cX9_at 0 = .ok (.iconst 2, 1) := by decide +kernel
theorem dX9_at_1 : decode cX9_at 1 = .ok (.bipush 15, 2) := by decide +kernel
theorem dX9_at_3 : decode cX9_at 3 = .ok (.iload_n 0, 1) := by decide +kernel
theorem dX9_at_4 : decode cX9_at 4 = .ok (.imul, 1) := by decide +kernel
theorem dX9_at_5 : decode cX9_at 5 = .ok (.iadd, 1) := by decide +kernel
theorem dX9_at_6 : decode cX9_at 6 = .ok (.ireturn, 1) := by decide +kernel
theorem dX9_partAt_0 : decode cX9_partAt 0 = .ok (.bipush 77, 2) := by decide +kernel
theorem dX9_partAt_2 : decode cX9_partAt 2 = .ok (.iconst 5, 1) := by decide +kernel
theorem dX9_partAt_3 : decode cX9_partAt 3 = .ok (.iload_n 0, 1) := by decide +kernel
theorem dX9_partAt_4 : decode cX9_partAt 4 = .ok (.imul, 1) := by decide +kernel
theorem dX9_partAt_5 : decode cX9_partAt 5 = .ok (.iadd, 1) := by decide +kernel
theorem dX9_partAt_6 : decode cX9_partAt 6 = .ok (.ireturn, 1) := by decide +kernel
theorem dX9_isNode_0 : decode cX9_isNode 0 = .ok (.iload_n 1, 1) := by decide +kernel
theorem dX9_isNode_1 : decode cX9_isNode 1 = .ok (.i2l, 1) := by decide +kernel
theorem dX9_isNode_2 : decode cX9_isNode 2 = .ok (.lconst 0, 1) := by decide +kernel
theorem dX9_isNode_3 : decode cX9_isNode 3 = .ok (.aload_n 0, 1) := by decide +kernel
theorem dX9_isNode_4 : decode cX9_isNode 4 = .ok (.getfield 13, 3) := by decide +kernel
theorem dX9_isNode_7 : decode cX9_isNode 7 = .ok (.iconst 1, 1) := by decide +kernel
theorem dX9_isNode_8 : decode cX9_isNode 8 = .ok (.isub, 1) := by decide +kernel
theorem dX9_isNode_9 : decode cX9_isNode 9 = .ok (.i2l, 1) := by decide +kernel
theorem dX9_isNode_10 : decode cX9_isNode 10 = .ok (.invokestatic 82, 3) := by decide +kernel
theorem dX9_isNode_13 : decode cX9_isNode 13 = .ok (.ireturn, 1) := by decide +kernel
theorem dX9_isPart_0 : decode cX9_isPart 0 = .ok (.iload_n 1, 1) := by decide +kernel
theorem dX9_isPart_1 : decode cX9_isPart 1 = .ok (.i2l, 1) := by decide +kernel
theorem dX9_isPart_2 : decode cX9_isPart 2 = .ok (.lconst 0, 1) := by decide +kernel
theorem dX9_isPart_3 : decode cX9_isPart 3 = .ok (.aload_n 0, 1) := by decide +kernel
theorem dX9_isPart_4 : decode cX9_isPart 4 = .ok (.getfield 17, 3) := by decide +kernel
theorem dX9_isPart_7 : decode cX9_isPart 7 = .ok (.iconst 1, 1) := by decide +kernel
theorem dX9_isPart_8 : decode cX9_isPart 8 = .ok (.isub, 1) := by decide +kernel
theorem dX9_isPart_9 : decode cX9_isPart 9 = .ok (.i2l, 1) := by decide +kernel
theorem dX9_isPart_10 : decode cX9_isPart 10 = .ok (.invokestatic 82, 3) := by decide +kernel
theorem dX9_isPart_13 : decode cX9_isPart 13 = .ok (.ireturn, 1) := by decide +kernel
theorem dX9_isVersion_0 : decode cX9_isVersion 0 = .ok (.iload_n 0, 1) := by decide +kernel
theorem dX9_isVersion_1 : decode cX9_isVersion 1 = .ok (.i2l, 1) := by decide +kernel
theorem dX9_isVersion_2 : decode cX9_isVersion 2 = .ok (.lconst 0, 1) := by decide +kernel
theorem dX9_isVersion_3 : decode cX9_isVersion 3 = .ok (.ldc2_w 86, 3) := by decide +kernel
theorem dX9_isVersion_6 : decode cX9_isVersion 6 = .ok (.invokestatic 82, 3) := by decide +kernel
theorem dX9_isVersion_9 : decode cX9_isVersion 9 = .ok (.ireturn, 1) := by decide +kernel
theorem dX9_append_0 : decode cX9_append 0 = .ok (.aload_n 0, 1) := by decide +kernel
theorem dX9_append_1 : decode cX9_append 1 = .ok (.iload_n 1, 1) := by decide +kernel
theorem dX9_append_2 : decode cX9_append 2 = .ok (.i2l, 1) := by decide +kernel
theorem dX9_append_3 : decode cX9_append 3 = .ok (.lconst 0, 1) := by decide +kernel
theorem dX9_append_4 : decode cX9_append 4 = .ok (.ldc2_w 88, 3) := by decide +kernel
theorem dX9_append_7 : decode cX9_append 7 = .ok (.invokestatic 82, 3) := by decide +kernel
theorem dX9_append_10 : decode cX9_append 10 = .ok (.ifCond .ne 7, 3) := by decide +kernel
theorem dX9_append_13 : decode cX9_append 13 = .ok (.iconst 1, 1) := by decide +kernel
theorem dX9_append_14 : decode cX9_append 14 = .ok (.goto 18, 3) := by decide +kernel
theorem dX9_append_17 : decode cX9_append 17 = .ok (.aload_n 0, 1) := by decide +kernel
theorem dX9_append_18 : decode cX9_append 18 = .ok (.getfield 90, 3) := by decide +kernel
theorem dX9_append_21 : decode cX9_append 21 = .ok (.sipush 160, 3) := by decide +kernel
theorem dX9_append_24 : decode cX9_append 24 = .ok (.if_icmp .ne 7, 3) := by decide +kernel
theorem dX9_append_27 : decode cX9_append 27 = .ok (.iconst 2, 1) := by decide +kernel
theorem dX9_append_28 : decode cX9_append 28 = .ok (.goto 4, 3) := by decide +kernel
theorem dX9_append_31 : decode cX9_append 31 = .ok (.iconst 0, 1) := by decide +kernel
theorem dX9_append_32 : decode cX9_append 32 = .ok (.invokevirtual 93, 3) := by decide +kernel
theorem dX9_append_35 : decode cX9_append 35 = .ok (.ifCond .eq 5, 3) := by decide +kernel
theorem dX9_append_38 : decode cX9_append 38 = .ok (.iconst 0, 1) := by decide +kernel
theorem dX9_append_39 : decode cX9_append 39 = .ok (.ireturn, 1) := by decide +kernel
theorem dX9_append_40 : decode cX9_append 40 = .ok (.aload_n 0, 1) := by decide +kernel
theorem dX9_append_41 : decode cX9_append 41 = .ok (.getfield 7, 3) := by decide +kernel
theorem dX9_append_44 : decode cX9_append 44 = .ok (.aload_n 0, 1) := by decide +kernel
theorem dX9_append_45 : decode cX9_append 45 = .ok (.getfield 90, 3) := by decide +kernel
theorem dX9_append_48 : decode cX9_append 48 = .ok (.iload_n 1, 1) := by decide +kernel
theorem dX9_append_49 : decode cX9_append 49 = .ok (.iastore, 1) := by decide +kernel
theorem dX9_append_50 : decode cX9_append 50 = .ok (.aload_n 0, 1) := by decide +kernel
theorem dX9_append_51 : decode cX9_append 51 = .ok (.dup, 1) := by decide +kernel
theorem dX9_append_52 : decode cX9_append 52 = .ok (.getfield 90, 3) := by decide +kernel
theorem dX9_append_55 : decode cX9_append 55 = .ok (.iconst 1, 1) := by decide +kernel
theorem dX9_append_56 : decode cX9_append 56 = .ok (.iadd, 1) := by decide +kernel
theorem dX9_append_57 : decode cX9_append 57 = .ok (.putfield 90, 3) := by decide +kernel
theorem dX9_append_60 : decode cX9_append 60 = .ok (.aload_n 0, 1) := by decide +kernel
theorem dX9_append_61 : decode cX9_append 61 = .ok (.getfield 90, 3) := by decide +kernel
theorem dX9_append_64 : decode cX9_append 64 = .ok (.ireturn, 1) := by decide +kernel
theorem dX9_clearText_0 : decode cX9_clearText 0 = .ok (.aload_n 0, 1) := by decide +kernel
theorem dX9_clearText_1 : decode cX9_clearText 1 = .ok (.iconst 0, 1) := by decide +kernel
theorem dX9_clearText_2 : decode cX9_clearText 2 = .ok (.putfield 69, 3) := by decide +kernel
theorem dX9_clearText_5 : decode cX9_clearText 5 = .ok (.aload_n 0, 1) := by decide +kernel
theorem dX9_clearText_6 : decode cX9_clearText 6 = .ok (.getfield 90, 3) := by decide +kernel
theorem dX9_clearText_9 : decode cX9_clearText 9 = .ok (.istore_n 1, 1) := by decide +kernel
theorem dX9_clearText_10 : decode cX9_clearText 10 = .ok (.aload_n 0, 1) := by decide +kernel
theorem dX9_clearText_11 : decode cX9_clearText 11 = .ok (.iconst 0, 1) := by decide +kernel
theorem dX9_clearText_12 : decode cX9_clearText 12 = .ok (.putfield 90, 3) := by decide +kernel
theorem dX9_clearText_15 : decode cX9_clearText 15 = .ok (.iload_n 1, 1) := by decide +kernel
theorem dX9_clearText_16 : decode cX9_clearText 16 = .ok (.ireturn, 1) := by decide +kernel
theorem dX9_passes_0 : decode cX9_passes 0 = .ok (.aload_n 0, 1) := by decide +kernel
theorem dX9_passes_1 : decode cX9_passes 1 = .ok (.getfield 97, 3) := by decide +kernel
theorem dX9_passes_4 : decode cX9_passes 4 = .ok (.aload_n 0, 1) := by decide +kernel
theorem dX9_passes_5 : decode cX9_passes 5 = .ok (.getfield 90, 3) := by decide +kernel
theorem dX9_passes_8 : decode cX9_passes 8 = .ok (.if_icmp .ge 20, 3) := by decide +kernel
theorem dX9_passes_11 : decode cX9_passes 11 = .ok (.aload_n 0, 1) := by decide +kernel
theorem dX9_passes_12 : decode cX9_passes 12 = .ok (.getfield 7, 3) := by decide +kernel
theorem dX9_passes_15 : decode cX9_passes 15 = .ok (.aload_n 0, 1) := by decide +kernel
theorem dX9_passes_16 : decode cX9_passes 16 = .ok (.getfield 97, 3) := by decide +kernel
theorem dX9_passes_19 : decode cX9_passes 19 = .ok (.iaload, 1) := by decide +kernel
theorem dX9_passes_20 : decode cX9_passes 20 = .ok (.iload_n 1, 1) := by decide +kernel
theorem dX9_passes_21 : decode cX9_passes 21 = .ok (.if_icmp .ne 7, 3) := by decide +kernel
theorem dX9_passes_24 : decode cX9_passes 24 = .ok (.iconst 1, 1) := by decide +kernel
theorem dX9_passes_25 : decode cX9_passes 25 = .ok (.goto 4, 3) := by decide +kernel
theorem dX9_passes_28 : decode cX9_passes 28 = .ok (.iconst 0, 1) := by decide +kernel
theorem dX9_passes_29 : decode cX9_passes 29 = .ok (.istore_n 2, 1) := by decide +kernel
theorem dX9_passes_30 : decode cX9_passes 30 = .ok (.aload_n 0, 1) := by decide +kernel
theorem dX9_passes_31 : decode cX9_passes 31 = .ok (.dup, 1) := by decide +kernel
theorem dX9_passes_32 : decode cX9_passes 32 = .ok (.getfield 97, 3) := by decide +kernel
theorem dX9_passes_35 : decode cX9_passes 35 = .ok (.iload_n 2, 1) := by decide +kernel
theorem dX9_passes_36 : decode cX9_passes 36 = .ok (.ifCond .eq 7, 3) := by decide +kernel
theorem dX9_passes_39 : decode cX9_passes 39 = .ok (.iconst 1, 1) := by decide +kernel
theorem dX9_passes_40 : decode cX9_passes 40 = .ok (.goto 4, 3) := by decide +kernel
theorem dX9_passes_43 : decode cX9_passes 43 = .ok (.iconst 0, 1) := by decide +kernel
theorem dX9_passes_44 : decode cX9_passes 44 = .ok (.iadd, 1) := by decide +kernel
theorem dX9_passes_45 : decode cX9_passes 45 = .ok (.putfield 97, 3) := by decide +kernel
theorem dX9_passes_48 : decode cX9_passes 48 = .ok (.iload_n 2, 1) := by decide +kernel
theorem dX9_passes_49 : decode cX9_passes 49 = .ok (.ireturn, 1) := by decide +kernel
theorem dX9_digit_0 : decode cX9_digit 0 = .ok (.aload_n 0, 1) := by decide +kernel
theorem dX9_digit_1 : decode cX9_digit 1 = .ok (.getfield 97, 3) := by decide +kernel
theorem dX9_digit_4 : decode cX9_digit 4 = .ok (.aload_n 0, 1) := by decide +kernel
theorem dX9_digit_5 : decode cX9_digit 5 = .ok (.getfield 90, 3) := by decide +kernel
theorem dX9_digit_8 : decode cX9_digit 8 = .ok (.if_icmp .ge 18, 3) := by decide +kernel
theorem dX9_digit_11 : decode cX9_digit 11 = .ok (.aload_n 0, 1) := by decide +kernel
theorem dX9_digit_12 : decode cX9_digit 12 = .ok (.getfield 7, 3) := by decide +kernel
theorem dX9_digit_15 : decode cX9_digit 15 = .ok (.aload_n 0, 1) := by decide +kernel
theorem dX9_digit_16 : decode cX9_digit 16 = .ok (.getfield 97, 3) := by decide +kernel
theorem dX9_digit_19 : decode cX9_digit 19 = .ok (.iaload, 1) := by decide +kernel
theorem dX9_digit_20 : decode cX9_digit 20 = .ok (.bipush 48, 2) := by decide +kernel
theorem dX9_digit_22 : decode cX9_digit 22 = .ok (.isub, 1) := by decide +kernel
theorem dX9_digit_23 : decode cX9_digit 23 = .ok (.goto 5, 3) := by decide +kernel
theorem dX9_digit_26 : decode cX9_digit 26 = .ok (.bipush (-9), 2) := by decide +kernel
theorem dX9_digit_28 : decode cX9_digit 28 = .ok (.istore 4, 2) := by decide +kernel
theorem dX9_digit_30 : decode cX9_digit 30 = .ok (.iload 4, 2) := by decide +kernel
theorem dX9_digit_32 : decode cX9_digit 32 = .ok (.i2l, 1) := by decide +kernel
theorem dX9_digit_33 : decode cX9_digit 33 = .ok (.iload_n 1, 1) := by decide +kernel
theorem dX9_digit_34 : decode cX9_digit 34 = .ok (.i2l, 1) := by decide +kernel
theorem dX9_digit_35 : decode cX9_digit 35 = .ok (.iload_n 2, 1) := by decide +kernel
theorem dX9_digit_36 : decode cX9_digit 36 = .ok (.i2l, 1) := by decide +kernel
theorem dX9_digit_37 : decode cX9_digit 37 = .ok (.invokestatic 82, 3) := by decide +kernel
theorem dX9_digit_40 : decode cX9_digit 40 = .ok (.ifCond .eq 9, 3) := by decide +kernel
theorem dX9_digit_43 : decode cX9_digit 43 = .ok (.iload 4, 2) := by decide +kernel
theorem dX9_digit_45 : decode cX9_digit 45 = .ok (.iload_n 3, 1) := by decide +kernel
theorem dX9_digit_46 : decode cX9_digit 46 = .ok (.if_icmp .ne 6, 3) := by decide +kernel
theorem dX9_digit_49 : decode cX9_digit 49 = .ok (.bipush (-9), 2) := by decide +kernel
theorem dX9_digit_51 : decode cX9_digit 51 = .ok (.ireturn, 1) := by decide +kernel
theorem dX9_digit_52 : decode cX9_digit 52 = .ok (.aload_n 0, 1) := by decide +kernel
theorem dX9_digit_53 : decode cX9_digit 53 = .ok (.dup, 1) := by decide +kernel
theorem dX9_digit_54 : decode cX9_digit 54 = .ok (.getfield 97, 3) := by decide +kernel
theorem dX9_digit_57 : decode cX9_digit 57 = .ok (.iconst 1, 1) := by decide +kernel
theorem dX9_digit_58 : decode cX9_digit 58 = .ok (.iadd, 1) := by decide +kernel
theorem dX9_digit_59 : decode cX9_digit 59 = .ok (.putfield 97, 3) := by decide +kernel
theorem dX9_digit_62 : decode cX9_digit 62 = .ok (.iload 4, 2) := by decide +kernel
theorem dX9_digit_64 : decode cX9_digit 64 = .ok (.ireturn, 1) := by decide +kernel
theorem dX9_readHead_0 : decode cX9_readHead 0 = .ok (.aload_n 0, 1) := by decide +kernel
theorem dX9_readHead_1 : decode cX9_readHead 1 = .ok (.bipush 68, 2) := by decide +kernel
theorem dX9_readHead_3 : decode cX9_readHead 3 = .ok (.invokevirtual 100, 3) := by decide +kernel
theorem dX9_readHead_6 : decode cX9_readHead 6 = .ok (.ifCond .ne 5, 3) := by decide +kernel
theorem dX9_readHead_9 : decode cX9_readHead 9 = .ok (.iconst 0, 1) := by decide +kernel
theorem dX9_readHead_10 : decode cX9_readHead 10 = .ok (.ireturn, 1) := by decide +kernel
theorem dX9_readHead_11 : decode cX9_readHead 11 = .ok (.aload_n 0, 1) := by decide +kernel
theorem dX9_readHead_12 : decode cX9_readHead 12 = .ok (.aload_n 0, 1) := by decide +kernel
theorem dX9_readHead_13 : decode cX9_readHead 13 = .ok (.iconst 1, 1) := by decide +kernel
theorem dX9_readHead_14 : decode cX9_readHead 14 = .ok (.iconst 5, 1) := by decide +kernel
theorem dX9_readHead_15 : decode cX9_readHead 15 = .ok (.bipush (-9), 2) := by decide +kernel
theorem dX9_readHead_17 : decode cX9_readHead 17 = .ok (.invokevirtual 103, 3) := by decide +kernel
theorem dX9_readHead_20 : decode cX9_readHead 20 = .ok (.putfield 107, 3) := by decide +kernel
theorem dX9_readHead_23 : decode cX9_readHead 23 = .ok (.aload_n 0, 1) := by decide +kernel
theorem dX9_readHead_24 : decode cX9_readHead 24 = .ok (.aload_n 0, 1) := by decide +kernel
theorem dX9_readHead_25 : decode cX9_readHead 25 = .ok (.getfield 107, 3) := by decide +kernel
theorem dX9_readHead_28 : decode cX9_readHead 28 = .ok (.bipush (-9), 2) := by decide +kernel
theorem dX9_readHead_30 : decode cX9_readHead 30 = .ok (.if_icmp .ne 8, 3) := by decide +kernel
theorem dX9_readHead_33 : decode cX9_readHead 33 = .ok (.bipush (-9), 2) := by decide +kernel
theorem dX9_readHead_35 : decode cX9_readHead 35 = .ok (.goto 12, 3) := by decide +kernel
theorem dX9_readHead_38 : decode cX9_readHead 38 = .ok (.aload_n 0, 1) := by decide +kernel
theorem dX9_readHead_39 : decode cX9_readHead 39 = .ok (.iconst 1, 1) := by decide +kernel
theorem dX9_readHead_40 : decode cX9_readHead 40 = .ok (.bipush 6, 2) := by decide +kernel
theorem dX9_readHead_42 : decode cX9_readHead 42 = .ok (.bipush (-9), 2) := by decide +kernel
theorem dX9_readHead_44 : decode cX9_readHead 44 = .ok (.invokevirtual 103, 3) := by decide +kernel
theorem dX9_readHead_47 : decode cX9_readHead 47 = .ok (.putfield 110, 3) := by decide +kernel
theorem dX9_readHead_50 : decode cX9_readHead 50 = .ok (.aload_n 0, 1) := by decide +kernel
theorem dX9_readHead_51 : decode cX9_readHead 51 = .ok (.aload_n 0, 1) := by decide +kernel
theorem dX9_readHead_52 : decode cX9_readHead 52 = .ok (.getfield 110, 3) := by decide +kernel
theorem dX9_readHead_55 : decode cX9_readHead 55 = .ok (.bipush (-9), 2) := by decide +kernel
theorem dX9_readHead_57 : decode cX9_readHead 57 = .ok (.if_icmp .ne 8, 3) := by decide +kernel
theorem dX9_readHead_60 : decode cX9_readHead 60 = .ok (.bipush (-9), 2) := by decide +kernel
theorem dX9_readHead_62 : decode cX9_readHead 62 = .ok (.goto 12, 3) := by decide +kernel
theorem dX9_readHead_65 : decode cX9_readHead 65 = .ok (.aload_n 0, 1) := by decide +kernel
theorem dX9_readHead_66 : decode cX9_readHead 66 = .ok (.iconst 1, 1) := by decide +kernel
theorem dX9_readHead_67 : decode cX9_readHead 67 = .ok (.bipush 9, 2) := by decide +kernel
theorem dX9_readHead_69 : decode cX9_readHead 69 = .ok (.bipush (-9), 2) := by decide +kernel
theorem dX9_readHead_71 : decode cX9_readHead 71 = .ok (.invokevirtual 103, 3) := by decide +kernel
theorem dX9_readHead_74 : decode cX9_readHead 74 = .ok (.putfield 113, 3) := by decide +kernel
theorem dX9_readHead_77 : decode cX9_readHead 77 = .ok (.aload_n 0, 1) := by decide +kernel
theorem dX9_readHead_78 : decode cX9_readHead 78 = .ok (.getfield 113, 3) := by decide +kernel
theorem dX9_readHead_81 : decode cX9_readHead 81 = .ok (.bipush (-9), 2) := by decide +kernel
theorem dX9_readHead_83 : decode cX9_readHead 83 = .ok (.if_icmp .ne 8, 3) := by decide +kernel
theorem dX9_readHead_86 : decode cX9_readHead 86 = .ok (.bipush (-9), 2) := by decide +kernel
theorem dX9_readHead_88 : decode cX9_readHead 88 = .ok (.goto 11, 3) := by decide +kernel
theorem dX9_readHead_91 : decode cX9_readHead 91 = .ok (.aload_n 0, 1) := by decide +kernel
theorem dX9_readHead_92 : decode cX9_readHead 92 = .ok (.iconst 0, 1) := by decide +kernel
theorem dX9_readHead_93 : decode cX9_readHead 93 = .ok (.iconst 5, 1) := by decide +kernel
theorem dX9_readHead_94 : decode cX9_readHead 94 = .ok (.bipush (-9), 2) := by decide +kernel
theorem dX9_readHead_96 : decode cX9_readHead 96 = .ok (.invokevirtual 103, 3) := by decide +kernel
theorem dX9_readHead_99 : decode cX9_readHead 99 = .ok (.istore_n 1, 1) := by decide +kernel
theorem dX9_readHead_100 : decode cX9_readHead 100 = .ok (.iload_n 1, 1) := by decide +kernel
theorem dX9_readHead_101 : decode cX9_readHead 101 = .ok (.bipush (-9), 2) := by decide +kernel
theorem dX9_readHead_103 : decode cX9_readHead 103 = .ok (.if_icmp .ne 8, 3) := by decide +kernel
theorem dX9_readHead_106 : decode cX9_readHead 106 = .ok (.bipush (-9), 2) := by decide +kernel
theorem dX9_readHead_108 : decode cX9_readHead 108 = .ok (.goto 29, 3) := by decide +kernel
theorem dX9_readHead_111 : decode cX9_readHead 111 = .ok (.aload_n 0, 1) := by decide +kernel
theorem dX9_readHead_112 : decode cX9_readHead 112 = .ok (.iload_n 1, 1) := by decide +kernel
theorem dX9_readHead_113 : decode cX9_readHead 113 = .ok (.ifCond .ne 7, 3) := by decide +kernel
theorem dX9_readHead_116 : decode cX9_readHead 116 = .ok (.iconst 1, 1) := by decide +kernel
theorem dX9_readHead_117 : decode cX9_readHead 117 = .ok (.goto 4, 3) := by decide +kernel
theorem dX9_readHead_120 : decode cX9_readHead 120 = .ok (.iconst 0, 1) := by decide +kernel
theorem dX9_readHead_121 : decode cX9_readHead 121 = .ok (.iload_n 1, 1) := by decide +kernel
theorem dX9_readHead_122 : decode cX9_readHead 122 = .ok (.iconst 5, 1) := by decide +kernel
theorem dX9_readHead_123 : decode cX9_readHead 123 = .ok (.if_icmp .ne 7, 3) := by decide +kernel
theorem dX9_readHead_126 : decode cX9_readHead 126 = .ok (.iconst 0, 1) := by decide +kernel
theorem dX9_readHead_127 : decode cX9_readHead 127 = .ok (.goto 5, 3) := by decide +kernel
theorem dX9_readHead_130 : decode cX9_readHead 130 = .ok (.bipush 9, 2) := by decide +kernel
theorem dX9_readHead_132 : decode cX9_readHead 132 = .ok (.bipush (-9), 2) := by decide +kernel
theorem dX9_readHead_134 : decode cX9_readHead 134 = .ok (.invokevirtual 103, 3) := by decide +kernel
theorem dX9_readHead_137 : decode cX9_readHead 137 = .ok (.istore_n 2, 1) := by decide +kernel
theorem dX9_readHead_138 : decode cX9_readHead 138 = .ok (.aload_n 0, 1) := by decide +kernel
theorem dX9_readHead_139 : decode cX9_readHead 139 = .ok (.bipush 10, 2) := by decide +kernel
theorem dX9_readHead_141 : decode cX9_readHead 141 = .ok (.iload_n 1, 1) := by decide +kernel
theorem dX9_readHead_142 : decode cX9_readHead 142 = .ok (.imul, 1) := by decide +kernel
theorem dX9_readHead_143 : decode cX9_readHead 143 = .ok (.iload_n 2, 1) := by decide +kernel
theorem dX9_readHead_144 : decode cX9_readHead 144 = .ok (.iadd, 1) := by decide +kernel
theorem dX9_readHead_145 : decode cX9_readHead 145 = .ok (.putfield 116, 3) := by decide +kernel
theorem dX9_readHead_148 : decode cX9_readHead 148 = .ok (.iload_n 2, 1) := by decide +kernel
theorem dX9_readHead_149 : decode cX9_readHead 149 = .ok (.bipush (-9), 2) := by decide +kernel
theorem dX9_readHead_151 : decode cX9_readHead 151 = .ok (.if_icmp .eq 7, 3) := by decide +kernel
theorem dX9_readHead_154 : decode cX9_readHead 154 = .ok (.iconst 1, 1) := by decide +kernel
theorem dX9_readHead_155 : decode cX9_readHead 155 = .ok (.goto 4, 3) := by decide +kernel
theorem dX9_readHead_158 : decode cX9_readHead 158 = .ok (.iconst 0, 1) := by decide +kernel
theorem dX9_readHead_159 : decode cX9_readHead 159 = .ok (.istore_n 3, 1) := by decide +kernel
theorem dX9_readHead_160 : decode cX9_readHead 160 = .ok (.iconst 0, 1) := by decide +kernel
theorem dX9_readHead_161 : decode cX9_readHead 161 = .ok (.istore 4, 2) := by decide +kernel
theorem dX9_readHead_163 : decode cX9_readHead 163 = .ok (.iload 4, 2) := by decide +kernel
theorem dX9_readHead_165 : decode cX9_readHead 165 = .ok (.aload_n 0, 1) := by decide +kernel
theorem dX9_readHead_166 : decode cX9_readHead 166 = .ok (.getfield 107, 3) := by decide +kernel
theorem dX9_readHead_169 : decode cX9_readHead 169 = .ok (.if_icmp .ge 46, 3) := by decide +kernel
theorem dX9_readHead_172 : decode cX9_readHead 172 = .ok (.iload_n 3, 1) := by decide +kernel
theorem dX9_readHead_173 : decode cX9_readHead 173 = .ok (.ifCond .eq 42, 3) := by decide +kernel
theorem dX9_readHead_176 : decode cX9_readHead 176 = .ok (.aload_n 0, 1) := by decide +kernel
theorem dX9_readHead_177 : decode cX9_readHead 177 = .ok (.getfield 32, 3) := by decide +kernel
theorem dX9_readHead_180 : decode cX9_readHead 180 = .ok (.iload 4, 2) := by decide +kernel
theorem dX9_readHead_182 : decode cX9_readHead 182 = .ok (.aload_n 0, 1) := by decide +kernel
theorem dX9_readHead_183 : decode cX9_readHead 183 = .ok (.iconst 0, 1) := by decide +kernel
theorem dX9_readHead_184 : decode cX9_readHead 184 = .ok (.iconst 2, 1) := by decide +kernel
theorem dX9_readHead_185 : decode cX9_readHead 185 = .ok (.bipush (-9), 2) := by decide +kernel
theorem dX9_readHead_187 : decode cX9_readHead 187 = .ok (.invokevirtual 103, 3) := by decide +kernel
theorem dX9_readHead_190 : decode cX9_readHead 190 = .ok (.iastore, 1) := by decide +kernel
theorem dX9_readHead_191 : decode cX9_readHead 191 = .ok (.aload_n 0, 1) := by decide +kernel
theorem dX9_readHead_192 : decode cX9_readHead 192 = .ok (.getfield 32, 3) := by decide +kernel
theorem dX9_readHead_195 : decode cX9_readHead 195 = .ok (.iload 4, 2) := by decide +kernel
theorem dX9_readHead_197 : decode cX9_readHead 197 = .ok (.iaload, 1) := by decide +kernel
theorem dX9_readHead_198 : decode cX9_readHead 198 = .ok (.bipush (-9), 2) := by decide +kernel
theorem dX9_readHead_200 : decode cX9_readHead 200 = .ok (.if_icmp .eq 7, 3) := by decide +kernel
theorem dX9_readHead_203 : decode cX9_readHead 203 = .ok (.iconst 1, 1) := by decide +kernel
theorem dX9_readHead_204 : decode cX9_readHead 204 = .ok (.goto 4, 3) := by decide +kernel
theorem dX9_readHead_207 : decode cX9_readHead 207 = .ok (.iconst 0, 1) := by decide +kernel
theorem dX9_readHead_208 : decode cX9_readHead 208 = .ok (.istore_n 3, 1) := by decide +kernel
theorem dX9_readHead_209 : decode cX9_readHead 209 = .ok (.iinc 4 1, 3) := by decide +kernel
theorem dX9_readHead_212 : decode cX9_readHead 212 = .ok (.goto (-49), 3) := by decide +kernel
theorem dX9_readHead_215 : decode cX9_readHead 215 = .ok (.iconst 0, 1) := by decide +kernel
theorem dX9_readHead_216 : decode cX9_readHead 216 = .ok (.istore 4, 2) := by decide +kernel
theorem dX9_readHead_218 : decode cX9_readHead 218 = .ok (.iload 4, 2) := by decide +kernel
theorem dX9_readHead_220 : decode cX9_readHead 220 = .ok (.aload_n 0, 1) := by decide +kernel
theorem dX9_readHead_221 : decode cX9_readHead 221 = .ok (.getfield 110, 3) := by decide +kernel
theorem dX9_readHead_224 : decode cX9_readHead 224 = .ok (.if_icmp .ge 56, 3) := by decide +kernel
theorem dX9_readHead_227 : decode cX9_readHead 227 = .ok (.iload_n 3, 1) := by decide +kernel
theorem dX9_readHead_228 : decode cX9_readHead 228 = .ok (.ifCond .eq 52, 3) := by decide +kernel
theorem dX9_readHead_231 : decode cX9_readHead 231 = .ok (.aload_n 0, 1) := by decide +kernel
theorem dX9_readHead_232 : decode cX9_readHead 232 = .ok (.iconst 0, 1) := by decide +kernel
theorem dX9_readHead_233 : decode cX9_readHead 233 = .ok (.iconst 5, 1) := by decide +kernel
theorem dX9_readHead_234 : decode cX9_readHead 234 = .ok (.bipush (-9), 2) := by decide +kernel
theorem dX9_readHead_236 : decode cX9_readHead 236 = .ok (.invokevirtual 103, 3) := by decide +kernel
theorem dX9_readHead_239 : decode cX9_readHead 239 = .ok (.istore 5, 2) := by decide +kernel
theorem dX9_readHead_241 : decode cX9_readHead 241 = .ok (.iload 5, 2) := by decide +kernel
theorem dX9_readHead_243 : decode cX9_readHead 243 = .ok (.bipush (-9), 2) := by decide +kernel
theorem dX9_readHead_245 : decode cX9_readHead 245 = .ok (.if_icmp .eq 7, 3) := by decide +kernel
theorem dX9_readHead_248 : decode cX9_readHead 248 = .ok (.iconst 1, 1) := by decide +kernel
theorem dX9_readHead_249 : decode cX9_readHead 249 = .ok (.goto 4, 3) := by decide +kernel
theorem dX9_readHead_252 : decode cX9_readHead 252 = .ok (.iconst 0, 1) := by decide +kernel
theorem dX9_readHead_253 : decode cX9_readHead 253 = .ok (.istore_n 3, 1) := by decide +kernel
theorem dX9_readHead_254 : decode cX9_readHead 254 = .ok (.aload_n 0, 1) := by decide +kernel
theorem dX9_readHead_255 : decode cX9_readHead 255 = .ok (.getfield 38, 3) := by decide +kernel
theorem dX9_readHead_258 : decode cX9_readHead 258 = .ok (.iload 4, 2) := by decide +kernel
theorem dX9_readHead_260 : decode cX9_readHead 260 = .ok (.invokestatic 119, 3) := by decide +kernel
theorem dX9_readHead_263 : decode cX9_readHead 263 = .ok (.iload_n 3, 1) := by decide +kernel
theorem dX9_readHead_264 : decode cX9_readHead 264 = .ok (.ifCond .eq 8, 3) := by decide +kernel
theorem dX9_readHead_267 : decode cX9_readHead 267 = .ok (.iload 5, 2) := by decide +kernel
theorem dX9_readHead_269 : decode cX9_readHead 269 = .ok (.goto 4, 3) := by decide +kernel
theorem dX9_readHead_272 : decode cX9_readHead 272 = .ok (.iconst 0, 1) := by decide +kernel
theorem dX9_readHead_273 : decode cX9_readHead 273 = .ok (.iastore, 1) := by decide +kernel
theorem dX9_readHead_274 : decode cX9_readHead 274 = .ok (.iinc 4 1, 3) := by decide +kernel
theorem dX9_readHead_277 : decode cX9_readHead 277 = .ok (.goto (-59), 3) := by decide +kernel
theorem dX9_readHead_280 : decode cX9_readHead 280 = .ok (.iload_n 3, 1) := by decide +kernel
theorem dX9_readHead_281 : decode cX9_readHead 281 = .ok (.ireturn, 1) := by decide +kernel
theorem dX9_readRule_0 : decode cX9_readRule 0 = .ok (.aload_n 0, 1) := by decide +kernel
theorem dX9_readRule_1 : decode cX9_readRule 1 = .ok (.iconst 0, 1) := by decide +kernel
theorem dX9_readRule_2 : decode cX9_readRule 2 = .ok (.aload_n 0, 1) := by decide +kernel
theorem dX9_readRule_3 : decode cX9_readRule 3 = .ok (.getfield 110, 3) := by decide +kernel
theorem dX9_readRule_6 : decode cX9_readRule 6 = .ok (.iconst 1, 1) := by decide +kernel
theorem dX9_readRule_7 : decode cX9_readRule 7 = .ok (.isub, 1) := by decide +kernel
theorem dX9_readRule_8 : decode cX9_readRule 8 = .ok (.bipush (-9), 2) := by decide +kernel
theorem dX9_readRule_10 : decode cX9_readRule 10 = .ok (.invokevirtual 103, 3) := by decide +kernel
theorem dX9_readRule_13 : decode cX9_readRule 13 = .ok (.istore_n 2, 1) := by decide +kernel
theorem dX9_readRule_14 : decode cX9_readRule 14 = .ok (.iload_n 2, 1) := by decide +kernel
theorem dX9_readRule_15 : decode cX9_readRule 15 = .ok (.bipush (-9), 2) := by decide +kernel
theorem dX9_readRule_17 : decode cX9_readRule 17 = .ok (.if_icmp .ne 8, 3) := by decide +kernel
theorem dX9_readRule_20 : decode cX9_readRule 20 = .ok (.bipush (-9), 2) := by decide +kernel
theorem dX9_readRule_22 : decode cX9_readRule 22 = .ok (.goto 11, 3) := by decide +kernel
theorem dX9_readRule_25 : decode cX9_readRule 25 = .ok (.aload_n 0, 1) := by decide +kernel
theorem dX9_readRule_26 : decode cX9_readRule 26 = .ok (.iconst 1, 1) := by decide +kernel
theorem dX9_readRule_27 : decode cX9_readRule 27 = .ok (.iconst 3, 1) := by decide +kernel
theorem dX9_readRule_28 : decode cX9_readRule 28 = .ok (.bipush (-9), 2) := by decide +kernel
theorem dX9_readRule_30 : decode cX9_readRule 30 = .ok (.invokevirtual 103, 3) := by decide +kernel
theorem dX9_readRule_33 : decode cX9_readRule 33 = .ok (.istore_n 3, 1) := by decide +kernel
theorem dX9_readRule_34 : decode cX9_readRule 34 = .ok (.iload_n 3, 1) := by decide +kernel
theorem dX9_readRule_35 : decode cX9_readRule 35 = .ok (.bipush (-9), 2) := by decide +kernel
theorem dX9_readRule_37 : decode cX9_readRule 37 = .ok (.if_icmp .ne 8, 3) := by decide +kernel
theorem dX9_readRule_40 : decode cX9_readRule 40 = .ok (.bipush (-9), 2) := by decide +kernel
theorem dX9_readRule_42 : decode cX9_readRule 42 = .ok (.goto 15, 3) := by decide +kernel
theorem dX9_readRule_45 : decode cX9_readRule 45 = .ok (.aload_n 0, 1) := by decide +kernel
theorem dX9_readRule_46 : decode cX9_readRule 46 = .ok (.iconst 0, 1) := by decide +kernel
theorem dX9_readRule_47 : decode cX9_readRule 47 = .ok (.aload_n 0, 1) := by decide +kernel
theorem dX9_readRule_48 : decode cX9_readRule 48 = .ok (.getfield 110, 3) := by decide +kernel
theorem dX9_readRule_51 : decode cX9_readRule 51 = .ok (.iconst 1, 1) := by decide +kernel
theorem dX9_readRule_52 : decode cX9_readRule 52 = .ok (.isub, 1) := by decide +kernel
theorem dX9_readRule_53 : decode cX9_readRule 53 = .ok (.iload_n 2, 1) := by decide +kernel
theorem dX9_readRule_54 : decode cX9_readRule 54 = .ok (.invokevirtual 103, 3) := by decide +kernel
theorem dX9_readRule_57 : decode cX9_readRule 57 = .ok (.istore 4, 2) := by decide +kernel
theorem dX9_readRule_59 : decode cX9_readRule 59 = .ok (.iload 4, 2) := by decide +kernel
theorem dX9_readRule_61 : decode cX9_readRule 61 = .ok (.bipush (-9), 2) := by decide +kernel
theorem dX9_readRule_63 : decode cX9_readRule 63 = .ok (.if_icmp .ne 8, 3) := by decide +kernel
theorem dX9_readRule_66 : decode cX9_readRule 66 = .ok (.bipush (-9), 2) := by decide +kernel
theorem dX9_readRule_68 : decode cX9_readRule 68 = .ok (.goto 11, 3) := by decide +kernel
theorem dX9_readRule_71 : decode cX9_readRule 71 = .ok (.aload_n 0, 1) := by decide +kernel
theorem dX9_readRule_72 : decode cX9_readRule 72 = .ok (.iconst 1, 1) := by decide +kernel
theorem dX9_readRule_73 : decode cX9_readRule 73 = .ok (.iconst 3, 1) := by decide +kernel
theorem dX9_readRule_74 : decode cX9_readRule 74 = .ok (.bipush (-9), 2) := by decide +kernel
theorem dX9_readRule_76 : decode cX9_readRule 76 = .ok (.invokevirtual 103, 3) := by decide +kernel
theorem dX9_readRule_79 : decode cX9_readRule 79 = .ok (.istore 5, 2) := by decide +kernel
theorem dX9_readRule_81 : decode cX9_readRule 81 = .ok (.iload 5, 2) := by decide +kernel
theorem dX9_readRule_83 : decode cX9_readRule 83 = .ok (.bipush (-9), 2) := by decide +kernel
theorem dX9_readRule_85 : decode cX9_readRule 85 = .ok (.if_icmp .ne 5, 3) := by decide +kernel
theorem dX9_readRule_88 : decode cX9_readRule 88 = .ok (.iconst 0, 1) := by decide +kernel
theorem dX9_readRule_89 : decode cX9_readRule 89 = .ok (.ireturn, 1) := by decide +kernel
theorem dX9_readRule_90 : decode cX9_readRule 90 = .ok (.iconst 5, 1) := by decide +kernel
theorem dX9_readRule_91 : decode cX9_readRule 91 = .ok (.aload_n 0, 1) := by decide +kernel
theorem dX9_readRule_92 : decode cX9_readRule 92 = .ok (.getfield 123, 3) := by decide +kernel
theorem dX9_readRule_95 : decode cX9_readRule 95 = .ok (.imul, 1) := by decide +kernel
theorem dX9_readRule_96 : decode cX9_readRule 96 = .ok (.istore 6, 2) := by decide +kernel
theorem dX9_readRule_98 : decode cX9_readRule 98 = .ok (.aload_n 0, 1) := by decide +kernel
theorem dX9_readRule_99 : decode cX9_readRule 99 = .ok (.getfield 35, 3) := by decide +kernel
theorem dX9_readRule_102 : decode cX9_readRule 102 = .ok (.iload 6, 2) := by decide +kernel
theorem dX9_readRule_104 : decode cX9_readRule 104 = .ok (.iload_n 1, 1) := by decide +kernel
theorem dX9_readRule_105 : decode cX9_readRule 105 = .ok (.iastore, 1) := by decide +kernel
theorem dX9_readRule_106 : decode cX9_readRule 106 = .ok (.aload_n 0, 1) := by decide +kernel
theorem dX9_readRule_107 : decode cX9_readRule 107 = .ok (.getfield 35, 3) := by decide +kernel
theorem dX9_readRule_110 : decode cX9_readRule 110 = .ok (.iload 6, 2) := by decide +kernel
theorem dX9_readRule_112 : decode cX9_readRule 112 = .ok (.iconst 1, 1) := by decide +kernel
theorem dX9_readRule_113 : decode cX9_readRule 113 = .ok (.iadd, 1) := by decide +kernel
theorem dX9_readRule_114 : decode cX9_readRule 114 = .ok (.iload_n 2, 1) := by decide +kernel
theorem dX9_readRule_115 : decode cX9_readRule 115 = .ok (.iastore, 1) := by decide +kernel
theorem dX9_readRule_116 : decode cX9_readRule 116 = .ok (.aload_n 0, 1) := by decide +kernel
theorem dX9_readRule_117 : decode cX9_readRule 117 = .ok (.getfield 35, 3) := by decide +kernel
theorem dX9_readRule_120 : decode cX9_readRule 120 = .ok (.iload 6, 2) := by decide +kernel
theorem dX9_readRule_122 : decode cX9_readRule 122 = .ok (.iconst 2, 1) := by decide +kernel
theorem dX9_readRule_123 : decode cX9_readRule 123 = .ok (.iadd, 1) := by decide +kernel
theorem dX9_readRule_124 : decode cX9_readRule 124 = .ok (.iload_n 3, 1) := by decide +kernel
theorem dX9_readRule_125 : decode cX9_readRule 125 = .ok (.iastore, 1) := by decide +kernel
theorem dX9_readRule_126 : decode cX9_readRule 126 = .ok (.aload_n 0, 1) := by decide +kernel
theorem dX9_readRule_127 : decode cX9_readRule 127 = .ok (.getfield 35, 3) := by decide +kernel
theorem dX9_readRule_130 : decode cX9_readRule 130 = .ok (.iload 6, 2) := by decide +kernel
theorem dX9_readRule_132 : decode cX9_readRule 132 = .ok (.iconst 3, 1) := by decide +kernel
theorem dX9_readRule_133 : decode cX9_readRule 133 = .ok (.iadd, 1) := by decide +kernel
theorem dX9_readRule_134 : decode cX9_readRule 134 = .ok (.iload 4, 2) := by decide +kernel
theorem dX9_readRule_136 : decode cX9_readRule 136 = .ok (.iastore, 1) := by decide +kernel
theorem dX9_readRule_137 : decode cX9_readRule 137 = .ok (.aload_n 0, 1) := by decide +kernel
theorem dX9_readRule_138 : decode cX9_readRule 138 = .ok (.getfield 35, 3) := by decide +kernel
theorem dX9_readRule_141 : decode cX9_readRule 141 = .ok (.iload 6, 2) := by decide +kernel
theorem dX9_readRule_143 : decode cX9_readRule 143 = .ok (.iconst 4, 1) := by decide +kernel
theorem dX9_readRule_144 : decode cX9_readRule 144 = .ok (.iadd, 1) := by decide +kernel
theorem dX9_readRule_145 : decode cX9_readRule 145 = .ok (.iload 5, 2) := by decide +kernel
theorem dX9_readRule_147 : decode cX9_readRule 147 = .ok (.iastore, 1) := by decide +kernel
theorem dX9_readRule_148 : decode cX9_readRule 148 = .ok (.aload_n 0, 1) := by decide +kernel
theorem dX9_readRule_149 : decode cX9_readRule 149 = .ok (.dup, 1) := by decide +kernel
theorem dX9_readRule_150 : decode cX9_readRule 150 = .ok (.getfield 123, 3) := by decide +kernel
theorem dX9_readRule_153 : decode cX9_readRule 153 = .ok (.iconst 1, 1) := by decide +kernel
theorem dX9_readRule_154 : decode cX9_readRule 154 = .ok (.iadd, 1) := by decide +kernel
theorem dX9_readRule_155 : decode cX9_readRule 155 = .ok (.putfield 123, 3) := by decide +kernel
theorem dX9_readRule_158 : decode cX9_readRule 158 = .ok (.iconst 1, 1) := by decide +kernel
theorem dX9_readRule_159 : decode cX9_readRule 159 = .ok (.ireturn, 1) := by decide +kernel
theorem dX9_readVersion_0 : decode cX9_readVersion 0 = .ok (.aload_n 0, 1) := by decide +kernel
theorem dX9_readVersion_1 : decode cX9_readVersion 1 = .ok (.iconst 0, 1) := by decide +kernel
theorem dX9_readVersion_2 : decode cX9_readVersion 2 = .ok (.aload_n 0, 1) := by decide +kernel
theorem dX9_readVersion_3 : decode cX9_readVersion 3 = .ok (.getfield 107, 3) := by decide +kernel
theorem dX9_readVersion_6 : decode cX9_readVersion 6 = .ok (.iconst 1, 1) := by decide +kernel
theorem dX9_readVersion_7 : decode cX9_readVersion 7 = .ok (.isub, 1) := by decide +kernel
theorem dX9_readVersion_8 : decode cX9_readVersion 8 = .ok (.bipush (-9), 2) := by decide +kernel
theorem dX9_readVersion_10 : decode cX9_readVersion 10 = .ok (.invokevirtual 103, 3) := by decide +kernel
theorem dX9_readVersion_13 : decode cX9_readVersion 13 = .ok (.istore_n 2, 1) := by decide +kernel
theorem dX9_readVersion_14 : decode cX9_readVersion 14 = .ok (.iload_n 2, 1) := by decide +kernel
theorem dX9_readVersion_15 : decode cX9_readVersion 15 = .ok (.bipush (-9), 2) := by decide +kernel
theorem dX9_readVersion_17 : decode cX9_readVersion 17 = .ok (.if_icmp .ne 8, 3) := by decide +kernel
theorem dX9_readVersion_20 : decode cX9_readVersion 20 = .ok (.bipush (-9), 2) := by decide +kernel
theorem dX9_readVersion_22 : decode cX9_readVersion 22 = .ok (.goto 16, 3) := by decide +kernel
theorem dX9_readVersion_25 : decode cX9_readVersion 25 = .ok (.aload_n 0, 1) := by decide +kernel
theorem dX9_readVersion_26 : decode cX9_readVersion 26 = .ok (.iconst 0, 1) := by decide +kernel
theorem dX9_readVersion_27 : decode cX9_readVersion 27 = .ok (.aload_n 0, 1) := by decide +kernel
theorem dX9_readVersion_28 : decode cX9_readVersion 28 = .ok (.getfield 110, 3) := by decide +kernel
theorem dX9_readVersion_31 : decode cX9_readVersion 31 = .ok (.iconst 1, 1) := by decide +kernel
theorem dX9_readVersion_32 : decode cX9_readVersion 32 = .ok (.isub, 1) := by decide +kernel
theorem dX9_readVersion_33 : decode cX9_readVersion 33 = .ok (.bipush (-9), 2) := by decide +kernel
theorem dX9_readVersion_35 : decode cX9_readVersion 35 = .ok (.invokevirtual 103, 3) := by decide +kernel
theorem dX9_readVersion_38 : decode cX9_readVersion 38 = .ok (.istore_n 3, 1) := by decide +kernel
theorem dX9_readVersion_39 : decode cX9_readVersion 39 = .ok (.iload_n 3, 1) := by decide +kernel
theorem dX9_readVersion_40 : decode cX9_readVersion 40 = .ok (.bipush (-9), 2) := by decide +kernel
theorem dX9_readVersion_42 : decode cX9_readVersion 42 = .ok (.if_icmp .ne 8, 3) := by decide +kernel
theorem dX9_readVersion_45 : decode cX9_readVersion 45 = .ok (.bipush (-9), 2) := by decide +kernel
theorem dX9_readVersion_47 : decode cX9_readVersion 47 = .ok (.goto 11, 3) := by decide +kernel
theorem dX9_readVersion_50 : decode cX9_readVersion 50 = .ok (.aload_n 0, 1) := by decide +kernel
theorem dX9_readVersion_51 : decode cX9_readVersion 51 = .ok (.iconst 0, 1) := by decide +kernel
theorem dX9_readVersion_52 : decode cX9_readVersion 52 = .ok (.iconst 3, 1) := by decide +kernel
theorem dX9_readVersion_53 : decode cX9_readVersion 53 = .ok (.bipush (-9), 2) := by decide +kernel
theorem dX9_readVersion_55 : decode cX9_readVersion 55 = .ok (.invokevirtual 103, 3) := by decide +kernel
theorem dX9_readVersion_58 : decode cX9_readVersion 58 = .ok (.istore 4, 2) := by decide +kernel
theorem dX9_readVersion_60 : decode cX9_readVersion 60 = .ok (.iload 4, 2) := by decide +kernel
theorem dX9_readVersion_62 : decode cX9_readVersion 62 = .ok (.bipush (-9), 2) := by decide +kernel
theorem dX9_readVersion_64 : decode cX9_readVersion 64 = .ok (.if_icmp .ne 5, 3) := by decide +kernel
theorem dX9_readVersion_67 : decode cX9_readVersion 67 = .ok (.iconst 0, 1) := by decide +kernel
theorem dX9_readVersion_68 : decode cX9_readVersion 68 = .ok (.ireturn, 1) := by decide +kernel
theorem dX9_readVersion_69 : decode cX9_readVersion 69 = .ok (.aload_n 0, 1) := by decide +kernel
theorem dX9_readVersion_70 : decode cX9_readVersion 70 = .ok (.getfield 38, 3) := by decide +kernel
theorem dX9_readVersion_73 : decode cX9_readVersion 73 = .ok (.iload_n 2, 1) := by decide +kernel
theorem dX9_readVersion_74 : decode cX9_readVersion 74 = .ok (.invokestatic 126, 3) := by decide +kernel
theorem dX9_readVersion_77 : decode cX9_readVersion 77 = .ok (.iload_n 1, 1) := by decide +kernel
theorem dX9_readVersion_78 : decode cX9_readVersion 78 = .ok (.iadd, 1) := by decide +kernel
theorem dX9_readVersion_79 : decode cX9_readVersion 79 = .ok (.iload_n 3, 1) := by decide +kernel
theorem dX9_readVersion_80 : decode cX9_readVersion 80 = .ok (.iadd, 1) := by decide +kernel
theorem dX9_readVersion_81 : decode cX9_readVersion 81 = .ok (.iload 4, 2) := by decide +kernel
theorem dX9_readVersion_83 : decode cX9_readVersion 83 = .ok (.iastore, 1) := by decide +kernel
theorem dX9_readVersion_84 : decode cX9_readVersion 84 = .ok (.iconst 1, 1) := by decide +kernel
theorem dX9_readVersion_85 : decode cX9_readVersion 85 = .ok (.ireturn, 1) := by decide +kernel
theorem dX9_readItem_0 : decode cX9_readItem 0 = .ok (.aload_n 0, 1) := by decide +kernel
theorem dX9_readItem_1 : decode cX9_readItem 1 = .ok (.getfield 110, 3) := by decide +kernel
theorem dX9_readItem_4 : decode cX9_readItem 4 = .ok (.iconst 1, 1) := by decide +kernel
theorem dX9_readItem_5 : decode cX9_readItem 5 = .ok (.if_icmp .le 16, 3) := by decide +kernel
theorem dX9_readItem_8 : decode cX9_readItem 8 = .ok (.aload_n 0, 1) := by decide +kernel
theorem dX9_readItem_9 : decode cX9_readItem 9 = .ok (.getfield 123, 3) := by decide +kernel
theorem dX9_readItem_12 : decode cX9_readItem 12 = .ok (.bipush 10, 2) := by decide +kernel
theorem dX9_readItem_14 : decode cX9_readItem 14 = .ok (.if_icmp .ge 7, 3) := by decide +kernel
theorem dX9_readItem_17 : decode cX9_readItem 17 = .ok (.iconst 1, 1) := by decide +kernel
theorem dX9_readItem_18 : decode cX9_readItem 18 = .ok (.goto 4, 3) := by decide +kernel
theorem dX9_readItem_21 : decode cX9_readItem 21 = .ok (.iconst 0, 1) := by decide +kernel
theorem dX9_readItem_22 : decode cX9_readItem 22 = .ok (.istore_n 1, 1) := by decide +kernel
theorem dX9_readItem_23 : decode cX9_readItem 23 = .ok (.iload_n 1, 1) := by decide +kernel
theorem dX9_readItem_24 : decode cX9_readItem 24 = .ok (.ifCond .eq 18, 3) := by decide +kernel
theorem dX9_readItem_27 : decode cX9_readItem 27 = .ok (.aload_n 0, 1) := by decide +kernel
theorem dX9_readItem_28 : decode cX9_readItem 28 = .ok (.bipush 110, 2) := by decide +kernel
theorem dX9_readItem_30 : decode cX9_readItem 30 = .ok (.invokevirtual 100, 3) := by decide +kernel
theorem dX9_readItem_33 : decode cX9_readItem 33 = .ok (.ifCond .eq 9, 3) := by decide +kernel
theorem dX9_readItem_36 : decode cX9_readItem 36 = .ok (.aload_n 0, 1) := by decide +kernel
theorem dX9_readItem_37 : decode cX9_readItem 37 = .ok (.iconst 0, 1) := by decide +kernel
theorem dX9_readItem_38 : decode cX9_readItem 38 = .ok (.invokevirtual 129, 3) := by decide +kernel
theorem dX9_readItem_41 : decode cX9_readItem 41 = .ok (.ireturn, 1) := by decide +kernel
theorem dX9_readItem_42 : decode cX9_readItem 42 = .ok (.iload_n 1, 1) := by decide +kernel
theorem dX9_readItem_43 : decode cX9_readItem 43 = .ok (.ifCond .eq 18, 3) := by decide +kernel
theorem dX9_readItem_46 : decode cX9_readItem 46 = .ok (.aload_n 0, 1) := by decide +kernel
theorem dX9_readItem_47 : decode cX9_readItem 47 = .ok (.bipush 120, 2) := by decide +kernel
theorem dX9_readItem_49 : decode cX9_readItem 49 = .ok (.invokevirtual 100, 3) := by decide +kernel
theorem dX9_readItem_52 : decode cX9_readItem 52 = .ok (.ifCond .eq 9, 3) := by decide +kernel
theorem dX9_readItem_55 : decode cX9_readItem 55 = .ok (.aload_n 0, 1) := by decide +kernel
theorem dX9_readItem_56 : decode cX9_readItem 56 = .ok (.iconst 1, 1) := by decide +kernel
theorem dX9_readItem_57 : decode cX9_readItem 57 = .ok (.invokevirtual 129, 3) := by decide +kernel
theorem dX9_readItem_60 : decode cX9_readItem 60 = .ok (.ireturn, 1) := by decide +kernel
theorem dX9_readItem_61 : decode cX9_readItem 61 = .ok (.aload_n 0, 1) := by decide +kernel
theorem dX9_readItem_62 : decode cX9_readItem 62 = .ok (.bipush 119, 2) := by decide +kernel
theorem dX9_readItem_64 : decode cX9_readItem 64 = .ok (.invokevirtual 100, 3) := by decide +kernel
theorem dX9_readItem_67 : decode cX9_readItem 67 = .ok (.ifCond .eq 10, 3) := by decide +kernel
theorem dX9_readItem_70 : decode cX9_readItem 70 = .ok (.aload_n 0, 1) := by decide +kernel
theorem dX9_readItem_71 : decode cX9_readItem 71 = .ok (.bipush 6, 2) := by decide +kernel
theorem dX9_readItem_73 : decode cX9_readItem 73 = .ok (.invokevirtual 132, 3) := by decide +kernel
theorem dX9_readItem_76 : decode cX9_readItem 76 = .ok (.ireturn, 1) := by decide +kernel
theorem dX9_readItem_77 : decode cX9_readItem 77 = .ok (.aload_n 0, 1) := by decide +kernel
theorem dX9_readItem_78 : decode cX9_readItem 78 = .ok (.bipush 118, 2) := by decide +kernel
theorem dX9_readItem_80 : decode cX9_readItem 80 = .ok (.invokevirtual 100, 3) := by decide +kernel
theorem dX9_readItem_83 : decode cX9_readItem 83 = .ok (.ifCond .eq 15, 3) := by decide +kernel
theorem dX9_readItem_86 : decode cX9_readItem 86 = .ok (.aload_n 0, 1) := by decide +kernel
theorem dX9_readItem_87 : decode cX9_readItem 87 = .ok (.iconst 0, 1) := by decide +kernel
theorem dX9_readItem_88 : decode cX9_readItem 88 = .ok (.invokevirtual 132, 3) := by decide +kernel
theorem dX9_readItem_91 : decode cX9_readItem 91 = .ok (.ifCond .eq 7, 3) := by decide +kernel
theorem dX9_readItem_94 : decode cX9_readItem 94 = .ok (.iconst 1, 1) := by decide +kernel
theorem dX9_readItem_95 : decode cX9_readItem 95 = .ok (.goto 4, 3) := by decide +kernel
theorem dX9_readItem_98 : decode cX9_readItem 98 = .ok (.iconst 0, 1) := by decide +kernel
theorem dX9_readItem_99 : decode cX9_readItem 99 = .ok (.ireturn, 1) := by decide +kernel
theorem dX9_readText_0 : decode cX9_readText 0 = .ok (.aload_n 0, 1) := by decide +kernel
theorem dX9_readText_1 : decode cX9_readText 1 = .ok (.iconst 0, 1) := by decide +kernel
theorem dX9_readText_2 : decode cX9_readText 2 = .ok (.putfield 97, 3) := by decide +kernel
theorem dX9_readText_5 : decode cX9_readText 5 = .ok (.aload_n 0, 1) := by decide +kernel
theorem dX9_readText_6 : decode cX9_readText 6 = .ok (.iconst 0, 1) := by decide +kernel
theorem dX9_readText_7 : decode cX9_readText 7 = .ok (.putfield 123, 3) := by decide +kernel
theorem dX9_readText_10 : decode cX9_readText 10 = .ok (.iconst 0, 1) := by decide +kernel
theorem dX9_readText_11 : decode cX9_readText 11 = .ok (.istore_n 1, 1) := by decide +kernel
theorem dX9_readText_12 : decode cX9_readText 12 = .ok (.iload_n 1, 1) := by decide +kernel
theorem dX9_readText_13 : decode cX9_readText 13 = .ok (.bipush 107, 2) := by decide +kernel
theorem dX9_readText_15 : decode cX9_readText 15 = .ok (.if_icmp .ge 16, 3) := by decide +kernel
theorem dX9_readText_18 : decode cX9_readText 18 = .ok (.aload_n 0, 1) := by decide +kernel
theorem dX9_readText_19 : decode cX9_readText 19 = .ok (.getfield 38, 3) := by decide +kernel
theorem dX9_readText_22 : decode cX9_readText 22 = .ok (.iload_n 1, 1) := by decide +kernel
theorem dX9_readText_23 : decode cX9_readText 23 = .ok (.iconst 0, 1) := by decide +kernel
theorem dX9_readText_24 : decode cX9_readText 24 = .ok (.iastore, 1) := by decide +kernel
theorem dX9_readText_25 : decode cX9_readText 25 = .ok (.iinc 1 1, 3) := by decide +kernel
theorem dX9_readText_28 : decode cX9_readText 28 = .ok (.goto (-16), 3) := by decide +kernel
theorem dX9_readText_31 : decode cX9_readText 31 = .ok (.aload_n 0, 1) := by decide +kernel
theorem dX9_readText_32 : decode cX9_readText 32 = .ok (.invokevirtual 135, 3) := by decide +kernel
theorem dX9_readText_35 : decode cX9_readText 35 = .ok (.ifCond .ne 8, 3) := by decide +kernel
theorem dX9_readText_38 : decode cX9_readText 38 = .ok (.aload_n 0, 1) := by decide +kernel
theorem dX9_readText_39 : decode cX9_readText 39 = .ok (.getfield 97, 3) := by decide +kernel
theorem dX9_readText_42 : decode cX9_readText 42 = .ok (.ireturn, 1) := by decide +kernel
theorem dX9_readText_43 : decode cX9_readText 43 = .ok (.aload_n 0, 1) := by decide +kernel
theorem dX9_readText_44 : decode cX9_readText 44 = .ok (.getfield 97, 3) := by decide +kernel
theorem dX9_readText_47 : decode cX9_readText 47 = .ok (.aload_n 0, 1) := by decide +kernel
theorem dX9_readText_48 : decode cX9_readText 48 = .ok (.getfield 90, 3) := by decide +kernel
theorem dX9_readText_51 : decode cX9_readText 51 = .ok (.if_icmp .ge 15, 3) := by decide +kernel
theorem dX9_readText_54 : decode cX9_readText 54 = .ok (.aload_n 0, 1) := by decide +kernel
theorem dX9_readText_55 : decode cX9_readText 55 = .ok (.invokevirtual 139, 3) := by decide +kernel
theorem dX9_readText_58 : decode cX9_readText 58 = .ok (.ifCond .ne (-15), 3) := by decide +kernel
theorem dX9_readText_61 : decode cX9_readText 61 = .ok (.aload_n 0, 1) := by decide +kernel
theorem dX9_readText_62 : decode cX9_readText 62 = .ok (.getfield 97, 3) := by decide +kernel
theorem dX9_readText_65 : decode cX9_readText 65 = .ok (.ireturn, 1) := by decide +kernel
theorem dX9_readText_66 : decode cX9_readText 66 = .ok (.bipush (-9), 2) := by decide +kernel
theorem dX9_readText_68 : decode cX9_readText 68 = .ok (.ireturn, 1) := by decide +kernel
theorem dX9_errorPosition_0 : decode cX9_errorPosition 0 = .ok (.aload_n 0, 1) := by decide +kernel
theorem dX9_errorPosition_1 : decode cX9_errorPosition 1 = .ok (.iconst 0, 1) := by decide +kernel
theorem dX9_errorPosition_2 : decode cX9_errorPosition 2 = .ok (.putfield 69, 3) := by decide +kernel
theorem dX9_errorPosition_5 : decode cX9_errorPosition 5 = .ok (.aload_n 0, 1) := by decide +kernel
theorem dX9_errorPosition_6 : decode cX9_errorPosition 6 = .ok (.invokevirtual 142, 3) := by decide +kernel
theorem dX9_errorPosition_9 : decode cX9_errorPosition 9 = .ok (.ireturn, 1) := by decide +kernel
theorem dX9_load_0 : decode cX9_load 0 = .ok (.aload_n 0, 1) := by decide +kernel
theorem dX9_load_1 : decode cX9_load 1 = .ok (.aload_n 0, 1) := by decide +kernel
theorem dX9_load_2 : decode cX9_load 2 = .ok (.invokevirtual 142, 3) := by decide +kernel
theorem dX9_load_5 : decode cX9_load 5 = .ok (.bipush (-9), 2) := by decide +kernel
theorem dX9_load_7 : decode cX9_load 7 = .ok (.if_icmp .ne 7, 3) := by decide +kernel
theorem dX9_load_10 : decode cX9_load 10 = .ok (.iconst 0, 1) := by decide +kernel
theorem dX9_load_11 : decode cX9_load 11 = .ok (.goto 4, 3) := by decide +kernel
theorem dX9_load_14 : decode cX9_load 14 = .ok (.iconst 1, 1) := by decide +kernel
theorem dX9_load_15 : decode cX9_load 15 = .ok (.invokevirtual 93, 3) := by decide +kernel
theorem dX9_load_18 : decode cX9_load 18 = .ok (.ifCond .eq 5, 3) := by decide +kernel
theorem dX9_load_21 : decode cX9_load 21 = .ok (.iconst 0, 1) := by decide +kernel
theorem dX9_load_22 : decode cX9_load 22 = .ok (.ireturn, 1) := by decide +kernel
theorem dX9_load_23 : decode cX9_load 23 = .ok (.aload_n 0, 1) := by decide +kernel
theorem dX9_load_24 : decode cX9_load 24 = .ok (.aload_n 0, 1) := by decide +kernel
theorem dX9_load_25 : decode cX9_load 25 = .ok (.getfield 107, 3) := by decide +kernel
theorem dX9_load_28 : decode cX9_load 28 = .ok (.putfield 13, 3) := by decide +kernel
theorem dX9_load_31 : decode cX9_load 31 = .ok (.aload_n 0, 1) := by decide +kernel
theorem dX9_load_32 : decode cX9_load 32 = .ok (.aload_n 0, 1) := by decide +kernel
theorem dX9_load_33 : decode cX9_load 33 = .ok (.getfield 110, 3) := by decide +kernel
theorem dX9_load_36 : decode cX9_load 36 = .ok (.putfield 17, 3) := by decide +kernel
theorem dX9_load_39 : decode cX9_load 39 = .ok (.aload_n 0, 1) := by decide +kernel
theorem dX9_load_40 : decode cX9_load 40 = .ok (.aload_n 0, 1) := by decide +kernel
theorem dX9_load_41 : decode cX9_load 41 = .ok (.getfield 123, 3) := by decide +kernel
theorem dX9_load_44 : decode cX9_load 44 = .ok (.putfield 146, 3) := by decide +kernel
theorem dX9_load_47 : decode cX9_load 47 = .ok (.aload_n 0, 1) := by decide +kernel
theorem dX9_load_48 : decode cX9_load 48 = .ok (.aload_n 0, 1) := by decide +kernel
theorem dX9_load_49 : decode cX9_load 49 = .ok (.getfield 113, 3) := by decide +kernel
theorem dX9_load_52 : decode cX9_load 52 = .ok (.putfield 20, 3) := by decide +kernel
theorem dX9_load_55 : decode cX9_load 55 = .ok (.aload_n 0, 1) := by decide +kernel
theorem dX9_load_56 : decode cX9_load 56 = .ok (.aload_n 0, 1) := by decide +kernel
theorem dX9_load_57 : decode cX9_load 57 = .ok (.getfield 116, 3) := by decide +kernel
theorem dX9_load_60 : decode cX9_load 60 = .ok (.putfield 23, 3) := by decide +kernel
theorem dX9_load_63 : decode cX9_load 63 = .ok (.aload_n 0, 1) := by decide +kernel
theorem dX9_load_64 : decode cX9_load 64 = .ok (.getfield 32, 3) := by decide +kernel
theorem dX9_load_67 : decode cX9_load 67 = .ok (.iconst 0, 1) := by decide +kernel
theorem dX9_load_68 : decode cX9_load 68 = .ok (.aload_n 0, 1) := by decide +kernel
theorem dX9_load_69 : decode cX9_load 69 = .ok (.getfield 26, 3) := by decide +kernel
theorem dX9_load_72 : decode cX9_load 72 = .ok (.iconst 0, 1) := by decide +kernel
theorem dX9_load_73 : decode cX9_load 73 = .ok (.iconst 5, 1) := by decide +kernel
theorem dX9_load_74 : decode cX9_load 74 = .ok (.invokestatic 75, 3) := by decide +kernel
theorem dX9_load_77 : decode cX9_load 77 = .ok (.aload_n 0, 1) := by decide +kernel
theorem dX9_load_78 : decode cX9_load 78 = .ok (.getfield 35, 3) := by decide +kernel
theorem dX9_load_81 : decode cX9_load 81 = .ok (.iconst 0, 1) := by decide +kernel
theorem dX9_load_82 : decode cX9_load 82 = .ok (.aload_n 0, 1) := by decide +kernel
theorem dX9_load_83 : decode cX9_load 83 = .ok (.getfield 29, 3) := by decide +kernel
theorem dX9_load_86 : decode cX9_load 86 = .ok (.iconst 0, 1) := by decide +kernel
theorem dX9_load_87 : decode cX9_load 87 = .ok (.bipush 50, 2) := by decide +kernel
theorem dX9_load_89 : decode cX9_load 89 = .ok (.invokestatic 75, 3) := by decide +kernel
theorem dX9_load_92 : decode cX9_load 92 = .ok (.aload_n 0, 1) := by decide +kernel
theorem dX9_load_93 : decode cX9_load 93 = .ok (.getfield 38, 3) := by decide +kernel
theorem dX9_load_96 : decode cX9_load 96 = .ok (.iconst 0, 1) := by decide +kernel
theorem dX9_load_97 : decode cX9_load 97 = .ok (.aload_n 0, 1) := by decide +kernel
theorem dX9_load_98 : decode cX9_load 98 = .ok (.getfield 41, 3) := by decide +kernel
theorem dX9_load_101 : decode cX9_load 101 = .ok (.iconst 0, 1) := by decide +kernel
theorem dX9_load_102 : decode cX9_load 102 = .ok (.bipush 107, 2) := by decide +kernel
theorem dX9_load_104 : decode cX9_load 104 = .ok (.invokestatic 75, 3) := by decide +kernel
theorem dX9_load_107 : decode cX9_load 107 = .ok (.aload_n 0, 1) := by decide +kernel
theorem dX9_load_108 : decode cX9_load 108 = .ok (.iconst 0, 1) := by decide +kernel
theorem dX9_load_109 : decode cX9_load 109 = .ok (.putfield 72, 3) := by decide +kernel
theorem dX9_load_112 : decode cX9_load 112 = .ok (.aload_n 0, 1) := by decide +kernel
theorem dX9_load_113 : decode cX9_load 113 = .ok (.getfield 53, 3) := by decide +kernel
theorem dX9_load_116 : decode cX9_load 116 = .ok (.iconst 0, 1) := by decide +kernel
theorem dX9_load_117 : decode cX9_load 117 = .ok (.iconst 0, 1) := by decide +kernel
theorem dX9_load_118 : decode cX9_load 118 = .ok (.bastore, 1) := by decide +kernel
theorem dX9_load_119 : decode cX9_load 119 = .ok (.aload_n 0, 1) := by decide +kernel
theorem dX9_load_120 : decode cX9_load 120 = .ok (.getfield 53, 3) := by decide +kernel
theorem dX9_load_123 : decode cX9_load 123 = .ok (.iconst 1, 1) := by decide +kernel
theorem dX9_load_124 : decode cX9_load 124 = .ok (.iconst 0, 1) := by decide +kernel
theorem dX9_load_125 : decode cX9_load 125 = .ok (.bastore, 1) := by decide +kernel
theorem dX9_load_126 : decode cX9_load 126 = .ok (.aload_n 0, 1) := by decide +kernel
theorem dX9_load_127 : decode cX9_load 127 = .ok (.getfield 146, 3) := by decide +kernel
theorem dX9_load_130 : decode cX9_load 130 = .ok (.ireturn, 1) := by decide +kernel
theorem dX9_versionOf_0 : decode cX9_versionOf 0 = .ok (.iload_n 0, 1) := by decide +kernel
theorem dX9_versionOf_1 : decode cX9_versionOf 1 = .ok (.iconst 2, 1) := by decide +kernel
theorem dX9_versionOf_2 : decode cX9_versionOf 2 = .ok (.iload_n 1, 1) := by decide +kernel
theorem dX9_versionOf_3 : decode cX9_versionOf 3 = .ok (.imul, 1) := by decide +kernel
theorem dX9_versionOf_4 : decode cX9_versionOf 4 = .ok (.ishr, 1) := by decide +kernel
theorem dX9_versionOf_5 : decode cX9_versionOf 5 = .ok (.iconst 3, 1) := by decide +kernel
theorem dX9_versionOf_6 : decode cX9_versionOf 6 = .ok (.iand, 1) := by decide +kernel
theorem dX9_versionOf_7 : decode cX9_versionOf 7 = .ok (.ireturn, 1) := by decide +kernel
theorem dX9_with_0 : decode cX9_with 0 = .ok (.iload_n 0, 1) := by decide +kernel
theorem dX9_with_1 : decode cX9_with 1 = .ok (.iconst 3, 1) := by decide +kernel
theorem dX9_with_2 : decode cX9_with 2 = .ok (.iconst 2, 1) := by decide +kernel
theorem dX9_with_3 : decode cX9_with 3 = .ok (.iload_n 1, 1) := by decide +kernel
theorem dX9_with_4 : decode cX9_with 4 = .ok (.imul, 1) := by decide +kernel
theorem dX9_with_5 : decode cX9_with 5 = .ok (.ishl, 1) := by decide +kernel
theorem dX9_with_6 : decode cX9_with 6 = .ok (.iconst (-1), 1) := by decide +kernel
theorem dX9_with_7 : decode cX9_with 7 = .ok (.ixor, 1) := by decide +kernel
theorem dX9_with_8 : decode cX9_with 8 = .ok (.iand, 1) := by decide +kernel
theorem dX9_with_9 : decode cX9_with 9 = .ok (.iload_n 2, 1) := by decide +kernel
theorem dX9_with_10 : decode cX9_with 10 = .ok (.iconst 2, 1) := by decide +kernel
theorem dX9_with_11 : decode cX9_with 11 = .ok (.iload_n 1, 1) := by decide +kernel
theorem dX9_with_12 : decode cX9_with 12 = .ok (.imul, 1) := by decide +kernel
theorem dX9_with_13 : decode cX9_with 13 = .ok (.ishl, 1) := by decide +kernel
theorem dX9_with_14 : decode cX9_with 14 = .ok (.ior, 1) := by decide +kernel
theorem dX9_with_15 : decode cX9_with 15 = .ok (.ireturn, 1) := by decide +kernel
theorem dX9_codeOf_0 : decode cX9_codeOf 0 = .ok (.iconst 0, 1) := by decide +kernel
theorem dX9_codeOf_1 : decode cX9_codeOf 1 = .ok (.istore 4, 2) := by decide +kernel
theorem dX9_codeOf_3 : decode cX9_codeOf 3 = .ok (.iconst 0, 1) := by decide +kernel
theorem dX9_codeOf_4 : decode cX9_codeOf 4 = .ok (.istore 5, 2) := by decide +kernel
theorem dX9_codeOf_6 : decode cX9_codeOf 6 = .ok (.iload 5, 2) := by decide +kernel
theorem dX9_codeOf_8 : decode cX9_codeOf 8 = .ok (.aload_n 0, 1) := by decide +kernel
theorem dX9_codeOf_9 : decode cX9_codeOf 9 = .ok (.getfield 17, 3) := by decide +kernel
theorem dX9_codeOf_12 : decode cX9_codeOf 12 = .ok (.if_icmp .ge 30, 3) := by decide +kernel
theorem dX9_codeOf_15 : decode cX9_codeOf 15 = .ok (.iload 4, 2) := by decide +kernel
theorem dX9_codeOf_17 : decode cX9_codeOf 17 = .ok (.aload_n 1, 1) := by decide +kernel
theorem dX9_codeOf_18 : decode cX9_codeOf 18 = .ok (.iload_n 2, 1) := by decide +kernel
theorem dX9_codeOf_19 : decode cX9_codeOf 19 = .ok (.invokestatic 126, 3) := by decide +kernel
theorem dX9_codeOf_22 : decode cX9_codeOf 22 = .ok (.iload_n 3, 1) := by decide +kernel
theorem dX9_codeOf_23 : decode cX9_codeOf 23 = .ok (.iadd, 1) := by decide +kernel
theorem dX9_codeOf_24 : decode cX9_codeOf 24 = .ok (.iload 5, 2) := by decide +kernel
theorem dX9_codeOf_26 : decode cX9_codeOf 26 = .ok (.iadd, 1) := by decide +kernel
theorem dX9_codeOf_27 : decode cX9_codeOf 27 = .ok (.iaload, 1) := by decide +kernel
theorem dX9_codeOf_28 : decode cX9_codeOf 28 = .ok (.iconst 2, 1) := by decide +kernel
theorem dX9_codeOf_29 : decode cX9_codeOf 29 = .ok (.iload 5, 2) := by decide +kernel
theorem dX9_codeOf_31 : decode cX9_codeOf 31 = .ok (.imul, 1) := by decide +kernel
theorem dX9_codeOf_32 : decode cX9_codeOf 32 = .ok (.ishl, 1) := by decide +kernel
theorem dX9_codeOf_33 : decode cX9_codeOf 33 = .ok (.ior, 1) := by decide +kernel
theorem dX9_codeOf_34 : decode cX9_codeOf 34 = .ok (.istore 4, 2) := by decide +kernel
theorem dX9_codeOf_36 : decode cX9_codeOf 36 = .ok (.iinc 5 1, 3) := by decide +kernel
theorem dX9_codeOf_39 : decode cX9_codeOf 39 = .ok (.goto (-33), 3) := by decide +kernel
theorem dX9_codeOf_42 : decode cX9_codeOf 42 = .ok (.iload 4, 2) := by decide +kernel
theorem dX9_codeOf_44 : decode cX9_codeOf 44 = .ok (.ireturn, 1) := by decide +kernel
theorem dX9_broken_0 : decode cX9_broken 0 = .ok (.iconst 0, 1) := by decide +kernel
theorem dX9_broken_1 : decode cX9_broken 1 = .ok (.istore_n 2, 1) := by decide +kernel
theorem dX9_broken_2 : decode cX9_broken 2 = .ok (.iconst 0, 1) := by decide +kernel
theorem dX9_broken_3 : decode cX9_broken 3 = .ok (.istore_n 3, 1) := by decide +kernel
theorem dX9_broken_4 : decode cX9_broken 4 = .ok (.iload_n 3, 1) := by decide +kernel
theorem dX9_broken_5 : decode cX9_broken 5 = .ok (.aload_n 0, 1) := by decide +kernel
theorem dX9_broken_6 : decode cX9_broken 6 = .ok (.getfield 146, 3) := by decide +kernel
theorem dX9_broken_9 : decode cX9_broken 9 = .ok (.if_icmp .ge 114, 3) := by decide +kernel
theorem dX9_broken_12 : decode cX9_broken 12 = .ok (.iconst 5, 1) := by decide +kernel
theorem dX9_broken_13 : decode cX9_broken 13 = .ok (.iload_n 3, 1) := by decide +kernel
theorem dX9_broken_14 : decode cX9_broken 14 = .ok (.imul, 1) := by decide +kernel
theorem dX9_broken_15 : decode cX9_broken 15 = .ok (.istore 4, 2) := by decide +kernel
theorem dX9_broken_17 : decode cX9_broken 17 = .ok (.iload_n 1, 1) := by decide +kernel
theorem dX9_broken_18 : decode cX9_broken 18 = .ok (.aload_n 0, 1) := by decide +kernel
theorem dX9_broken_19 : decode cX9_broken 19 = .ok (.getfield 29, 3) := by decide +kernel
theorem dX9_broken_22 : decode cX9_broken 22 = .ok (.iload 4, 2) := by decide +kernel
theorem dX9_broken_24 : decode cX9_broken 24 = .ok (.iconst 1, 1) := by decide +kernel
theorem dX9_broken_25 : decode cX9_broken 25 = .ok (.iadd, 1) := by decide +kernel
theorem dX9_broken_26 : decode cX9_broken 26 = .ok (.iaload, 1) := by decide +kernel
theorem dX9_broken_27 : decode cX9_broken 27 = .ok (.invokestatic 149, 3) := by decide +kernel
theorem dX9_broken_30 : decode cX9_broken 30 = .ok (.aload_n 0, 1) := by decide +kernel
theorem dX9_broken_31 : decode cX9_broken 31 = .ok (.getfield 29, 3) := by decide +kernel
theorem dX9_broken_34 : decode cX9_broken 34 = .ok (.iload 4, 2) := by decide +kernel
theorem dX9_broken_36 : decode cX9_broken 36 = .ok (.iconst 2, 1) := by decide +kernel
theorem dX9_broken_37 : decode cX9_broken 37 = .ok (.iadd, 1) := by decide +kernel
theorem dX9_broken_38 : decode cX9_broken 38 = .ok (.iaload, 1) := by decide +kernel
theorem dX9_broken_39 : decode cX9_broken 39 = .ok (.if_icmp .lt 7, 3) := by decide +kernel
theorem dX9_broken_42 : decode cX9_broken 42 = .ok (.iconst 1, 1) := by decide +kernel
theorem dX9_broken_43 : decode cX9_broken 43 = .ok (.goto 4, 3) := by decide +kernel
theorem dX9_broken_46 : decode cX9_broken 46 = .ok (.iconst 0, 1) := by decide +kernel
theorem dX9_broken_47 : decode cX9_broken 47 = .ok (.istore 5, 2) := by decide +kernel
theorem dX9_broken_49 : decode cX9_broken 49 = .ok (.iload_n 1, 1) := by decide +kernel
theorem dX9_broken_50 : decode cX9_broken 50 = .ok (.aload_n 0, 1) := by decide +kernel
theorem dX9_broken_51 : decode cX9_broken 51 = .ok (.getfield 29, 3) := by decide +kernel
theorem dX9_broken_54 : decode cX9_broken 54 = .ok (.iload 4, 2) := by decide +kernel
theorem dX9_broken_56 : decode cX9_broken 56 = .ok (.iconst 3, 1) := by decide +kernel
theorem dX9_broken_57 : decode cX9_broken 57 = .ok (.iadd, 1) := by decide +kernel
theorem dX9_broken_58 : decode cX9_broken 58 = .ok (.iaload, 1) := by decide +kernel
theorem dX9_broken_59 : decode cX9_broken 59 = .ok (.invokestatic 149, 3) := by decide +kernel
theorem dX9_broken_62 : decode cX9_broken 62 = .ok (.aload_n 0, 1) := by decide +kernel
theorem dX9_broken_63 : decode cX9_broken 63 = .ok (.getfield 29, 3) := by decide +kernel
theorem dX9_broken_66 : decode cX9_broken 66 = .ok (.iload 4, 2) := by decide +kernel
theorem dX9_broken_68 : decode cX9_broken 68 = .ok (.iconst 4, 1) := by decide +kernel
theorem dX9_broken_69 : decode cX9_broken 69 = .ok (.iadd, 1) := by decide +kernel
theorem dX9_broken_70 : decode cX9_broken 70 = .ok (.iaload, 1) := by decide +kernel
theorem dX9_broken_71 : decode cX9_broken 71 = .ok (.if_icmp .lt 7, 3) := by decide +kernel
theorem dX9_broken_74 : decode cX9_broken 74 = .ok (.iconst 1, 1) := by decide +kernel
theorem dX9_broken_75 : decode cX9_broken 75 = .ok (.goto 4, 3) := by decide +kernel
theorem dX9_broken_78 : decode cX9_broken 78 = .ok (.iconst 0, 1) := by decide +kernel
theorem dX9_broken_79 : decode cX9_broken 79 = .ok (.istore 6, 2) := by decide +kernel
theorem dX9_broken_81 : decode cX9_broken 81 = .ok (.iload_n 2, 1) := by decide +kernel
theorem dX9_broken_82 : decode cX9_broken 82 = .ok (.iload 5, 2) := by decide +kernel
theorem dX9_broken_84 : decode cX9_broken 84 = .ok (.ifCond .eq 30, 3) := by decide +kernel
theorem dX9_broken_87 : decode cX9_broken 87 = .ok (.iload 6, 2) := by decide +kernel
theorem dX9_broken_89 : decode cX9_broken 89 = .ok (.aload_n 0, 1) := by decide +kernel
theorem dX9_broken_90 : decode cX9_broken 90 = .ok (.getfield 29, 3) := by decide +kernel
theorem dX9_broken_93 : decode cX9_broken 93 = .ok (.iload 4, 2) := by decide +kernel
theorem dX9_broken_95 : decode cX9_broken 95 = .ok (.iaload, 1) := by decide +kernel
theorem dX9_broken_96 : decode cX9_broken 96 = .ok (.iconst 1, 1) := by decide +kernel
theorem dX9_broken_97 : decode cX9_broken 97 = .ok (.if_icmp .ne 7, 3) := by decide +kernel
theorem dX9_broken_100 : decode cX9_broken 100 = .ok (.iconst 1, 1) := by decide +kernel
theorem dX9_broken_101 : decode cX9_broken 101 = .ok (.goto 4, 3) := by decide +kernel
theorem dX9_broken_104 : decode cX9_broken 104 = .ok (.iconst 0, 1) := by decide +kernel
theorem dX9_broken_105 : decode cX9_broken 105 = .ok (.if_icmp .ne 9, 3) := by decide +kernel
theorem dX9_broken_108 : decode cX9_broken 108 = .ok (.iconst 1, 1) := by decide +kernel
theorem dX9_broken_109 : decode cX9_broken 109 = .ok (.iload_n 3, 1) := by decide +kernel
theorem dX9_broken_110 : decode cX9_broken 110 = .ok (.ishl, 1) := by decide +kernel
theorem dX9_broken_111 : decode cX9_broken 111 = .ok (.goto 4, 3) := by decide +kernel
theorem dX9_broken_114 : decode cX9_broken 114 = .ok (.iconst 0, 1) := by decide +kernel
theorem dX9_broken_115 : decode cX9_broken 115 = .ok (.ior, 1) := by decide +kernel
theorem dX9_broken_116 : decode cX9_broken 116 = .ok (.istore_n 2, 1) := by decide +kernel
theorem dX9_broken_117 : decode cX9_broken 117 = .ok (.iinc 3 1, 3) := by decide +kernel
theorem dX9_broken_120 : decode cX9_broken 120 = .ok (.goto (-116), 3) := by decide +kernel
theorem dX9_broken_123 : decode cX9_broken 123 = .ok (.iload_n 2, 1) := by decide +kernel
theorem dX9_broken_124 : decode cX9_broken 124 = .ok (.ireturn, 1) := by decide +kernel
theorem dX9_newlyBroken_0 : decode cX9_newlyBroken 0 = .ok (.aload_n 0, 1) := by decide +kernel
theorem dX9_newlyBroken_1 : decode cX9_newlyBroken 1 = .ok (.aload_n 1, 1) := by decide +kernel
theorem dX9_newlyBroken_2 : decode cX9_newlyBroken 2 = .ok (.iload_n 2, 1) := by decide +kernel
theorem dX9_newlyBroken_3 : decode cX9_newlyBroken 3 = .ok (.iconst 0, 1) := by decide +kernel
theorem dX9_newlyBroken_4 : decode cX9_newlyBroken 4 = .ok (.invokevirtual 153, 3) := by decide +kernel
theorem dX9_newlyBroken_7 : decode cX9_newlyBroken 7 = .ok (.istore 5, 2) := by decide +kernel
theorem dX9_newlyBroken_9 : decode cX9_newlyBroken 9 = .ok (.aload_n 0, 1) := by decide +kernel
theorem dX9_newlyBroken_10 : decode cX9_newlyBroken 10 = .ok (.iload 5, 2) := by decide +kernel
theorem dX9_newlyBroken_12 : decode cX9_newlyBroken 12 = .ok (.iload_n 3, 1) := by decide +kernel
theorem dX9_newlyBroken_13 : decode cX9_newlyBroken 13 = .ok (.iload 4, 2) := by decide +kernel
theorem dX9_newlyBroken_15 : decode cX9_newlyBroken 15 = .ok (.invokestatic 157, 3) := by decide +kernel
theorem dX9_newlyBroken_18 : decode cX9_newlyBroken 18 = .ok (.invokevirtual 160, 3) := by decide +kernel
theorem dX9_newlyBroken_21 : decode cX9_newlyBroken 21 = .ok (.aload_n 0, 1) := by decide +kernel
theorem dX9_newlyBroken_22 : decode cX9_newlyBroken 22 = .ok (.iload 5, 2) := by decide +kernel
theorem dX9_newlyBroken_24 : decode cX9_newlyBroken 24 = .ok (.invokevirtual 160, 3) := by decide +kernel
theorem dX9_newlyBroken_27 : decode cX9_newlyBroken 27 = .ok (.iconst (-1), 1) := by decide +kernel
theorem dX9_newlyBroken_28 : decode cX9_newlyBroken 28 = .ok (.ixor, 1) := by decide +kernel
theorem dX9_newlyBroken_29 : decode cX9_newlyBroken 29 = .ok (.iand, 1) := by decide +kernel
theorem dX9_newlyBroken_30 : decode cX9_newlyBroken 30 = .ok (.ireturn, 1) := by decide +kernel
theorem dX9_isDrifted_0 : decode cX9_isDrifted 0 = .ok (.aload_n 1, 1) := by decide +kernel
theorem dX9_isDrifted_1 : decode cX9_isDrifted 1 = .ok (.iload_n 2, 1) := by decide +kernel
theorem dX9_isDrifted_2 : decode cX9_isDrifted 2 = .ok (.invokestatic 126, 3) := by decide +kernel
theorem dX9_isDrifted_5 : decode cX9_isDrifted 5 = .ok (.iload_n 3, 1) := by decide +kernel
theorem dX9_isDrifted_6 : decode cX9_isDrifted 6 = .ok (.iadd, 1) := by decide +kernel
theorem dX9_isDrifted_7 : decode cX9_isDrifted 7 = .ok (.iaload, 1) := by decide +kernel
theorem dX9_isDrifted_8 : decode cX9_isDrifted 8 = .ok (.aload_n 1, 1) := by decide +kernel
theorem dX9_isDrifted_9 : decode cX9_isDrifted 9 = .ok (.iload_n 2, 1) := by decide +kernel
theorem dX9_isDrifted_10 : decode cX9_isDrifted 10 = .ok (.invokestatic 126, 3) := by decide +kernel
theorem dX9_isDrifted_13 : decode cX9_isDrifted 13 = .ok (.bipush 6, 2) := by decide +kernel
theorem dX9_isDrifted_15 : decode cX9_isDrifted 15 = .ok (.iadd, 1) := by decide +kernel
theorem dX9_isDrifted_16 : decode cX9_isDrifted 16 = .ok (.iload_n 3, 1) := by decide +kernel
theorem dX9_isDrifted_17 : decode cX9_isDrifted 17 = .ok (.iadd, 1) := by decide +kernel
theorem dX9_isDrifted_18 : decode cX9_isDrifted 18 = .ok (.iaload, 1) := by decide +kernel
theorem dX9_isDrifted_19 : decode cX9_isDrifted 19 = .ok (.if_icmp .eq 7, 3) := by decide +kernel
theorem dX9_isDrifted_22 : decode cX9_isDrifted 22 = .ok (.iconst 1, 1) := by decide +kernel
theorem dX9_isDrifted_23 : decode cX9_isDrifted 23 = .ok (.goto 4, 3) := by decide +kernel
theorem dX9_isDrifted_26 : decode cX9_isDrifted 26 = .ok (.iconst 0, 1) := by decide +kernel
theorem dX9_isDrifted_27 : decode cX9_isDrifted 27 = .ok (.ireturn, 1) := by decide +kernel
theorem dX9_drifted_0 : decode cX9_drifted 0 = .ok (.iconst 0, 1) := by decide +kernel
theorem dX9_drifted_1 : decode cX9_drifted 1 = .ok (.istore_n 3, 1) := by decide +kernel
theorem dX9_drifted_2 : decode cX9_drifted 2 = .ok (.iconst 0, 1) := by decide +kernel
theorem dX9_drifted_3 : decode cX9_drifted 3 = .ok (.istore 4, 2) := by decide +kernel
theorem dX9_drifted_5 : decode cX9_drifted 5 = .ok (.iload 4, 2) := by decide +kernel
theorem dX9_drifted_7 : decode cX9_drifted 7 = .ok (.aload_n 0, 1) := by decide +kernel
theorem dX9_drifted_8 : decode cX9_drifted 8 = .ok (.getfield 17, 3) := by decide +kernel
theorem dX9_drifted_11 : decode cX9_drifted 11 = .ok (.if_icmp .ge 31, 3) := by decide +kernel
theorem dX9_drifted_14 : decode cX9_drifted 14 = .ok (.iload_n 3, 1) := by decide +kernel
theorem dX9_drifted_15 : decode cX9_drifted 15 = .ok (.aload_n 0, 1) := by decide +kernel
theorem dX9_drifted_16 : decode cX9_drifted 16 = .ok (.aload_n 1, 1) := by decide +kernel
theorem dX9_drifted_17 : decode cX9_drifted 17 = .ok (.iload_n 2, 1) := by decide +kernel
theorem dX9_drifted_18 : decode cX9_drifted 18 = .ok (.iload 4, 2) := by decide +kernel
theorem dX9_drifted_20 : decode cX9_drifted 20 = .ok (.invokevirtual 163, 3) := by decide +kernel
theorem dX9_drifted_23 : decode cX9_drifted 23 = .ok (.ifCond .eq 10, 3) := by decide +kernel
theorem dX9_drifted_26 : decode cX9_drifted 26 = .ok (.iconst 1, 1) := by decide +kernel
theorem dX9_drifted_27 : decode cX9_drifted 27 = .ok (.iload 4, 2) := by decide +kernel
theorem dX9_drifted_29 : decode cX9_drifted 29 = .ok (.ishl, 1) := by decide +kernel
theorem dX9_drifted_30 : decode cX9_drifted 30 = .ok (.goto 4, 3) := by decide +kernel
theorem dX9_drifted_33 : decode cX9_drifted 33 = .ok (.iconst 0, 1) := by decide +kernel
theorem dX9_drifted_34 : decode cX9_drifted 34 = .ok (.ior, 1) := by decide +kernel
theorem dX9_drifted_35 : decode cX9_drifted 35 = .ok (.istore_n 3, 1) := by decide +kernel
theorem dX9_drifted_36 : decode cX9_drifted 36 = .ok (.iinc 4 1, 3) := by decide +kernel
theorem dX9_drifted_39 : decode cX9_drifted 39 = .ok (.goto (-34), 3) := by decide +kernel
theorem dX9_drifted_42 : decode cX9_drifted 42 = .ok (.iload_n 3, 1) := by decide +kernel
theorem dX9_drifted_43 : decode cX9_drifted 43 = .ok (.ireturn, 1) := by decide +kernel
theorem dX9_ones_0 : decode cX9_ones 0 = .ok (.iconst 0, 1) := by decide +kernel
theorem dX9_ones_1 : decode cX9_ones 1 = .ok (.istore_n 1, 1) := by decide +kernel
theorem dX9_ones_2 : decode cX9_ones 2 = .ok (.iconst 0, 1) := by decide +kernel
theorem dX9_ones_3 : decode cX9_ones 3 = .ok (.istore_n 2, 1) := by decide +kernel
theorem dX9_ones_4 : decode cX9_ones 4 = .ok (.iload_n 2, 1) := by decide +kernel
theorem dX9_ones_5 : decode cX9_ones 5 = .ok (.bipush 30, 2) := by decide +kernel
theorem dX9_ones_7 : decode cX9_ones 7 = .ok (.if_icmp .ge 17, 3) := by decide +kernel
theorem dX9_ones_10 : decode cX9_ones 10 = .ok (.iload_n 1, 1) := by decide +kernel
theorem dX9_ones_11 : decode cX9_ones 11 = .ok (.iload_n 0, 1) := by decide +kernel
theorem dX9_ones_12 : decode cX9_ones 12 = .ok (.iload_n 2, 1) := by decide +kernel
theorem dX9_ones_13 : decode cX9_ones 13 = .ok (.ishr, 1) := by decide +kernel
theorem dX9_ones_14 : decode cX9_ones 14 = .ok (.iconst 1, 1) := by decide +kernel
theorem dX9_ones_15 : decode cX9_ones 15 = .ok (.iand, 1) := by decide +kernel
theorem dX9_ones_16 : decode cX9_ones 16 = .ok (.iadd, 1) := by decide +kernel
theorem dX9_ones_17 : decode cX9_ones 17 = .ok (.istore_n 1, 1) := by decide +kernel
theorem dX9_ones_18 : decode cX9_ones 18 = .ok (.iinc 2 1, 3) := by decide +kernel
theorem dX9_ones_21 : decode cX9_ones 21 = .ok (.goto (-17), 3) := by decide +kernel
theorem dX9_ones_24 : decode cX9_ones 24 = .ok (.iload_n 1, 1) := by decide +kernel
theorem dX9_ones_25 : decode cX9_ones 25 = .ok (.ireturn, 1) := by decide +kernel
theorem dX9_isQuarantined_0 : decode cX9_isQuarantined 0 = .ok (.aload_n 0, 1) := by decide +kernel
theorem dX9_isQuarantined_1 : decode cX9_isQuarantined 1 = .ok (.iload_n 1, 1) := by decide +kernel
theorem dX9_isQuarantined_2 : decode cX9_isQuarantined 2 = .ok (.invokestatic 126, 3) := by decide +kernel
theorem dX9_isQuarantined_5 : decode cX9_isQuarantined 5 = .ok (.bipush 14, 2) := by decide +kernel
theorem dX9_isQuarantined_7 : decode cX9_isQuarantined 7 = .ok (.iadd, 1) := by decide +kernel
theorem dX9_isQuarantined_8 : decode cX9_isQuarantined 8 = .ok (.iaload, 1) := by decide +kernel
theorem dX9_isQuarantined_9 : decode cX9_isQuarantined 9 = .ok (.aload_n 0, 1) := by decide +kernel
theorem dX9_isQuarantined_10 : decode cX9_isQuarantined 10 = .ok (.iconst 0, 1) := by decide +kernel
theorem dX9_isQuarantined_11 : decode cX9_isQuarantined 11 = .ok (.iaload, 1) := by decide +kernel
theorem dX9_isQuarantined_12 : decode cX9_isQuarantined 12 = .ok (.if_icmp .le 7, 3) := by decide +kernel
theorem dX9_isQuarantined_15 : decode cX9_isQuarantined 15 = .ok (.iconst 1, 1) := by decide +kernel
theorem dX9_isQuarantined_16 : decode cX9_isQuarantined 16 = .ok (.goto 4, 3) := by decide +kernel
theorem dX9_isQuarantined_19 : decode cX9_isQuarantined 19 = .ok (.iconst 0, 1) := by decide +kernel
theorem dX9_isQuarantined_20 : decode cX9_isQuarantined 20 = .ok (.ireturn, 1) := by decide +kernel
theorem dX9_lacking_0 : decode cX9_lacking 0 = .ok (.aload_n 0, 1) := by decide +kernel
theorem dX9_lacking_1 : decode cX9_lacking 1 = .ok (.iload_n 1, 1) := by decide +kernel
theorem dX9_lacking_2 : decode cX9_lacking 2 = .ok (.invokestatic 119, 3) := by decide +kernel
theorem dX9_lacking_5 : decode cX9_lacking 5 = .ok (.iaload, 1) := by decide +kernel
theorem dX9_lacking_6 : decode cX9_lacking 6 = .ok (.aload_n 0, 1) := by decide +kernel
theorem dX9_lacking_7 : decode cX9_lacking 7 = .ok (.iload_n 1, 1) := by decide +kernel
theorem dX9_lacking_8 : decode cX9_lacking 8 = .ok (.invokestatic 119, 3) := by decide +kernel
theorem dX9_lacking_11 : decode cX9_lacking 11 = .ok (.iconst 1, 1) := by decide +kernel
theorem dX9_lacking_12 : decode cX9_lacking 12 = .ok (.iadd, 1) := by decide +kernel
theorem dX9_lacking_13 : decode cX9_lacking 13 = .ok (.iload_n 2, 1) := by decide +kernel
theorem dX9_lacking_14 : decode cX9_lacking 14 = .ok (.iadd, 1) := by decide +kernel
theorem dX9_lacking_15 : decode cX9_lacking 15 = .ok (.iaload, 1) := by decide +kernel
theorem dX9_lacking_16 : decode cX9_lacking 16 = .ok (.invokestatic 167, 3) := by decide +kernel
theorem dX9_lacking_19 : decode cX9_lacking 19 = .ok (.isub, 1) := by decide +kernel
theorem dX9_lacking_20 : decode cX9_lacking 20 = .ok (.istore_n 3, 1) := by decide +kernel
theorem dX9_lacking_21 : decode cX9_lacking 21 = .ok (.iload_n 3, 1) := by decide +kernel
theorem dX9_lacking_22 : decode cX9_lacking 22 = .ok (.ifCond .ge 7, 3) := by decide +kernel
theorem dX9_lacking_25 : decode cX9_lacking 25 = .ok (.iconst 0, 1) := by decide +kernel
theorem dX9_lacking_26 : decode cX9_lacking 26 = .ok (.goto 4, 3) := by decide +kernel
theorem dX9_lacking_29 : decode cX9_lacking 29 = .ok (.iload_n 3, 1) := by decide +kernel
theorem dX9_lacking_30 : decode cX9_lacking 30 = .ok (.ireturn, 1) := by decide +kernel
theorem dX9_waitsForRings_0 : decode cX9_waitsForRings 0 = .ok (.iconst 0, 1) := by decide +kernel
theorem dX9_waitsForRings_1 : decode cX9_waitsForRings 1 = .ok (.istore 4, 2) := by decide +kernel
theorem dX9_waitsForRings_3 : decode cX9_waitsForRings 3 = .ok (.iconst 0, 1) := by decide +kernel
theorem dX9_waitsForRings_4 : decode cX9_waitsForRings 4 = .ok (.istore 5, 2) := by decide +kernel
theorem dX9_waitsForRings_6 : decode cX9_waitsForRings 6 = .ok (.iload 5, 2) := by decide +kernel
theorem dX9_waitsForRings_8 : decode cX9_waitsForRings 8 = .ok (.aload_n 0, 1) := by decide +kernel
theorem dX9_waitsForRings_9 : decode cX9_waitsForRings 9 = .ok (.getfield 13, 3) := by decide +kernel
theorem dX9_waitsForRings_12 : decode cX9_waitsForRings 12 = .ok (.if_icmp .ge 57, 3) := by decide +kernel
theorem dX9_waitsForRings_15 : decode cX9_waitsForRings 15 = .ok (.iload 4, 2) := by decide +kernel
theorem dX9_waitsForRings_17 : decode cX9_waitsForRings 17 = .ok (.ifCond .ne 39, 3) := by decide +kernel
theorem dX9_waitsForRings_20 : decode cX9_waitsForRings 20 = .ok (.aload_n 0, 1) := by decide +kernel
theorem dX9_waitsForRings_21 : decode cX9_waitsForRings 21 = .ok (.getfield 26, 3) := by decide +kernel
theorem dX9_waitsForRings_24 : decode cX9_waitsForRings 24 = .ok (.iload 5, 2) := by decide +kernel
theorem dX9_waitsForRings_26 : decode cX9_waitsForRings 26 = .ok (.iaload, 1) := by decide +kernel
theorem dX9_waitsForRings_27 : decode cX9_waitsForRings 27 = .ok (.aload_n 0, 1) := by decide +kernel
theorem dX9_waitsForRings_28 : decode cX9_waitsForRings 28 = .ok (.getfield 26, 3) := by decide +kernel
theorem dX9_waitsForRings_31 : decode cX9_waitsForRings 31 = .ok (.iload_n 2, 1) := by decide +kernel
theorem dX9_waitsForRings_32 : decode cX9_waitsForRings 32 = .ok (.iaload, 1) := by decide +kernel
theorem dX9_waitsForRings_33 : decode cX9_waitsForRings 33 = .ok (.if_icmp .ge 27, 3) := by decide +kernel
theorem dX9_waitsForRings_36 : decode cX9_waitsForRings 36 = .ok (.aload_n 1, 1) := by decide +kernel
theorem dX9_waitsForRings_37 : decode cX9_waitsForRings 37 = .ok (.iload 5, 2) := by decide +kernel
theorem dX9_waitsForRings_39 : decode cX9_waitsForRings 39 = .ok (.invokestatic 170, 3) := by decide +kernel
theorem dX9_waitsForRings_42 : decode cX9_waitsForRings 42 = .ok (.ifCond .ne 18, 3) := by decide +kernel
theorem dX9_waitsForRings_45 : decode cX9_waitsForRings 45 = .ok (.aload_n 0, 1) := by decide +kernel
theorem dX9_waitsForRings_46 : decode cX9_waitsForRings 46 = .ok (.aload_n 1, 1) := by decide +kernel
theorem dX9_waitsForRings_47 : decode cX9_waitsForRings 47 = .ok (.iload 5, 2) := by decide +kernel
theorem dX9_waitsForRings_49 : decode cX9_waitsForRings 49 = .ok (.iload_n 3, 1) := by decide +kernel
theorem dX9_waitsForRings_50 : decode cX9_waitsForRings 50 = .ok (.invokevirtual 163, 3) := by decide +kernel
theorem dX9_waitsForRings_53 : decode cX9_waitsForRings 53 = .ok (.ifCond .eq 7, 3) := by decide +kernel
theorem dX9_waitsForRings_56 : decode cX9_waitsForRings 56 = .ok (.iconst 1, 1) := by decide +kernel
theorem dX9_waitsForRings_57 : decode cX9_waitsForRings 57 = .ok (.goto 4, 3) := by decide +kernel
theorem dX9_waitsForRings_60 : decode cX9_waitsForRings 60 = .ok (.iconst 0, 1) := by decide +kernel
theorem dX9_waitsForRings_61 : decode cX9_waitsForRings 61 = .ok (.istore 4, 2) := by decide +kernel
theorem dX9_waitsForRings_63 : decode cX9_waitsForRings 63 = .ok (.iinc 5 1, 3) := by decide +kernel
theorem dX9_waitsForRings_66 : decode cX9_waitsForRings 66 = .ok (.goto (-60), 3) := by decide +kernel
theorem dX9_waitsForRings_69 : decode cX9_waitsForRings 69 = .ok (.iload 4, 2) := by decide +kernel
theorem dX9_waitsForRings_71 : decode cX9_waitsForRings 71 = .ok (.ireturn, 1) := by decide +kernel
theorem dX9_stateOf_0 : decode cX9_stateOf 0 = .ok (.aload_n 1, 1) := by decide +kernel
theorem dX9_stateOf_1 : decode cX9_stateOf 1 = .ok (.iload_n 2, 1) := by decide +kernel
theorem dX9_stateOf_2 : decode cX9_stateOf 2 = .ok (.invokestatic 126, 3) := by decide +kernel
theorem dX9_stateOf_5 : decode cX9_stateOf 5 = .ok (.bipush 6, 2) := by decide +kernel
theorem dX9_stateOf_7 : decode cX9_stateOf 7 = .ok (.iadd, 1) := by decide +kernel
theorem dX9_stateOf_8 : decode cX9_stateOf 8 = .ok (.iload_n 3, 1) := by decide +kernel
theorem dX9_stateOf_9 : decode cX9_stateOf 9 = .ok (.iadd, 1) := by decide +kernel
theorem dX9_stateOf_10 : decode cX9_stateOf 10 = .ok (.iaload, 1) := by decide +kernel
theorem dX9_stateOf_11 : decode cX9_stateOf 11 = .ok (.istore 4, 2) := by decide +kernel
theorem dX9_stateOf_13 : decode cX9_stateOf 13 = .ok (.aload_n 0, 1) := by decide +kernel
theorem dX9_stateOf_14 : decode cX9_stateOf 14 = .ok (.aload_n 1, 1) := by decide +kernel
theorem dX9_stateOf_15 : decode cX9_stateOf 15 = .ok (.iload_n 2, 1) := by decide +kernel
theorem dX9_stateOf_16 : decode cX9_stateOf 16 = .ok (.iload_n 3, 1) := by decide +kernel
theorem dX9_stateOf_17 : decode cX9_stateOf 17 = .ok (.invokevirtual 163, 3) := by decide +kernel
theorem dX9_stateOf_20 : decode cX9_stateOf 20 = .ok (.ifCond .ne 5, 3) := by decide +kernel
theorem dX9_stateOf_23 : decode cX9_stateOf 23 = .ok (.iconst 1, 1) := by decide +kernel
theorem dX9_stateOf_24 : decode cX9_stateOf 24 = .ok (.ireturn, 1) := by decide +kernel
theorem dX9_stateOf_25 : decode cX9_stateOf 25 = .ok (.aload_n 1, 1) := by decide +kernel
theorem dX9_stateOf_26 : decode cX9_stateOf 26 = .ok (.iload_n 2, 1) := by decide +kernel
theorem dX9_stateOf_27 : decode cX9_stateOf 27 = .ok (.invokestatic 170, 3) := by decide +kernel
theorem dX9_stateOf_30 : decode cX9_stateOf 30 = .ok (.ifCond .eq 5, 3) := by decide +kernel
theorem dX9_stateOf_33 : decode cX9_stateOf 33 = .ok (.iconst 2, 1) := by decide +kernel
theorem dX9_stateOf_34 : decode cX9_stateOf 34 = .ok (.ireturn, 1) := by decide +kernel
theorem dX9_stateOf_35 : decode cX9_stateOf 35 = .ok (.aload_n 1, 1) := by decide +kernel
theorem dX9_stateOf_36 : decode cX9_stateOf 36 = .ok (.iload_n 3, 1) := by decide +kernel
theorem dX9_stateOf_37 : decode cX9_stateOf 37 = .ok (.iload 4, 2) := by decide +kernel
theorem dX9_stateOf_39 : decode cX9_stateOf 39 = .ok (.invokestatic 174, 3) := by decide +kernel
theorem dX9_stateOf_42 : decode cX9_stateOf 42 = .ok (.ifCond .le 5, 3) := by decide +kernel
theorem dX9_stateOf_45 : decode cX9_stateOf 45 = .ok (.iconst 3, 1) := by decide +kernel
theorem dX9_stateOf_46 : decode cX9_stateOf 46 = .ok (.ireturn, 1) := by decide +kernel
theorem dX9_stateOf_47 : decode cX9_stateOf 47 = .ok (.aload_n 0, 1) := by decide +kernel
theorem dX9_stateOf_48 : decode cX9_stateOf 48 = .ok (.aload_n 1, 1) := by decide +kernel
theorem dX9_stateOf_49 : decode cX9_stateOf 49 = .ok (.iload_n 2, 1) := by decide +kernel
theorem dX9_stateOf_50 : decode cX9_stateOf 50 = .ok (.iload_n 3, 1) := by decide +kernel
theorem dX9_stateOf_51 : decode cX9_stateOf 51 = .ok (.invokevirtual 177, 3) := by decide +kernel
theorem dX9_stateOf_54 : decode cX9_stateOf 54 = .ok (.ifCond .eq 5, 3) := by decide +kernel
theorem dX9_stateOf_57 : decode cX9_stateOf 57 = .ok (.iconst 4, 1) := by decide +kernel
theorem dX9_stateOf_58 : decode cX9_stateOf 58 = .ok (.ireturn, 1) := by decide +kernel
theorem dX9_stateOf_59 : decode cX9_stateOf 59 = .ok (.aload_n 0, 1) := by decide +kernel
theorem dX9_stateOf_60 : decode cX9_stateOf 60 = .ok (.aload_n 1, 1) := by decide +kernel
theorem dX9_stateOf_61 : decode cX9_stateOf 61 = .ok (.iload_n 2, 1) := by decide +kernel
theorem dX9_stateOf_62 : decode cX9_stateOf 62 = .ok (.iload_n 3, 1) := by decide +kernel
theorem dX9_stateOf_63 : decode cX9_stateOf 63 = .ok (.iload 4, 2) := by decide +kernel
theorem dX9_stateOf_65 : decode cX9_stateOf 65 = .ok (.invokevirtual 180, 3) := by decide +kernel
theorem dX9_stateOf_68 : decode cX9_stateOf 68 = .ok (.ifCond .eq 7, 3) := by decide +kernel
theorem dX9_stateOf_71 : decode cX9_stateOf 71 = .ok (.iconst 5, 1) := by decide +kernel
theorem dX9_stateOf_72 : decode cX9_stateOf 72 = .ok (.goto 4, 3) := by decide +kernel
theorem dX9_stateOf_75 : decode cX9_stateOf 75 = .ok (.iconst 0, 1) := by decide +kernel
theorem dX9_stateOf_76 : decode cX9_stateOf 76 = .ok (.ireturn, 1) := by decide +kernel
theorem dX9_nextOf_0 : decode cX9_nextOf 0 = .ok (.iconst 0, 1) := by decide +kernel
theorem dX9_nextOf_1 : decode cX9_nextOf 1 = .ok (.istore_n 3, 1) := by decide +kernel
theorem dX9_nextOf_2 : decode cX9_nextOf 2 = .ok (.iload_n 3, 1) := by decide +kernel
theorem dX9_nextOf_3 : decode cX9_nextOf 3 = .ok (.aload_n 0, 1) := by decide +kernel
theorem dX9_nextOf_4 : decode cX9_nextOf 4 = .ok (.getfield 17, 3) := by decide +kernel
theorem dX9_nextOf_7 : decode cX9_nextOf 7 = .ok (.if_icmp .ge 21, 3) := by decide +kernel
theorem dX9_nextOf_10 : decode cX9_nextOf 10 = .ok (.aload_n 0, 1) := by decide +kernel
theorem dX9_nextOf_11 : decode cX9_nextOf 11 = .ok (.aload_n 1, 1) := by decide +kernel
theorem dX9_nextOf_12 : decode cX9_nextOf 12 = .ok (.iload_n 2, 1) := by decide +kernel
theorem dX9_nextOf_13 : decode cX9_nextOf 13 = .ok (.iload_n 3, 1) := by decide +kernel
theorem dX9_nextOf_14 : decode cX9_nextOf 14 = .ok (.invokevirtual 184, 3) := by decide +kernel
theorem dX9_nextOf_17 : decode cX9_nextOf 17 = .ok (.ifCond .ne 5, 3) := by decide +kernel
theorem dX9_nextOf_20 : decode cX9_nextOf 20 = .ok (.iload_n 3, 1) := by decide +kernel
theorem dX9_nextOf_21 : decode cX9_nextOf 21 = .ok (.ireturn, 1) := by decide +kernel
theorem dX9_nextOf_22 : decode cX9_nextOf 22 = .ok (.iinc 3 1, 3) := by decide +kernel
theorem dX9_nextOf_25 : decode cX9_nextOf 25 = .ok (.goto (-23), 3) := by decide +kernel
theorem dX9_nextOf_28 : decode cX9_nextOf 28 = .ok (.bipush (-9), 2) := by decide +kernel
theorem dX9_nextOf_30 : decode cX9_nextOf 30 = .ok (.ireturn, 1) := by decide +kernel
theorem dX9_tickOn_0 : decode cX9_tickOn 0 = .ok (.aload_n 1, 1) := by decide +kernel
theorem dX9_tickOn_1 : decode cX9_tickOn 1 = .ok (.iconst 0, 1) := by decide +kernel
theorem dX9_tickOn_2 : decode cX9_tickOn 2 = .ok (.dup2, 1) := by decide +kernel
theorem dX9_tickOn_3 : decode cX9_tickOn 3 = .ok (.iaload, 1) := by decide +kernel
theorem dX9_tickOn_4 : decode cX9_tickOn 4 = .ok (.iconst 1, 1) := by decide +kernel
theorem dX9_tickOn_5 : decode cX9_tickOn 5 = .ok (.iadd, 1) := by decide +kernel
theorem dX9_tickOn_6 : decode cX9_tickOn 6 = .ok (.iastore, 1) := by decide +kernel
theorem dX9_tickOn_7 : decode cX9_tickOn 7 = .ok (.iconst 0, 1) := by decide +kernel
theorem dX9_tickOn_8 : decode cX9_tickOn 8 = .ok (.istore_n 2, 1) := by decide +kernel
theorem dX9_tickOn_9 : decode cX9_tickOn 9 = .ok (.iload_n 2, 1) := by decide +kernel
theorem dX9_tickOn_10 : decode cX9_tickOn 10 = .ok (.aload_n 0, 1) := by decide +kernel
theorem dX9_tickOn_11 : decode cX9_tickOn 11 = .ok (.getfield 13, 3) := by decide +kernel
theorem dX9_tickOn_14 : decode cX9_tickOn 14 = .ok (.if_icmp .ge 136, 3) := by decide +kernel
theorem dX9_tickOn_17 : decode cX9_tickOn 17 = .ok (.aload_n 0, 1) := by decide +kernel
theorem dX9_tickOn_18 : decode cX9_tickOn 18 = .ok (.aload_n 1, 1) := by decide +kernel
theorem dX9_tickOn_19 : decode cX9_tickOn 19 = .ok (.iload_n 2, 1) := by decide +kernel
theorem dX9_tickOn_20 : decode cX9_tickOn 20 = .ok (.invokevirtual 187, 3) := by decide +kernel
theorem dX9_tickOn_23 : decode cX9_tickOn 23 = .ok (.istore_n 3, 1) := by decide +kernel
theorem dX9_tickOn_24 : decode cX9_tickOn 24 = .ok (.iload_n 2, 1) := by decide +kernel
theorem dX9_tickOn_25 : decode cX9_tickOn 25 = .ok (.invokestatic 126, 3) := by decide +kernel
theorem dX9_tickOn_28 : decode cX9_tickOn 28 = .ok (.istore 4, 2) := by decide +kernel
theorem dX9_tickOn_30 : decode cX9_tickOn 30 = .ok (.iload_n 3, 1) := by decide +kernel
theorem dX9_tickOn_31 : decode cX9_tickOn 31 = .ok (.bipush (-9), 2) := by decide +kernel
theorem dX9_tickOn_33 : decode cX9_tickOn 33 = .ok (.if_icmp .eq 75, 3) := by decide +kernel
theorem dX9_tickOn_36 : decode cX9_tickOn 36 = .ok (.aload_n 1, 1) := by decide +kernel
theorem dX9_tickOn_37 : decode cX9_tickOn 37 = .ok (.iload 4, 2) := by decide +kernel
theorem dX9_tickOn_39 : decode cX9_tickOn 39 = .ok (.bipush 12, 2) := by decide +kernel
theorem dX9_tickOn_41 : decode cX9_tickOn 41 = .ok (.iadd, 1) := by decide +kernel
theorem dX9_tickOn_42 : decode cX9_tickOn 42 = .ok (.iaload, 1) := by decide +kernel
theorem dX9_tickOn_43 : decode cX9_tickOn 43 = .ok (.ifCond .le 65, 3) := by decide +kernel
theorem dX9_tickOn_46 : decode cX9_tickOn 46 = .ok (.aload_n 1, 1) := by decide +kernel
theorem dX9_tickOn_47 : decode cX9_tickOn 47 = .ok (.iload 4, 2) := by decide +kernel
theorem dX9_tickOn_49 : decode cX9_tickOn 49 = .ok (.bipush 12, 2) := by decide +kernel
theorem dX9_tickOn_51 : decode cX9_tickOn 51 = .ok (.iadd, 1) := by decide +kernel
theorem dX9_tickOn_52 : decode cX9_tickOn 52 = .ok (.dup2, 1) := by decide +kernel
theorem dX9_tickOn_53 : decode cX9_tickOn 53 = .ok (.iaload, 1) := by decide +kernel
theorem dX9_tickOn_54 : decode cX9_tickOn 54 = .ok (.iconst 1, 1) := by decide +kernel
theorem dX9_tickOn_55 : decode cX9_tickOn 55 = .ok (.isub, 1) := by decide +kernel
theorem dX9_tickOn_56 : decode cX9_tickOn 56 = .ok (.iastore, 1) := by decide +kernel
theorem dX9_tickOn_57 : decode cX9_tickOn 57 = .ok (.aload_n 1, 1) := by decide +kernel
theorem dX9_tickOn_58 : decode cX9_tickOn 58 = .ok (.iload 4, 2) := by decide +kernel
theorem dX9_tickOn_60 : decode cX9_tickOn 60 = .ok (.bipush 13, 2) := by decide +kernel
theorem dX9_tickOn_62 : decode cX9_tickOn 62 = .ok (.iadd, 1) := by decide +kernel
theorem dX9_tickOn_63 : decode cX9_tickOn 63 = .ok (.dup2, 1) := by decide +kernel
theorem dX9_tickOn_64 : decode cX9_tickOn 64 = .ok (.iaload, 1) := by decide +kernel
theorem dX9_tickOn_65 : decode cX9_tickOn 65 = .ok (.iconst 1, 1) := by decide +kernel
theorem dX9_tickOn_66 : decode cX9_tickOn 66 = .ok (.iadd, 1) := by decide +kernel
theorem dX9_tickOn_67 : decode cX9_tickOn 67 = .ok (.iastore, 1) := by decide +kernel
theorem dX9_tickOn_68 : decode cX9_tickOn 68 = .ok (.aload_n 1, 1) := by decide +kernel
theorem dX9_tickOn_69 : decode cX9_tickOn 69 = .ok (.iload 4, 2) := by decide +kernel
theorem dX9_tickOn_71 : decode cX9_tickOn 71 = .ok (.bipush 13, 2) := by decide +kernel
theorem dX9_tickOn_73 : decode cX9_tickOn 73 = .ok (.iadd, 1) := by decide +kernel
theorem dX9_tickOn_74 : decode cX9_tickOn 74 = .ok (.iaload, 1) := by decide +kernel
theorem dX9_tickOn_75 : decode cX9_tickOn 75 = .ok (.aload_n 0, 1) := by decide +kernel
theorem dX9_tickOn_76 : decode cX9_tickOn 76 = .ok (.getfield 20, 3) := by decide +kernel
theorem dX9_tickOn_79 : decode cX9_tickOn 79 = .ok (.if_icmp .ne 65, 3) := by decide +kernel
theorem dX9_tickOn_82 : decode cX9_tickOn 82 = .ok (.aload_n 1, 1) := by decide +kernel
theorem dX9_tickOn_83 : decode cX9_tickOn 83 = .ok (.iload 4, 2) := by decide +kernel
theorem dX9_tickOn_85 : decode cX9_tickOn 85 = .ok (.bipush 13, 2) := by decide +kernel
theorem dX9_tickOn_87 : decode cX9_tickOn 87 = .ok (.iadd, 1) := by decide +kernel
theorem dX9_tickOn_88 : decode cX9_tickOn 88 = .ok (.iconst 0, 1) := by decide +kernel
theorem dX9_tickOn_89 : decode cX9_tickOn 89 = .ok (.iastore, 1) := by decide +kernel
theorem dX9_tickOn_90 : decode cX9_tickOn 90 = .ok (.aload_n 1, 1) := by decide +kernel
theorem dX9_tickOn_91 : decode cX9_tickOn 91 = .ok (.iload 4, 2) := by decide +kernel
theorem dX9_tickOn_93 : decode cX9_tickOn 93 = .ok (.bipush 14, 2) := by decide +kernel
theorem dX9_tickOn_95 : decode cX9_tickOn 95 = .ok (.iadd, 1) := by decide +kernel
theorem dX9_tickOn_96 : decode cX9_tickOn 96 = .ok (.aload_n 1, 1) := by decide +kernel
theorem dX9_tickOn_97 : decode cX9_tickOn 97 = .ok (.iconst 0, 1) := by decide +kernel
theorem dX9_tickOn_98 : decode cX9_tickOn 98 = .ok (.iaload, 1) := by decide +kernel
theorem dX9_tickOn_99 : decode cX9_tickOn 99 = .ok (.aload_n 0, 1) := by decide +kernel
theorem dX9_tickOn_100 : decode cX9_tickOn 100 = .ok (.getfield 23, 3) := by decide +kernel
theorem dX9_tickOn_103 : decode cX9_tickOn 103 = .ok (.iadd, 1) := by decide +kernel
theorem dX9_tickOn_104 : decode cX9_tickOn 104 = .ok (.iastore, 1) := by decide +kernel
theorem dX9_tickOn_105 : decode cX9_tickOn 105 = .ok (.goto 39, 3) := by decide +kernel
theorem dX9_tickOn_108 : decode cX9_tickOn 108 = .ok (.iload_n 3, 1) := by decide +kernel
theorem dX9_tickOn_109 : decode cX9_tickOn 109 = .ok (.bipush (-9), 2) := by decide +kernel
theorem dX9_tickOn_111 : decode cX9_tickOn 111 = .ok (.if_icmp .eq 33, 3) := by decide +kernel
theorem dX9_tickOn_114 : decode cX9_tickOn 114 = .ok (.aload_n 1, 1) := by decide +kernel
theorem dX9_tickOn_115 : decode cX9_tickOn 115 = .ok (.iload 4, 2) := by decide +kernel
theorem dX9_tickOn_117 : decode cX9_tickOn 117 = .ok (.iload_n 3, 1) := by decide +kernel
theorem dX9_tickOn_118 : decode cX9_tickOn 118 = .ok (.iadd, 1) := by decide +kernel
theorem dX9_tickOn_119 : decode cX9_tickOn 119 = .ok (.aload_n 1, 1) := by decide +kernel
theorem dX9_tickOn_120 : decode cX9_tickOn 120 = .ok (.iload 4, 2) := by decide +kernel
theorem dX9_tickOn_122 : decode cX9_tickOn 122 = .ok (.bipush 6, 2) := by decide +kernel
theorem dX9_tickOn_124 : decode cX9_tickOn 124 = .ok (.iadd, 1) := by decide +kernel
theorem dX9_tickOn_125 : decode cX9_tickOn 125 = .ok (.iload_n 3, 1) := by decide +kernel
theorem dX9_tickOn_126 : decode cX9_tickOn 126 = .ok (.iadd, 1) := by decide +kernel
theorem dX9_tickOn_127 : decode cX9_tickOn 127 = .ok (.iaload, 1) := by decide +kernel
theorem dX9_tickOn_128 : decode cX9_tickOn 128 = .ok (.iastore, 1) := by decide +kernel
theorem dX9_tickOn_129 : decode cX9_tickOn 129 = .ok (.aload_n 1, 1) := by decide +kernel
theorem dX9_tickOn_130 : decode cX9_tickOn 130 = .ok (.iload 4, 2) := by decide +kernel
theorem dX9_tickOn_132 : decode cX9_tickOn 132 = .ok (.bipush 13, 2) := by decide +kernel
theorem dX9_tickOn_134 : decode cX9_tickOn 134 = .ok (.iadd, 1) := by decide +kernel
theorem dX9_tickOn_135 : decode cX9_tickOn 135 = .ok (.iconst 0, 1) := by decide +kernel
theorem dX9_tickOn_136 : decode cX9_tickOn 136 = .ok (.iastore, 1) := by decide +kernel
theorem dX9_tickOn_137 : decode cX9_tickOn 137 = .ok (.aload_n 1, 1) := by decide +kernel
theorem dX9_tickOn_138 : decode cX9_tickOn 138 = .ok (.iconst 1, 1) := by decide +kernel
theorem dX9_tickOn_139 : decode cX9_tickOn 139 = .ok (.dup2, 1) := by decide +kernel
theorem dX9_tickOn_140 : decode cX9_tickOn 140 = .ok (.iaload, 1) := by decide +kernel
theorem dX9_tickOn_141 : decode cX9_tickOn 141 = .ok (.iconst 1, 1) := by decide +kernel
theorem dX9_tickOn_142 : decode cX9_tickOn 142 = .ok (.iadd, 1) := by decide +kernel
theorem dX9_tickOn_143 : decode cX9_tickOn 143 = .ok (.iastore, 1) := by decide +kernel
theorem dX9_tickOn_144 : decode cX9_tickOn 144 = .ok (.iinc 2 1, 3) := by decide +kernel
theorem dX9_tickOn_147 : decode cX9_tickOn 147 = .ok (.goto (-138), 3) := by decide +kernel
theorem dX9_tickOn_150 : decode cX9_tickOn 150 = .ok (.return_, 1) := by decide +kernel
theorem dX9_calmNodes_0 : decode cX9_calmNodes 0 = .ok (.iconst 0, 1) := by decide +kernel
theorem dX9_calmNodes_1 : decode cX9_calmNodes 1 = .ok (.istore_n 2, 1) := by decide +kernel
theorem dX9_calmNodes_2 : decode cX9_calmNodes 2 = .ok (.iconst 0, 1) := by decide +kernel
theorem dX9_calmNodes_3 : decode cX9_calmNodes 3 = .ok (.istore_n 3, 1) := by decide +kernel
theorem dX9_calmNodes_4 : decode cX9_calmNodes 4 = .ok (.iload_n 3, 1) := by decide +kernel
theorem dX9_calmNodes_5 : decode cX9_calmNodes 5 = .ok (.aload_n 0, 1) := by decide +kernel
theorem dX9_calmNodes_6 : decode cX9_calmNodes 6 = .ok (.getfield 13, 3) := by decide +kernel
theorem dX9_calmNodes_9 : decode cX9_calmNodes 9 = .ok (.if_icmp .ge 28, 3) := by decide +kernel
theorem dX9_calmNodes_12 : decode cX9_calmNodes 12 = .ok (.iload_n 2, 1) := by decide +kernel
theorem dX9_calmNodes_13 : decode cX9_calmNodes 13 = .ok (.aload_n 0, 1) := by decide +kernel
theorem dX9_calmNodes_14 : decode cX9_calmNodes 14 = .ok (.aload_n 1, 1) := by decide +kernel
theorem dX9_calmNodes_15 : decode cX9_calmNodes 15 = .ok (.iload_n 3, 1) := by decide +kernel
theorem dX9_calmNodes_16 : decode cX9_calmNodes 16 = .ok (.invokevirtual 191, 3) := by decide +kernel
theorem dX9_calmNodes_19 : decode cX9_calmNodes 19 = .ok (.ifCond .ne 9, 3) := by decide +kernel
theorem dX9_calmNodes_22 : decode cX9_calmNodes 22 = .ok (.iconst 1, 1) := by decide +kernel
theorem dX9_calmNodes_23 : decode cX9_calmNodes 23 = .ok (.iload_n 3, 1) := by decide +kernel
theorem dX9_calmNodes_24 : decode cX9_calmNodes 24 = .ok (.ishl, 1) := by decide +kernel
theorem dX9_calmNodes_25 : decode cX9_calmNodes 25 = .ok (.goto 4, 3) := by decide +kernel
theorem dX9_calmNodes_28 : decode cX9_calmNodes 28 = .ok (.iconst 0, 1) := by decide +kernel
theorem dX9_calmNodes_29 : decode cX9_calmNodes 29 = .ok (.ior, 1) := by decide +kernel
theorem dX9_calmNodes_30 : decode cX9_calmNodes 30 = .ok (.istore_n 2, 1) := by decide +kernel
theorem dX9_calmNodes_31 : decode cX9_calmNodes 31 = .ok (.iinc 3 1, 3) := by decide +kernel
theorem dX9_calmNodes_34 : decode cX9_calmNodes 34 = .ok (.goto (-30), 3) := by decide +kernel
theorem dX9_calmNodes_37 : decode cX9_calmNodes 37 = .ok (.iload_n 2, 1) := by decide +kernel
theorem dX9_calmNodes_38 : decode cX9_calmNodes 38 = .ok (.ireturn, 1) := by decide +kernel
theorem dX9_about_0 : decode cX9_about 0 = .ok (.aload_n 0, 1) := by decide +kernel
theorem dX9_about_1 : decode cX9_about 1 = .ok (.iload_n 1, 1) := by decide +kernel
theorem dX9_about_2 : decode cX9_about 2 = .ok (.i2l, 1) := by decide +kernel
theorem dX9_about_3 : decode cX9_about 3 = .ok (.lconst 0, 1) := by decide +kernel
theorem dX9_about_4 : decode cX9_about 4 = .ok (.ldc2_w 194, 3) := by decide +kernel
theorem dX9_about_7 : decode cX9_about 7 = .ok (.invokestatic 82, 3) := by decide +kernel
theorem dX9_about_10 : decode cX9_about 10 = .ok (.ifCond .eq 7, 3) := by decide +kernel
theorem dX9_about_13 : decode cX9_about 13 = .ok (.iconst 0, 1) := by decide +kernel
theorem dX9_about_14 : decode cX9_about 14 = .ok (.goto 4, 3) := by decide +kernel
theorem dX9_about_17 : decode cX9_about 17 = .ok (.iconst 1, 1) := by decide +kernel
theorem dX9_about_18 : decode cX9_about 18 = .ok (.invokevirtual 93, 3) := by decide +kernel
theorem dX9_about_21 : decode cX9_about 21 = .ok (.ifCond .eq 5, 3) := by decide +kernel
theorem dX9_about_24 : decode cX9_about 24 = .ok (.iconst 0, 1) := by decide +kernel
theorem dX9_about_25 : decode cX9_about 25 = .ok (.ireturn, 1) := by decide +kernel
theorem dX9_about_26 : decode cX9_about 26 = .ok (.iload_n 1, 1) := by decide +kernel
theorem dX9_about_27 : decode cX9_about 27 = .ok (.tableswitch 80 0 6 #[41, 46, 51, 56, 61, 66, 73], 41) := by decide +kernel
theorem dX9_about_68 : decode cX9_about 68 = .ok (.aload_n 0, 1) := by decide +kernel
theorem dX9_about_69 : decode cX9_about 69 = .ok (.getfield 13, 3) := by decide +kernel
theorem dX9_about_72 : decode cX9_about 72 = .ok (.ireturn, 1) := by decide +kernel
theorem dX9_about_73 : decode cX9_about 73 = .ok (.aload_n 0, 1) := by decide +kernel
theorem dX9_about_74 : decode cX9_about 74 = .ok (.getfield 17, 3) := by decide +kernel
theorem dX9_about_77 : decode cX9_about 77 = .ok (.ireturn, 1) := by decide +kernel
theorem dX9_about_78 : decode cX9_about 78 = .ok (.aload_n 0, 1) := by decide +kernel
theorem dX9_about_79 : decode cX9_about 79 = .ok (.getfield 146, 3) := by decide +kernel
theorem dX9_about_82 : decode cX9_about 82 = .ok (.ireturn, 1) := by decide +kernel
theorem dX9_about_83 : decode cX9_about 83 = .ok (.aload_n 0, 1) := by decide +kernel
theorem dX9_about_84 : decode cX9_about 84 = .ok (.getfield 20, 3) := by decide +kernel
theorem dX9_about_87 : decode cX9_about 87 = .ok (.ireturn, 1) := by decide +kernel
theorem dX9_about_88 : decode cX9_about 88 = .ok (.aload_n 0, 1) := by decide +kernel
theorem dX9_about_89 : decode cX9_about 89 = .ok (.getfield 23, 3) := by decide +kernel
theorem dX9_about_92 : decode cX9_about 92 = .ok (.ireturn, 1) := by decide +kernel
theorem dX9_about_93 : decode cX9_about 93 = .ok (.aload_n 0, 1) := by decide +kernel
theorem dX9_about_94 : decode cX9_about 94 = .ok (.getfield 41, 3) := by decide +kernel
theorem dX9_about_97 : decode cX9_about 97 = .ok (.iconst 0, 1) := by decide +kernel
theorem dX9_about_98 : decode cX9_about 98 = .ok (.iaload, 1) := by decide +kernel
theorem dX9_about_99 : decode cX9_about 99 = .ok (.ireturn, 1) := by decide +kernel
theorem dX9_about_100 : decode cX9_about 100 = .ok (.aload_n 0, 1) := by decide +kernel
theorem dX9_about_101 : decode cX9_about 101 = .ok (.getfield 41, 3) := by decide +kernel
theorem dX9_about_104 : decode cX9_about 104 = .ok (.iconst 1, 1) := by decide +kernel
theorem dX9_about_105 : decode cX9_about 105 = .ok (.iaload, 1) := by decide +kernel
theorem dX9_about_106 : decode cX9_about 106 = .ok (.ireturn, 1) := by decide +kernel
theorem dX9_about_107 : decode cX9_about 107 = .ok (.aload_n 0, 1) := by decide +kernel
theorem dX9_about_108 : decode cX9_about 108 = .ok (.aload_n 0, 1) := by decide +kernel
theorem dX9_about_109 : decode cX9_about 109 = .ok (.getfield 41, 3) := by decide +kernel
theorem dX9_about_112 : decode cX9_about 112 = .ok (.invokevirtual 196, 3) := by decide +kernel
theorem dX9_about_115 : decode cX9_about 115 = .ok (.ireturn, 1) := by decide +kernel
theorem dX9_digestOf_0 : decode cX9_digestOf 0 = .ok (.iconst 0, 1) := by decide +kernel
theorem dX9_digestOf_1 : decode cX9_digestOf 1 = .ok (.istore_n 3, 1) := by decide +kernel
theorem dX9_digestOf_2 : decode cX9_digestOf 2 = .ok (.iconst 0, 1) := by decide +kernel
theorem dX9_digestOf_3 : decode cX9_digestOf 3 = .ok (.istore 4, 2) := by decide +kernel
theorem dX9_digestOf_5 : decode cX9_digestOf 5 = .ok (.iload 4, 2) := by decide +kernel
theorem dX9_digestOf_7 : decode cX9_digestOf 7 = .ok (.aload_n 0, 1) := by decide +kernel
theorem dX9_digestOf_8 : decode cX9_digestOf 8 = .ok (.getfield 17, 3) := by decide +kernel
theorem dX9_digestOf_11 : decode cX9_digestOf 11 = .ok (.if_icmp .ge 26, 3) := by decide +kernel
theorem dX9_digestOf_14 : decode cX9_digestOf 14 = .ok (.iload_n 3, 1) := by decide +kernel
theorem dX9_digestOf_15 : decode cX9_digestOf 15 = .ok (.iload 4, 2) := by decide +kernel
theorem dX9_digestOf_17 : decode cX9_digestOf 17 = .ok (.iconst 1, 1) := by decide +kernel
theorem dX9_digestOf_18 : decode cX9_digestOf 18 = .ok (.iadd, 1) := by decide +kernel
theorem dX9_digestOf_19 : decode cX9_digestOf 19 = .ok (.aload_n 1, 1) := by decide +kernel
theorem dX9_digestOf_20 : decode cX9_digestOf 20 = .ok (.iload_n 2, 1) := by decide +kernel
theorem dX9_digestOf_21 : decode cX9_digestOf 21 = .ok (.invokestatic 126, 3) := by decide +kernel
theorem dX9_digestOf_24 : decode cX9_digestOf 24 = .ok (.iload 4, 2) := by decide +kernel
theorem dX9_digestOf_26 : decode cX9_digestOf 26 = .ok (.iadd, 1) := by decide +kernel
theorem dX9_digestOf_27 : decode cX9_digestOf 27 = .ok (.iaload, 1) := by decide +kernel
theorem dX9_digestOf_28 : decode cX9_digestOf 28 = .ok (.imul, 1) := by decide +kernel
theorem dX9_digestOf_29 : decode cX9_digestOf 29 = .ok (.iadd, 1) := by decide +kernel
theorem dX9_digestOf_30 : decode cX9_digestOf 30 = .ok (.istore_n 3, 1) := by decide +kernel
theorem dX9_digestOf_31 : decode cX9_digestOf 31 = .ok (.iinc 4 1, 3) := by decide +kernel
theorem dX9_digestOf_34 : decode cX9_digestOf 34 = .ok (.goto (-29), 3) := by decide +kernel
theorem dX9_digestOf_37 : decode cX9_digestOf 37 = .ok (.iload_n 3, 1) := by decide +kernel
theorem dX9_digestOf_38 : decode cX9_digestOf 38 = .ok (.ireturn, 1) := by decide +kernel
theorem dX9_tell_0 : decode cX9_tell 0 = .ok (.iload_n 3, 1) := by decide +kernel
theorem dX9_tell_1 : decode cX9_tell 1 = .ok (.tableswitch 108 0 5 #[39, 46, 56, 66, 89, 96], 39) := by decide +kernel
theorem dX9_tell_40 : decode cX9_tell 40 = .ok (.aload_n 0, 1) := by decide +kernel
theorem dX9_tell_41 : decode cX9_tell 41 = .ok (.getfield 26, 3) := by decide +kernel
theorem dX9_tell_44 : decode cX9_tell 44 = .ok (.iload_n 2, 1) := by decide +kernel
theorem dX9_tell_45 : decode cX9_tell 45 = .ok (.iaload, 1) := by decide +kernel
theorem dX9_tell_46 : decode cX9_tell 46 = .ok (.ireturn, 1) := by decide +kernel
theorem dX9_tell_47 : decode cX9_tell 47 = .ok (.aload_n 1, 1) := by decide +kernel
theorem dX9_tell_48 : decode cX9_tell 48 = .ok (.iload_n 2, 1) := by decide +kernel
theorem dX9_tell_49 : decode cX9_tell 49 = .ok (.invokestatic 126, 3) := by decide +kernel
theorem dX9_tell_52 : decode cX9_tell 52 = .ok (.bipush 12, 2) := by decide +kernel
theorem dX9_tell_54 : decode cX9_tell 54 = .ok (.iadd, 1) := by decide +kernel
theorem dX9_tell_55 : decode cX9_tell 55 = .ok (.iaload, 1) := by decide +kernel
theorem dX9_tell_56 : decode cX9_tell 56 = .ok (.ireturn, 1) := by decide +kernel
theorem dX9_tell_57 : decode cX9_tell 57 = .ok (.aload_n 1, 1) := by decide +kernel
theorem dX9_tell_58 : decode cX9_tell 58 = .ok (.iload_n 2, 1) := by decide +kernel
theorem dX9_tell_59 : decode cX9_tell 59 = .ok (.invokestatic 126, 3) := by decide +kernel
theorem dX9_tell_62 : decode cX9_tell 62 = .ok (.bipush 13, 2) := by decide +kernel
theorem dX9_tell_64 : decode cX9_tell 64 = .ok (.iadd, 1) := by decide +kernel
theorem dX9_tell_65 : decode cX9_tell 65 = .ok (.iaload, 1) := by decide +kernel
theorem dX9_tell_66 : decode cX9_tell 66 = .ok (.ireturn, 1) := by decide +kernel
theorem dX9_tell_67 : decode cX9_tell 67 = .ok (.aload_n 1, 1) := by decide +kernel
theorem dX9_tell_68 : decode cX9_tell 68 = .ok (.iload_n 2, 1) := by decide +kernel
theorem dX9_tell_69 : decode cX9_tell 69 = .ok (.invokestatic 170, 3) := by decide +kernel
theorem dX9_tell_72 : decode cX9_tell 72 = .ok (.ifCond .eq 15, 3) := by decide +kernel
theorem dX9_tell_75 : decode cX9_tell 75 = .ok (.aload_n 1, 1) := by decide +kernel
theorem dX9_tell_76 : decode cX9_tell 76 = .ok (.iload_n 2, 1) := by decide +kernel
theorem dX9_tell_77 : decode cX9_tell 77 = .ok (.invokestatic 126, 3) := by decide +kernel
theorem dX9_tell_80 : decode cX9_tell 80 = .ok (.bipush 14, 2) := by decide +kernel
theorem dX9_tell_82 : decode cX9_tell 82 = .ok (.iadd, 1) := by decide +kernel
theorem dX9_tell_83 : decode cX9_tell 83 = .ok (.iaload, 1) := by decide +kernel
theorem dX9_tell_84 : decode cX9_tell 84 = .ok (.goto 5, 3) := by decide +kernel
theorem dX9_tell_87 : decode cX9_tell 87 = .ok (.bipush (-9), 2) := by decide +kernel
theorem dX9_tell_89 : decode cX9_tell 89 = .ok (.ireturn, 1) := by decide +kernel
theorem dX9_tell_90 : decode cX9_tell 90 = .ok (.aload_n 0, 1) := by decide +kernel
theorem dX9_tell_91 : decode cX9_tell 91 = .ok (.aload_n 1, 1) := by decide +kernel
theorem dX9_tell_92 : decode cX9_tell 92 = .ok (.iload_n 2, 1) := by decide +kernel
theorem dX9_tell_93 : decode cX9_tell 93 = .ok (.invokevirtual 191, 3) := by decide +kernel
theorem dX9_tell_96 : decode cX9_tell 96 = .ok (.ireturn, 1) := by decide +kernel
theorem dX9_tell_97 : decode cX9_tell 97 = .ok (.aload_n 0, 1) := by decide +kernel
theorem dX9_tell_98 : decode cX9_tell 98 = .ok (.aload_n 0, 1) := by decide +kernel
theorem dX9_tell_99 : decode cX9_tell 99 = .ok (.aload_n 1, 1) := by decide +kernel
theorem dX9_tell_100 : decode cX9_tell 100 = .ok (.iload_n 2, 1) := by decide +kernel
theorem dX9_tell_101 : decode cX9_tell 101 = .ok (.iconst 0, 1) := by decide +kernel
theorem dX9_tell_102 : decode cX9_tell 102 = .ok (.invokevirtual 153, 3) := by decide +kernel
theorem dX9_tell_105 : decode cX9_tell 105 = .ok (.invokevirtual 160, 3) := by decide +kernel
theorem dX9_tell_108 : decode cX9_tell 108 = .ok (.ireturn, 1) := by decide +kernel
theorem dX9_tell_109 : decode cX9_tell 109 = .ok (.aload_n 0, 1) := by decide +kernel
theorem dX9_tell_110 : decode cX9_tell 110 = .ok (.aload_n 1, 1) := by decide +kernel
theorem dX9_tell_111 : decode cX9_tell 111 = .ok (.iload_n 2, 1) := by decide +kernel
theorem dX9_tell_112 : decode cX9_tell 112 = .ok (.invokevirtual 200, 3) := by decide +kernel
theorem dX9_tell_115 : decode cX9_tell 115 = .ok (.ireturn, 1) := by decide +kernel
theorem dX9_node_0 : decode cX9_node 0 = .ok (.aload_n 0, 1) := by decide +kernel
theorem dX9_node_1 : decode cX9_node 1 = .ok (.aload_n 0, 1) := by decide +kernel
theorem dX9_node_2 : decode cX9_node 2 = .ok (.iload_n 1, 1) := by decide +kernel
theorem dX9_node_3 : decode cX9_node 3 = .ok (.invokevirtual 203, 3) := by decide +kernel
theorem dX9_node_6 : decode cX9_node 6 = .ok (.ifCond .ne 7, 3) := by decide +kernel
theorem dX9_node_9 : decode cX9_node 9 = .ok (.iconst 1, 1) := by decide +kernel
theorem dX9_node_10 : decode cX9_node 10 = .ok (.goto 20, 3) := by decide +kernel
theorem dX9_node_13 : decode cX9_node 13 = .ok (.iload_n 2, 1) := by decide +kernel
theorem dX9_node_14 : decode cX9_node 14 = .ok (.i2l, 1) := by decide +kernel
theorem dX9_node_15 : decode cX9_node 15 = .ok (.lconst 0, 1) := by decide +kernel
theorem dX9_node_16 : decode cX9_node 16 = .ok (.ldc2_w 206, 3) := by decide +kernel
theorem dX9_node_19 : decode cX9_node 19 = .ok (.invokestatic 82, 3) := by decide +kernel
theorem dX9_node_22 : decode cX9_node 22 = .ok (.ifCond .ne 7, 3) := by decide +kernel
theorem dX9_node_25 : decode cX9_node 25 = .ok (.iconst 2, 1) := by decide +kernel
theorem dX9_node_26 : decode cX9_node 26 = .ok (.goto 4, 3) := by decide +kernel
theorem dX9_node_29 : decode cX9_node 29 = .ok (.iconst 0, 1) := by decide +kernel
theorem dX9_node_30 : decode cX9_node 30 = .ok (.invokevirtual 93, 3) := by decide +kernel
theorem dX9_node_33 : decode cX9_node 33 = .ok (.ifCond .eq 5, 3) := by decide +kernel
theorem dX9_node_36 : decode cX9_node 36 = .ok (.iconst 0, 1) := by decide +kernel
theorem dX9_node_37 : decode cX9_node 37 = .ok (.ireturn, 1) := by decide +kernel
theorem dX9_node_38 : decode cX9_node 38 = .ok (.aload_n 0, 1) := by decide +kernel
theorem dX9_node_39 : decode cX9_node 39 = .ok (.aload_n 0, 1) := by decide +kernel
theorem dX9_node_40 : decode cX9_node 40 = .ok (.getfield 41, 3) := by decide +kernel
theorem dX9_node_43 : decode cX9_node 43 = .ok (.iload_n 1, 1) := by decide +kernel
theorem dX9_node_44 : decode cX9_node 44 = .ok (.iload_n 2, 1) := by decide +kernel
theorem dX9_node_45 : decode cX9_node 45 = .ok (.invokevirtual 208, 3) := by decide +kernel
theorem dX9_node_48 : decode cX9_node 48 = .ok (.ireturn, 1) := by decide +kernel
theorem dX9_version_0 : decode cX9_version 0 = .ok (.aload_n 0, 1) := by decide +kernel
theorem dX9_version_1 : decode cX9_version 1 = .ok (.aload_n 0, 1) := by decide +kernel
theorem dX9_version_2 : decode cX9_version 2 = .ok (.iload_n 1, 1) := by decide +kernel
theorem dX9_version_3 : decode cX9_version 3 = .ok (.invokevirtual 203, 3) := by decide +kernel
theorem dX9_version_6 : decode cX9_version 6 = .ok (.ifCond .eq 15, 3) := by decide +kernel
theorem dX9_version_9 : decode cX9_version 9 = .ok (.aload_n 0, 1) := by decide +kernel
theorem dX9_version_10 : decode cX9_version 10 = .ok (.iload_n 2, 1) := by decide +kernel
theorem dX9_version_11 : decode cX9_version 11 = .ok (.invokevirtual 211, 3) := by decide +kernel
theorem dX9_version_14 : decode cX9_version 14 = .ok (.ifCond .eq 7, 3) := by decide +kernel
theorem dX9_version_17 : decode cX9_version 17 = .ok (.iconst 0, 1) := by decide +kernel
theorem dX9_version_18 : decode cX9_version 18 = .ok (.goto 4, 3) := by decide +kernel
theorem dX9_version_21 : decode cX9_version 21 = .ok (.iconst 1, 1) := by decide +kernel
theorem dX9_version_22 : decode cX9_version 22 = .ok (.invokevirtual 93, 3) := by decide +kernel
theorem dX9_version_25 : decode cX9_version 25 = .ok (.ifCond .eq 5, 3) := by decide +kernel
theorem dX9_version_28 : decode cX9_version 28 = .ok (.iconst 0, 1) := by decide +kernel
theorem dX9_version_29 : decode cX9_version 29 = .ok (.ireturn, 1) := by decide +kernel
theorem dX9_version_30 : decode cX9_version 30 = .ok (.aload_n 0, 1) := by decide +kernel
theorem dX9_version_31 : decode cX9_version 31 = .ok (.getfield 41, 3) := by decide +kernel
theorem dX9_version_34 : decode cX9_version 34 = .ok (.iload_n 1, 1) := by decide +kernel
theorem dX9_version_35 : decode cX9_version 35 = .ok (.invokestatic 126, 3) := by decide +kernel
theorem dX9_version_38 : decode cX9_version 38 = .ok (.iload_n 3, 1) := by decide +kernel
theorem dX9_version_39 : decode cX9_version 39 = .ok (.ifCond .eq 8, 3) := by decide +kernel
theorem dX9_version_42 : decode cX9_version 42 = .ok (.bipush 6, 2) := by decide +kernel
theorem dX9_version_44 : decode cX9_version 44 = .ok (.goto 4, 3) := by decide +kernel
theorem dX9_version_47 : decode cX9_version 47 = .ok (.iconst 0, 1) := by decide +kernel
theorem dX9_version_48 : decode cX9_version 48 = .ok (.iadd, 1) := by decide +kernel
theorem dX9_version_49 : decode cX9_version 49 = .ok (.iload_n 2, 1) := by decide +kernel
theorem dX9_version_50 : decode cX9_version 50 = .ok (.iadd, 1) := by decide +kernel
theorem dX9_version_51 : decode cX9_version 51 = .ok (.iaload, 1) := by decide +kernel
theorem dX9_version_52 : decode cX9_version 52 = .ok (.ireturn, 1) := by decide +kernel
theorem dX9_rule_0 : decode cX9_rule 0 = .ok (.aload_n 0, 1) := by decide +kernel
theorem dX9_rule_1 : decode cX9_rule 1 = .ok (.iload_n 1, 1) := by decide +kernel
theorem dX9_rule_2 : decode cX9_rule 2 = .ok (.i2l, 1) := by decide +kernel
theorem dX9_rule_3 : decode cX9_rule 3 = .ok (.lconst 0, 1) := by decide +kernel
theorem dX9_rule_4 : decode cX9_rule 4 = .ok (.aload_n 0, 1) := by decide +kernel
theorem dX9_rule_5 : decode cX9_rule 5 = .ok (.getfield 146, 3) := by decide +kernel
theorem dX9_rule_8 : decode cX9_rule 8 = .ok (.iconst 1, 1) := by decide +kernel
theorem dX9_rule_9 : decode cX9_rule 9 = .ok (.isub, 1) := by decide +kernel
theorem dX9_rule_10 : decode cX9_rule 10 = .ok (.i2l, 1) := by decide +kernel
theorem dX9_rule_11 : decode cX9_rule 11 = .ok (.invokestatic 82, 3) := by decide +kernel
theorem dX9_rule_14 : decode cX9_rule 14 = .ok (.ifCond .ne 7, 3) := by decide +kernel
theorem dX9_rule_17 : decode cX9_rule 17 = .ok (.iconst 1, 1) := by decide +kernel
theorem dX9_rule_18 : decode cX9_rule 18 = .ok (.goto 20, 3) := by decide +kernel
theorem dX9_rule_21 : decode cX9_rule 21 = .ok (.iload_n 2, 1) := by decide +kernel
theorem dX9_rule_22 : decode cX9_rule 22 = .ok (.i2l, 1) := by decide +kernel
theorem dX9_rule_23 : decode cX9_rule 23 = .ok (.lconst 0, 1) := by decide +kernel
theorem dX9_rule_24 : decode cX9_rule 24 = .ok (.ldc2_w 214, 3) := by decide +kernel
theorem dX9_rule_27 : decode cX9_rule 27 = .ok (.invokestatic 82, 3) := by decide +kernel
theorem dX9_rule_30 : decode cX9_rule 30 = .ok (.ifCond .ne 7, 3) := by decide +kernel
theorem dX9_rule_33 : decode cX9_rule 33 = .ok (.iconst 2, 1) := by decide +kernel
theorem dX9_rule_34 : decode cX9_rule 34 = .ok (.goto 4, 3) := by decide +kernel
theorem dX9_rule_37 : decode cX9_rule 37 = .ok (.iconst 0, 1) := by decide +kernel
theorem dX9_rule_38 : decode cX9_rule 38 = .ok (.invokevirtual 93, 3) := by decide +kernel
theorem dX9_rule_41 : decode cX9_rule 41 = .ok (.ifCond .eq 5, 3) := by decide +kernel
theorem dX9_rule_44 : decode cX9_rule 44 = .ok (.iconst 0, 1) := by decide +kernel
theorem dX9_rule_45 : decode cX9_rule 45 = .ok (.ireturn, 1) := by decide +kernel
theorem dX9_rule_46 : decode cX9_rule 46 = .ok (.aload_n 0, 1) := by decide +kernel
theorem dX9_rule_47 : decode cX9_rule 47 = .ok (.getfield 29, 3) := by decide +kernel
theorem dX9_rule_50 : decode cX9_rule 50 = .ok (.iconst 5, 1) := by decide +kernel
theorem dX9_rule_51 : decode cX9_rule 51 = .ok (.iload_n 1, 1) := by decide +kernel
theorem dX9_rule_52 : decode cX9_rule 52 = .ok (.imul, 1) := by decide +kernel
theorem dX9_rule_53 : decode cX9_rule 53 = .ok (.iload_n 2, 1) := by decide +kernel
theorem dX9_rule_54 : decode cX9_rule 54 = .ok (.iadd, 1) := by decide +kernel
theorem dX9_rule_55 : decode cX9_rule 55 = .ok (.iaload, 1) := by decide +kernel
theorem dX9_rule_56 : decode cX9_rule 56 = .ok (.ireturn, 1) := by decide +kernel
theorem dX9_approvals_0 : decode cX9_approvals 0 = .ok (.aload_n 0, 1) := by decide +kernel
theorem dX9_approvals_1 : decode cX9_approvals 1 = .ok (.aload_n 0, 1) := by decide +kernel
theorem dX9_approvals_2 : decode cX9_approvals 2 = .ok (.iload_n 1, 1) := by decide +kernel
theorem dX9_approvals_3 : decode cX9_approvals 3 = .ok (.invokevirtual 211, 3) := by decide +kernel
theorem dX9_approvals_6 : decode cX9_approvals 6 = .ok (.ifCond .ne 7, 3) := by decide +kernel
theorem dX9_approvals_9 : decode cX9_approvals 9 = .ok (.iconst 1, 1) := by decide +kernel
theorem dX9_approvals_10 : decode cX9_approvals 10 = .ok (.goto 15, 3) := by decide +kernel
theorem dX9_approvals_13 : decode cX9_approvals 13 = .ok (.iload_n 2, 1) := by decide +kernel
theorem dX9_approvals_14 : decode cX9_approvals 14 = .ok (.invokestatic 216, 3) := by decide +kernel
theorem dX9_approvals_17 : decode cX9_approvals 17 = .ok (.ifCond .ne 7, 3) := by decide +kernel
theorem dX9_approvals_20 : decode cX9_approvals 20 = .ok (.iconst 2, 1) := by decide +kernel
theorem dX9_approvals_21 : decode cX9_approvals 21 = .ok (.goto 4, 3) := by decide +kernel
theorem dX9_approvals_24 : decode cX9_approvals 24 = .ok (.iconst 0, 1) := by decide +kernel
theorem dX9_approvals_25 : decode cX9_approvals 25 = .ok (.invokevirtual 93, 3) := by decide +kernel
theorem dX9_approvals_28 : decode cX9_approvals 28 = .ok (.ifCond .eq 5, 3) := by decide +kernel
theorem dX9_approvals_31 : decode cX9_approvals 31 = .ok (.iconst 0, 1) := by decide +kernel
theorem dX9_approvals_32 : decode cX9_approvals 32 = .ok (.ireturn, 1) := by decide +kernel
theorem dX9_approvals_33 : decode cX9_approvals 33 = .ok (.aload_n 0, 1) := by decide +kernel
theorem dX9_approvals_34 : decode cX9_approvals 34 = .ok (.getfield 41, 3) := by decide +kernel
theorem dX9_approvals_37 : decode cX9_approvals 37 = .ok (.iload_n 1, 1) := by decide +kernel
theorem dX9_approvals_38 : decode cX9_approvals 38 = .ok (.invokestatic 119, 3) := by decide +kernel
theorem dX9_approvals_41 : decode cX9_approvals 41 = .ok (.iconst 1, 1) := by decide +kernel
theorem dX9_approvals_42 : decode cX9_approvals 42 = .ok (.iadd, 1) := by decide +kernel
theorem dX9_approvals_43 : decode cX9_approvals 43 = .ok (.iload_n 2, 1) := by decide +kernel
theorem dX9_approvals_44 : decode cX9_approvals 44 = .ok (.iadd, 1) := by decide +kernel
theorem dX9_approvals_45 : decode cX9_approvals 45 = .ok (.iaload, 1) := by decide +kernel
theorem dX9_approvals_46 : decode cX9_approvals 46 = .ok (.ireturn, 1) := by decide +kernel
theorem dX9_quorum_0 : decode cX9_quorum 0 = .ok (.aload_n 0, 1) := by decide +kernel
theorem dX9_quorum_1 : decode cX9_quorum 1 = .ok (.aload_n 0, 1) := by decide +kernel
theorem dX9_quorum_2 : decode cX9_quorum 2 = .ok (.iload_n 1, 1) := by decide +kernel
theorem dX9_quorum_3 : decode cX9_quorum 3 = .ok (.invokevirtual 211, 3) := by decide +kernel
theorem dX9_quorum_6 : decode cX9_quorum 6 = .ok (.ifCond .eq 7, 3) := by decide +kernel
theorem dX9_quorum_9 : decode cX9_quorum 9 = .ok (.iconst 0, 1) := by decide +kernel
theorem dX9_quorum_10 : decode cX9_quorum 10 = .ok (.goto 4, 3) := by decide +kernel
theorem dX9_quorum_13 : decode cX9_quorum 13 = .ok (.iconst 1, 1) := by decide +kernel
theorem dX9_quorum_14 : decode cX9_quorum 14 = .ok (.invokevirtual 93, 3) := by decide +kernel
theorem dX9_quorum_17 : decode cX9_quorum 17 = .ok (.ifCond .eq 7, 3) := by decide +kernel
theorem dX9_quorum_20 : decode cX9_quorum 20 = .ok (.iconst 0, 1) := by decide +kernel
theorem dX9_quorum_21 : decode cX9_quorum 21 = .ok (.goto 12, 3) := by decide +kernel
theorem dX9_quorum_24 : decode cX9_quorum 24 = .ok (.aload_n 0, 1) := by decide +kernel
theorem dX9_quorum_25 : decode cX9_quorum 25 = .ok (.getfield 41, 3) := by decide +kernel
theorem dX9_quorum_28 : decode cX9_quorum 28 = .ok (.iload_n 1, 1) := by decide +kernel
theorem dX9_quorum_29 : decode cX9_quorum 29 = .ok (.invokestatic 119, 3) := by decide +kernel
theorem dX9_quorum_32 : decode cX9_quorum 32 = .ok (.iaload, 1) := by decide +kernel
theorem dX9_quorum_33 : decode cX9_quorum 33 = .ok (.ireturn, 1) := by decide +kernel
theorem dX9_wish_0 : decode cX9_wish 0 = .ok (.aload_n 0, 1) := by decide +kernel
theorem dX9_wish_1 : decode cX9_wish 1 = .ok (.aload_n 0, 1) := by decide +kernel
theorem dX9_wish_2 : decode cX9_wish 2 = .ok (.iload_n 1, 1) := by decide +kernel
theorem dX9_wish_3 : decode cX9_wish 3 = .ok (.invokevirtual 203, 3) := by decide +kernel
theorem dX9_wish_6 : decode cX9_wish 6 = .ok (.ifCond .eq 11, 3) := by decide +kernel
theorem dX9_wish_9 : decode cX9_wish 9 = .ok (.aload_n 0, 1) := by decide +kernel
theorem dX9_wish_10 : decode cX9_wish 10 = .ok (.iload_n 2, 1) := by decide +kernel
theorem dX9_wish_11 : decode cX9_wish 11 = .ok (.invokevirtual 211, 3) := by decide +kernel
theorem dX9_wish_14 : decode cX9_wish 14 = .ok (.ifCond .ne 7, 3) := by decide +kernel
theorem dX9_wish_17 : decode cX9_wish 17 = .ok (.iconst 1, 1) := by decide +kernel
theorem dX9_wish_18 : decode cX9_wish 18 = .ok (.goto 15, 3) := by decide +kernel
theorem dX9_wish_21 : decode cX9_wish 21 = .ok (.iload_n 3, 1) := by decide +kernel
theorem dX9_wish_22 : decode cX9_wish 22 = .ok (.invokestatic 216, 3) := by decide +kernel
theorem dX9_wish_25 : decode cX9_wish 25 = .ok (.ifCond .ne 7, 3) := by decide +kernel
theorem dX9_wish_28 : decode cX9_wish 28 = .ok (.iconst 2, 1) := by decide +kernel
theorem dX9_wish_29 : decode cX9_wish 29 = .ok (.goto 4, 3) := by decide +kernel
theorem dX9_wish_32 : decode cX9_wish 32 = .ok (.iconst 0, 1) := by decide +kernel
theorem dX9_wish_33 : decode cX9_wish 33 = .ok (.invokevirtual 93, 3) := by decide +kernel
theorem dX9_wish_36 : decode cX9_wish 36 = .ok (.ifCond .eq 5, 3) := by decide +kernel
theorem dX9_wish_39 : decode cX9_wish 39 = .ok (.iconst 0, 1) := by decide +kernel
theorem dX9_wish_40 : decode cX9_wish 40 = .ok (.ireturn, 1) := by decide +kernel
theorem dX9_wish_41 : decode cX9_wish 41 = .ok (.aload_n 0, 1) := by decide +kernel
theorem dX9_wish_42 : decode cX9_wish 42 = .ok (.iload_n 1, 1) := by decide +kernel
theorem dX9_wish_43 : decode cX9_wish 43 = .ok (.invokestatic 126, 3) := by decide +kernel
theorem dX9_wish_46 : decode cX9_wish 46 = .ok (.bipush 6, 2) := by decide +kernel
theorem dX9_wish_48 : decode cX9_wish 48 = .ok (.iadd, 1) := by decide +kernel
theorem dX9_wish_49 : decode cX9_wish 49 = .ok (.iload_n 2, 1) := by decide +kernel
theorem dX9_wish_50 : decode cX9_wish 50 = .ok (.iadd, 1) := by decide +kernel
theorem dX9_wish_51 : decode cX9_wish 51 = .ok (.iload_n 3, 1) := by decide +kernel
theorem dX9_wish_52 : decode cX9_wish 52 = .ok (.invokevirtual 219, 3) := by decide +kernel
theorem dX9_wish_55 : decode cX9_wish 55 = .ok (.ireturn, 1) := by decide +kernel
theorem dX9_wishRing_0 : decode cX9_wishRing 0 = .ok (.aload_n 0, 1) := by decide +kernel
theorem dX9_wishRing_1 : decode cX9_wishRing 1 = .ok (.aload_n 0, 1) := by decide +kernel
theorem dX9_wishRing_2 : decode cX9_wishRing 2 = .ok (.iload_n 2, 1) := by decide +kernel
theorem dX9_wishRing_3 : decode cX9_wishRing 3 = .ok (.invokevirtual 211, 3) := by decide +kernel
theorem dX9_wishRing_6 : decode cX9_wishRing 6 = .ok (.ifCond .ne 7, 3) := by decide +kernel
theorem dX9_wishRing_9 : decode cX9_wishRing 9 = .ok (.iconst 1, 1) := by decide +kernel
theorem dX9_wishRing_10 : decode cX9_wishRing 10 = .ok (.goto 27, 3) := by decide +kernel
theorem dX9_wishRing_13 : decode cX9_wishRing 13 = .ok (.iload_n 1, 1) := by decide +kernel
theorem dX9_wishRing_14 : decode cX9_wishRing 14 = .ok (.i2l, 1) := by decide +kernel
theorem dX9_wishRing_15 : decode cX9_wishRing 15 = .ok (.lconst 0, 1) := by decide +kernel
theorem dX9_wishRing_16 : decode cX9_wishRing 16 = .ok (.ldc2_w 222, 3) := by decide +kernel
theorem dX9_wishRing_19 : decode cX9_wishRing 19 = .ok (.invokestatic 82, 3) := by decide +kernel
theorem dX9_wishRing_22 : decode cX9_wishRing 22 = .ok (.ifCond .eq 10, 3) := by decide +kernel
theorem dX9_wishRing_25 : decode cX9_wishRing 25 = .ok (.iload_n 3, 1) := by decide +kernel
theorem dX9_wishRing_26 : decode cX9_wishRing 26 = .ok (.invokestatic 216, 3) := by decide +kernel
theorem dX9_wishRing_29 : decode cX9_wishRing 29 = .ok (.ifCond .ne 7, 3) := by decide +kernel
theorem dX9_wishRing_32 : decode cX9_wishRing 32 = .ok (.iconst 2, 1) := by decide +kernel
theorem dX9_wishRing_33 : decode cX9_wishRing 33 = .ok (.goto 4, 3) := by decide +kernel
theorem dX9_wishRing_36 : decode cX9_wishRing 36 = .ok (.iconst 0, 1) := by decide +kernel
theorem dX9_wishRing_37 : decode cX9_wishRing 37 = .ok (.invokevirtual 93, 3) := by decide +kernel
theorem dX9_wishRing_40 : decode cX9_wishRing 40 = .ok (.ifCond .eq 5, 3) := by decide +kernel
theorem dX9_wishRing_43 : decode cX9_wishRing 43 = .ok (.iconst 0, 1) := by decide +kernel
theorem dX9_wishRing_44 : decode cX9_wishRing 44 = .ok (.ireturn, 1) := by decide +kernel
theorem dX9_wishRing_45 : decode cX9_wishRing 45 = .ok (.aload_n 0, 1) := by decide +kernel
theorem dX9_wishRing_46 : decode cX9_wishRing 46 = .ok (.invokevirtual 79, 3) := by decide +kernel
theorem dX9_wishRing_49 : decode cX9_wishRing 49 = .ok (.iconst 0, 1) := by decide +kernel
theorem dX9_wishRing_50 : decode cX9_wishRing 50 = .ok (.istore 4, 2) := by decide +kernel
theorem dX9_wishRing_52 : decode cX9_wishRing 52 = .ok (.iconst 0, 1) := by decide +kernel
theorem dX9_wishRing_53 : decode cX9_wishRing 53 = .ok (.istore 5, 2) := by decide +kernel
theorem dX9_wishRing_55 : decode cX9_wishRing 55 = .ok (.iload 5, 2) := by decide +kernel
theorem dX9_wishRing_57 : decode cX9_wishRing 57 = .ok (.aload_n 0, 1) := by decide +kernel
theorem dX9_wishRing_58 : decode cX9_wishRing 58 = .ok (.getfield 13, 3) := by decide +kernel
theorem dX9_wishRing_61 : decode cX9_wishRing 61 = .ok (.if_icmp .ge 39, 3) := by decide +kernel
theorem dX9_wishRing_64 : decode cX9_wishRing 64 = .ok (.aload_n 0, 1) := by decide +kernel
theorem dX9_wishRing_65 : decode cX9_wishRing 65 = .ok (.getfield 26, 3) := by decide +kernel
theorem dX9_wishRing_68 : decode cX9_wishRing 68 = .ok (.iload 5, 2) := by decide +kernel
theorem dX9_wishRing_70 : decode cX9_wishRing 70 = .ok (.iaload, 1) := by decide +kernel
theorem dX9_wishRing_71 : decode cX9_wishRing 71 = .ok (.iload_n 1, 1) := by decide +kernel
theorem dX9_wishRing_72 : decode cX9_wishRing 72 = .ok (.if_icmp .ne 22, 3) := by decide +kernel
theorem dX9_wishRing_75 : decode cX9_wishRing 75 = .ok (.aload_n 0, 1) := by decide +kernel
theorem dX9_wishRing_76 : decode cX9_wishRing 76 = .ok (.getfield 41, 3) := by decide +kernel
theorem dX9_wishRing_79 : decode cX9_wishRing 79 = .ok (.iload 5, 2) := by decide +kernel
theorem dX9_wishRing_81 : decode cX9_wishRing 81 = .ok (.invokestatic 126, 3) := by decide +kernel
theorem dX9_wishRing_84 : decode cX9_wishRing 84 = .ok (.bipush 6, 2) := by decide +kernel
theorem dX9_wishRing_86 : decode cX9_wishRing 86 = .ok (.iadd, 1) := by decide +kernel
theorem dX9_wishRing_87 : decode cX9_wishRing 87 = .ok (.iload_n 2, 1) := by decide +kernel
theorem dX9_wishRing_88 : decode cX9_wishRing 88 = .ok (.iadd, 1) := by decide +kernel
theorem dX9_wishRing_89 : decode cX9_wishRing 89 = .ok (.iload_n 3, 1) := by decide +kernel
theorem dX9_wishRing_90 : decode cX9_wishRing 90 = .ok (.iastore, 1) := by decide +kernel
theorem dX9_wishRing_91 : decode cX9_wishRing 91 = .ok (.iinc 4 1, 3) := by decide +kernel
theorem dX9_wishRing_94 : decode cX9_wishRing 94 = .ok (.iinc 5 1, 3) := by decide +kernel
theorem dX9_wishRing_97 : decode cX9_wishRing 97 = .ok (.goto (-42), 3) := by decide +kernel
theorem dX9_wishRing_100 : decode cX9_wishRing 100 = .ok (.iload 4, 2) := by decide +kernel
theorem dX9_wishRing_102 : decode cX9_wishRing 102 = .ok (.ireturn, 1) := by decide +kernel
theorem dX9_drift_0 : decode cX9_drift 0 = .ok (.aload_n 0, 1) := by decide +kernel
theorem dX9_drift_1 : decode cX9_drift 1 = .ok (.aload_n 0, 1) := by decide +kernel
theorem dX9_drift_2 : decode cX9_drift 2 = .ok (.iload_n 1, 1) := by decide +kernel
theorem dX9_drift_3 : decode cX9_drift 3 = .ok (.invokevirtual 203, 3) := by decide +kernel
theorem dX9_drift_6 : decode cX9_drift 6 = .ok (.ifCond .eq 11, 3) := by decide +kernel
theorem dX9_drift_9 : decode cX9_drift 9 = .ok (.aload_n 0, 1) := by decide +kernel
theorem dX9_drift_10 : decode cX9_drift 10 = .ok (.iload_n 2, 1) := by decide +kernel
theorem dX9_drift_11 : decode cX9_drift 11 = .ok (.invokevirtual 211, 3) := by decide +kernel
theorem dX9_drift_14 : decode cX9_drift 14 = .ok (.ifCond .ne 7, 3) := by decide +kernel
theorem dX9_drift_17 : decode cX9_drift 17 = .ok (.iconst 1, 1) := by decide +kernel
theorem dX9_drift_18 : decode cX9_drift 18 = .ok (.goto 15, 3) := by decide +kernel
theorem dX9_drift_21 : decode cX9_drift 21 = .ok (.iload_n 3, 1) := by decide +kernel
theorem dX9_drift_22 : decode cX9_drift 22 = .ok (.invokestatic 216, 3) := by decide +kernel
theorem dX9_drift_25 : decode cX9_drift 25 = .ok (.ifCond .ne 7, 3) := by decide +kernel
theorem dX9_drift_28 : decode cX9_drift 28 = .ok (.iconst 2, 1) := by decide +kernel
theorem dX9_drift_29 : decode cX9_drift 29 = .ok (.goto 4, 3) := by decide +kernel
theorem dX9_drift_32 : decode cX9_drift 32 = .ok (.iconst 0, 1) := by decide +kernel
theorem dX9_drift_33 : decode cX9_drift 33 = .ok (.invokevirtual 93, 3) := by decide +kernel
theorem dX9_drift_36 : decode cX9_drift 36 = .ok (.ifCond .eq 5, 3) := by decide +kernel
theorem dX9_drift_39 : decode cX9_drift 39 = .ok (.iconst 0, 1) := by decide +kernel
theorem dX9_drift_40 : decode cX9_drift 40 = .ok (.ireturn, 1) := by decide +kernel
theorem dX9_drift_41 : decode cX9_drift 41 = .ok (.aload_n 0, 1) := by decide +kernel
theorem dX9_drift_42 : decode cX9_drift 42 = .ok (.iload_n 1, 1) := by decide +kernel
theorem dX9_drift_43 : decode cX9_drift 43 = .ok (.invokestatic 126, 3) := by decide +kernel
theorem dX9_drift_46 : decode cX9_drift 46 = .ok (.iload_n 2, 1) := by decide +kernel
theorem dX9_drift_47 : decode cX9_drift 47 = .ok (.iadd, 1) := by decide +kernel
theorem dX9_drift_48 : decode cX9_drift 48 = .ok (.iload_n 3, 1) := by decide +kernel
theorem dX9_drift_49 : decode cX9_drift 49 = .ok (.invokevirtual 219, 3) := by decide +kernel
theorem dX9_drift_52 : decode cX9_drift 52 = .ok (.ireturn, 1) := by decide +kernel
theorem dX9_approve_0 : decode cX9_approve 0 = .ok (.aload_n 0, 1) := by decide +kernel
theorem dX9_approve_1 : decode cX9_approve 1 = .ok (.iload_n 1, 1) := by decide +kernel
theorem dX9_approve_2 : decode cX9_approve 2 = .ok (.invokevirtual 211, 3) := by decide +kernel
theorem dX9_approve_5 : decode cX9_approve 5 = .ok (.ifCond .eq 19, 3) := by decide +kernel
theorem dX9_approve_8 : decode cX9_approve 8 = .ok (.iload_n 3, 1) := by decide +kernel
theorem dX9_approve_9 : decode cX9_approve 9 = .ok (.i2l, 1) := by decide +kernel
theorem dX9_approve_10 : decode cX9_approve 10 = .ok (.lconst 0, 1) := by decide +kernel
theorem dX9_approve_11 : decode cX9_approve 11 = .ok (.ldc2_w 214, 3) := by decide +kernel
theorem dX9_approve_14 : decode cX9_approve 14 = .ok (.invokestatic 82, 3) := by decide +kernel
theorem dX9_approve_17 : decode cX9_approve 17 = .ok (.ifCond .eq 7, 3) := by decide +kernel
theorem dX9_approve_20 : decode cX9_approve 20 = .ok (.iconst 1, 1) := by decide +kernel
theorem dX9_approve_21 : decode cX9_approve 21 = .ok (.goto 4, 3) := by decide +kernel
theorem dX9_approve_24 : decode cX9_approve 24 = .ok (.iconst 0, 1) := by decide +kernel
theorem dX9_approve_25 : decode cX9_approve 25 = .ok (.istore 4, 2) := by decide +kernel
theorem dX9_approve_27 : decode cX9_approve 27 = .ok (.aload_n 0, 1) := by decide +kernel
theorem dX9_approve_28 : decode cX9_approve 28 = .ok (.iload 4, 2) := by decide +kernel
theorem dX9_approve_30 : decode cX9_approve 30 = .ok (.ifCond .ne 7, 3) := by decide +kernel
theorem dX9_approve_33 : decode cX9_approve 33 = .ok (.iconst 1, 1) := by decide +kernel
theorem dX9_approve_34 : decode cX9_approve 34 = .ok (.goto 40, 3) := by decide +kernel
theorem dX9_approve_37 : decode cX9_approve 37 = .ok (.iload_n 2, 1) := by decide +kernel
theorem dX9_approve_38 : decode cX9_approve 38 = .ok (.invokestatic 216, 3) := by decide +kernel
theorem dX9_approve_41 : decode cX9_approve 41 = .ok (.ifCond .ne 7, 3) := by decide +kernel
theorem dX9_approve_44 : decode cX9_approve 44 = .ok (.iconst 2, 1) := by decide +kernel
theorem dX9_approve_45 : decode cX9_approve 45 = .ok (.goto 29, 3) := by decide +kernel
theorem dX9_approve_48 : decode cX9_approve 48 = .ok (.aload_n 0, 1) := by decide +kernel
theorem dX9_approve_49 : decode cX9_approve 49 = .ok (.getfield 41, 3) := by decide +kernel
theorem dX9_approve_52 : decode cX9_approve 52 = .ok (.iload_n 1, 1) := by decide +kernel
theorem dX9_approve_53 : decode cX9_approve 53 = .ok (.invokestatic 119, 3) := by decide +kernel
theorem dX9_approve_56 : decode cX9_approve 56 = .ok (.iconst 1, 1) := by decide +kernel
theorem dX9_approve_57 : decode cX9_approve 57 = .ok (.iadd, 1) := by decide +kernel
theorem dX9_approve_58 : decode cX9_approve 58 = .ok (.iload_n 2, 1) := by decide +kernel
theorem dX9_approve_59 : decode cX9_approve 59 = .ok (.iadd, 1) := by decide +kernel
theorem dX9_approve_60 : decode cX9_approve 60 = .ok (.iaload, 1) := by decide +kernel
theorem dX9_approve_61 : decode cX9_approve 61 = .ok (.iload_n 3, 1) := by decide +kernel
theorem dX9_approve_62 : decode cX9_approve 62 = .ok (.ishr, 1) := by decide +kernel
theorem dX9_approve_63 : decode cX9_approve 63 = .ok (.iconst 1, 1) := by decide +kernel
theorem dX9_approve_64 : decode cX9_approve 64 = .ok (.iand, 1) := by decide +kernel
theorem dX9_approve_65 : decode cX9_approve 65 = .ok (.iconst 1, 1) := by decide +kernel
theorem dX9_approve_66 : decode cX9_approve 66 = .ok (.if_icmp .ne 7, 3) := by decide +kernel
theorem dX9_approve_69 : decode cX9_approve 69 = .ok (.iconst 3, 1) := by decide +kernel
theorem dX9_approve_70 : decode cX9_approve 70 = .ok (.goto 4, 3) := by decide +kernel
theorem dX9_approve_73 : decode cX9_approve 73 = .ok (.iconst 0, 1) := by decide +kernel
theorem dX9_approve_74 : decode cX9_approve 74 = .ok (.invokevirtual 93, 3) := by decide +kernel
theorem dX9_approve_77 : decode cX9_approve 77 = .ok (.ifCond .eq 5, 3) := by decide +kernel
theorem dX9_approve_80 : decode cX9_approve 80 = .ok (.iconst 0, 1) := by decide +kernel
theorem dX9_approve_81 : decode cX9_approve 81 = .ok (.ireturn, 1) := by decide +kernel
theorem dX9_approve_82 : decode cX9_approve 82 = .ok (.aload_n 0, 1) := by decide +kernel
theorem dX9_approve_83 : decode cX9_approve 83 = .ok (.invokevirtual 79, 3) := by decide +kernel
theorem dX9_approve_86 : decode cX9_approve 86 = .ok (.aload_n 0, 1) := by decide +kernel
theorem dX9_approve_87 : decode cX9_approve 87 = .ok (.getfield 41, 3) := by decide +kernel
theorem dX9_approve_90 : decode cX9_approve 90 = .ok (.iload_n 1, 1) := by decide +kernel
theorem dX9_approve_91 : decode cX9_approve 91 = .ok (.invokestatic 119, 3) := by decide +kernel
theorem dX9_approve_94 : decode cX9_approve 94 = .ok (.iconst 1, 1) := by decide +kernel
theorem dX9_approve_95 : decode cX9_approve 95 = .ok (.iadd, 1) := by decide +kernel
theorem dX9_approve_96 : decode cX9_approve 96 = .ok (.iload_n 2, 1) := by decide +kernel
theorem dX9_approve_97 : decode cX9_approve 97 = .ok (.iadd, 1) := by decide +kernel
theorem dX9_approve_98 : decode cX9_approve 98 = .ok (.dup2, 1) := by decide +kernel
theorem dX9_approve_99 : decode cX9_approve 99 = .ok (.iaload, 1) := by decide +kernel
theorem dX9_approve_100 : decode cX9_approve 100 = .ok (.iconst 1, 1) := by decide +kernel
theorem dX9_approve_101 : decode cX9_approve 101 = .ok (.iload_n 3, 1) := by decide +kernel
theorem dX9_approve_102 : decode cX9_approve 102 = .ok (.ishl, 1) := by decide +kernel
theorem dX9_approve_103 : decode cX9_approve 103 = .ok (.ior, 1) := by decide +kernel
theorem dX9_approve_104 : decode cX9_approve 104 = .ok (.iastore, 1) := by decide +kernel
theorem dX9_approve_105 : decode cX9_approve 105 = .ok (.aload_n 0, 1) := by decide +kernel
theorem dX9_approve_106 : decode cX9_approve 106 = .ok (.getfield 41, 3) := by decide +kernel
theorem dX9_approve_109 : decode cX9_approve 109 = .ok (.iload_n 1, 1) := by decide +kernel
theorem dX9_approve_110 : decode cX9_approve 110 = .ok (.invokestatic 119, 3) := by decide +kernel
theorem dX9_approve_113 : decode cX9_approve 113 = .ok (.iconst 1, 1) := by decide +kernel
theorem dX9_approve_114 : decode cX9_approve 114 = .ok (.iadd, 1) := by decide +kernel
theorem dX9_approve_115 : decode cX9_approve 115 = .ok (.iload_n 2, 1) := by decide +kernel
