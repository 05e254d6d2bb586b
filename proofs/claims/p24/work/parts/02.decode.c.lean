theorem dX0_init_0 : decode cX0_init 0 = .ok (.aload_n 0, 1) := by decide +kernel
theorem dX0_init_1 : decode cX0_init 1 = .ok (.invokespecial 3, 3) := by decide +kernel
theorem dX0_init_4 : decode cX0_init 4 = .ok (.aload_n 0, 1) := by decide +kernel
theorem dX0_init_5 : decode cX0_init 5 = .ok (.iconst 0, 1) := by decide +kernel
theorem dX0_init_6 : decode cX0_init 6 = .ok (.putfield 9, 3) := by decide +kernel
theorem dX0_init_9 : decode cX0_init 9 = .ok (.aload_n 0, 1) := by decide +kernel
theorem dX0_init_10 : decode cX0_init 10 = .ok (.iconst 0, 1) := by decide +kernel
theorem dX0_init_11 : decode cX0_init 11 = .ok (.putfield 15, 3) := by decide +kernel
theorem dX0_init_14 : decode cX0_init 14 = .ok (.aload_n 0, 1) := by decide +kernel
theorem dX0_init_15 : decode cX0_init 15 = .ok (.new 18, 3) := by decide +kernel
theorem dX0_init_18 : decode cX0_init 18 = .ok (.dup, 1) := by decide +kernel
theorem dX0_init_19 : decode cX0_init 19 = .ok (.invokespecial 20, 3) := by decide +kernel
theorem dX0_init_22 : decode cX0_init 22 = .ok (.putfield 21, 3) := by decide +kernel
theorem dX0_init_25 : decode cX0_init 25 = .ok (.aload_n 0, 1) := by decide +kernel
theorem dX0_init_26 : decode cX0_init 26 = .ok (.new 18, 3) := by decide +kernel
theorem dX0_init_29 : decode cX0_init 29 = .ok (.dup, 1) := by decide +kernel
theorem dX0_init_30 : decode cX0_init 30 = .ok (.invokespecial 20, 3) := by decide +kernel
theorem dX0_init_33 : decode cX0_init 33 = .ok (.putfield 25, 3) := by decide +kernel
theorem dX0_init_36 : decode cX0_init 36 = .ok (.aload_n 0, 1) := by decide +kernel
theorem dX0_init_37 : decode cX0_init 37 = .ok (.new 18, 3) := by decide +kernel
theorem dX0_init_40 : decode cX0_init 40 = .ok (.dup, 1) := by decide +kernel
theorem dX0_init_41 : decode cX0_init 41 = .ok (.invokespecial 20, 3) := by decide +kernel
theorem dX0_init_44 : decode cX0_init 44 = .ok (.putfield 28, 3) := by decide +kernel
theorem dX0_init_47 : decode cX0_init 47 = .ok (.aload_n 0, 1) := by decide +kernel
theorem dX0_init_48 : decode cX0_init 48 = .ok (.iconst 0, 1) := by decide +kernel
theorem dX0_init_49 : decode cX0_init 49 = .ok (.putfield 31, 3) := by decide +kernel
theorem dX0_init_52 : decode cX0_init 52 = .ok (.aload_n 0, 1) := by decide +kernel
theorem dX0_init_53 : decode cX0_init 53 = .ok (.bipush 10, 2) := by decide +kernel
theorem dX0_init_55 : decode cX0_init 55 = .ok (.newarray .int, 2) := by decide +kernel
theorem dX0_init_57 : decode cX0_init 57 = .ok (.putfield 35, 3) := by decide +kernel
theorem dX0_init_60 : decode cX0_init 60 = .ok (.aload_n 0, 1) := by decide +kernel
theorem dX0_init_61 : decode cX0_init 61 = .ok (.bipush 10, 2) := by decide +kernel
theorem dX0_init_63 : decode cX0_init 63 = .ok (.anewarray 18, 3) := by decide +kernel
theorem dX0_init_66 : decode cX0_init 66 = .ok (.putfield 39, 3) := by decide +kernel
theorem dX0_init_69 : decode cX0_init 69 = .ok (.aload_n 0, 1) := by decide +kernel
theorem dX0_init_70 : decode cX0_init 70 = .ok (.bipush 10, 2) := by decide +kernel
theorem dX0_init_72 : decode cX0_init 72 = .ok (.newarray .int, 2) := by decide +kernel
theorem dX0_init_74 : decode cX0_init 74 = .ok (.putfield 43, 3) := by decide +kernel
theorem dX0_init_77 : decode cX0_init 77 = .ok (.aload_n 0, 1) := by decide +kernel
theorem dX0_init_78 : decode cX0_init 78 = .ok (.bipush 10, 2) := by decide +kernel
theorem dX0_init_80 : decode cX0_init 80 = .ok (.newarray .int, 2) := by decide +kernel
theorem dX0_init_82 : decode cX0_init 82 = .ok (.putfield 46, 3) := by decide +kernel
theorem dX0_init_85 : decode cX0_init 85 = .ok (.aload_n 0, 1) := by decide +kernel
theorem dX0_init_86 : decode cX0_init 86 = .ok (.bipush 10, 2) := by decide +kernel
theorem dX0_init_88 : decode cX0_init 88 = .ok (.anewarray 18, 3) := by decide +kernel
theorem dX0_init_91 : decode cX0_init 91 = .ok (.putfield 49, 3) := by decide +kernel
theorem dX0_init_94 : decode cX0_init 94 = .ok (.aload_n 0, 1) := by decide +kernel
theorem dX0_init_95 : decode cX0_init 95 = .ok (.bipush 10, 2) := by decide +kernel
theorem dX0_init_97 : decode cX0_init 97 = .ok (.newarray .int, 2) := by decide +kernel
theorem dX0_init_99 : decode cX0_init 99 = .ok (.putfield 52, 3) := by decide +kernel
theorem dX0_init_102 : decode cX0_init 102 = .ok (.aload_n 0, 1) := by decide +kernel
theorem dX0_init_103 : decode cX0_init 103 = .ok (.bipush 10, 2) := by decide +kernel
theorem dX0_init_105 : decode cX0_init 105 = .ok (.newarray .int, 2) := by decide +kernel
theorem dX0_init_107 : decode cX0_init 107 = .ok (.putfield 55, 3) := by decide +kernel
theorem dX0_init_110 : decode cX0_init 110 = .ok (.return_, 1) := by decide +kernel
theorem dX0_begin_0 : decode cX0_begin 0 = .ok (.aload_n 0, 1) := by decide +kernel
theorem dX0_begin_1 : decode cX0_begin 1 = .ok (.aload_n 1, 1) := by decide +kernel
theorem dX0_begin_2 : decode cX0_begin 2 = .ok (.iconst 0, 1) := by decide +kernel
theorem dX0_begin_3 : decode cX0_begin 3 = .ok (.invokevirtual 58, 3) := by decide +kernel
theorem dX0_begin_6 : decode cX0_begin 6 = .ok (.iconst 1, 1) := by decide +kernel
theorem dX0_begin_7 : decode cX0_begin 7 = .ok (.if_icmp .ne 7, 3) := by decide +kernel
theorem dX0_begin_10 : decode cX0_begin 10 = .ok (.iconst 1, 1) := by decide +kernel
theorem dX0_begin_11 : decode cX0_begin 11 = .ok (.goto 4, 3) := by decide +kernel
theorem dX0_begin_14 : decode cX0_begin 14 = .ok (.iconst 0, 1) := by decide +kernel
theorem dX0_begin_15 : decode cX0_begin 15 = .ok (.putfield 9, 3) := by decide +kernel
theorem dX0_begin_18 : decode cX0_begin 18 = .ok (.aload_n 0, 1) := by decide +kernel
theorem dX0_begin_19 : decode cX0_begin 19 = .ok (.aload_n 1, 1) := by decide +kernel
theorem dX0_begin_20 : decode cX0_begin 20 = .ok (.iconst 1, 1) := by decide +kernel
theorem dX0_begin_21 : decode cX0_begin 21 = .ok (.invokevirtual 58, 3) := by decide +kernel
theorem dX0_begin_24 : decode cX0_begin 24 = .ok (.iconst 1, 1) := by decide +kernel
theorem dX0_begin_25 : decode cX0_begin 25 = .ok (.if_icmp .ne 7, 3) := by decide +kernel
theorem dX0_begin_28 : decode cX0_begin 28 = .ok (.iconst 1, 1) := by decide +kernel
theorem dX0_begin_29 : decode cX0_begin 29 = .ok (.goto 4, 3) := by decide +kernel
theorem dX0_begin_32 : decode cX0_begin 32 = .ok (.iconst 0, 1) := by decide +kernel
theorem dX0_begin_33 : decode cX0_begin 33 = .ok (.putfield 15, 3) := by decide +kernel
theorem dX0_begin_36 : decode cX0_begin 36 = .ok (.aload_n 0, 1) := by decide +kernel
theorem dX0_begin_37 : decode cX0_begin 37 = .ok (.iconst 0, 1) := by decide +kernel
theorem dX0_begin_38 : decode cX0_begin 38 = .ok (.putfield 31, 3) := by decide +kernel
theorem dX0_begin_41 : decode cX0_begin 41 = .ok (.return_, 1) := by decide +kernel
theorem dX0_joined_0 : decode cX0_joined 0 = .ok (.aload_n 0, 1) := by decide +kernel
theorem dX0_joined_1 : decode cX0_joined 1 = .ok (.aload_n 1, 1) := by decide +kernel
theorem dX0_joined_2 : decode cX0_joined 2 = .ok (.putfield 21, 3) := by decide +kernel
theorem dX0_joined_5 : decode cX0_joined 5 = .ok (.aload_n 0, 1) := by decide +kernel
theorem dX0_joined_6 : decode cX0_joined 6 = .ok (.aload_n 2, 1) := by decide +kernel
theorem dX0_joined_7 : decode cX0_joined 7 = .ok (.putfield 25, 3) := by decide +kernel
theorem dX0_joined_10 : decode cX0_joined 10 = .ok (.aload_n 0, 1) := by decide +kernel
theorem dX0_joined_11 : decode cX0_joined 11 = .ok (.new 18, 3) := by decide +kernel
theorem dX0_joined_14 : decode cX0_joined 14 = .ok (.dup, 1) := by decide +kernel
theorem dX0_joined_15 : decode cX0_joined 15 = .ok (.invokespecial 20, 3) := by decide +kernel
theorem dX0_joined_18 : decode cX0_joined 18 = .ok (.putfield 28, 3) := by decide +kernel
theorem dX0_joined_21 : decode cX0_joined 21 = .ok (.aload_n 0, 1) := by decide +kernel
theorem dX0_joined_22 : decode cX0_joined 22 = .ok (.iconst 0, 1) := by decide +kernel
theorem dX0_joined_23 : decode cX0_joined 23 = .ok (.iconst 0, 1) := by decide +kernel
theorem dX0_joined_24 : decode cX0_joined 24 = .ok (.iconst 0, 1) := by decide +kernel
theorem dX0_joined_25 : decode cX0_joined 25 = .ok (.invokevirtual 64, 3) := by decide +kernel
theorem dX0_joined_28 : decode cX0_joined 28 = .ok (.ifCond .ne 5, 3) := by decide +kernel
theorem dX0_joined_31 : decode cX0_joined 31 = .ok (.aconst_null, 1) := by decide +kernel
theorem dX0_joined_32 : decode cX0_joined 32 = .ok (.areturn, 1) := by decide +kernel
theorem dX0_joined_33 : decode cX0_joined 33 = .ok (.aload_n 0, 1) := by decide +kernel
theorem dX0_joined_34 : decode cX0_joined 34 = .ok (.getfield 28, 3) := by decide +kernel
theorem dX0_joined_37 : decode cX0_joined 37 = .ok (.invokevirtual 68, 3) := by decide +kernel
theorem dX0_joined_40 : decode cX0_joined 40 = .ok (.aload_n 0, 1) := by decide +kernel
theorem dX0_joined_41 : decode cX0_joined 41 = .ok (.getfield 28, 3) := by decide +kernel
theorem dX0_joined_44 : decode cX0_joined 44 = .ok (.areturn, 1) := by decide +kernel
theorem dX0_meaning_0 : decode cX0_meaning 0 = .ok (.iload_n 1, 1) := by decide +kernel
theorem dX0_meaning_1 : decode cX0_meaning 1 = .ok (.bipush 9, 2) := by decide +kernel
theorem dX0_meaning_3 : decode cX0_meaning 3 = .ok (.invokestatic 71, 3) := by decide +kernel
theorem dX0_meaning_6 : decode cX0_meaning 6 = .ok (.ifCond .ne 11, 3) := by decide +kernel
theorem dX0_meaning_9 : decode cX0_meaning 9 = .ok (.iload_n 1, 1) := by decide +kernel
theorem dX0_meaning_10 : decode cX0_meaning 10 = .ok (.aload_n 0, 1) := by decide +kernel
theorem dX0_meaning_11 : decode cX0_meaning 11 = .ok (.getfield 31, 3) := by decide +kernel
theorem dX0_meaning_14 : decode cX0_meaning 14 = .ok (.if_icmp .lt 6, 3) := by decide +kernel
theorem dX0_meaning_17 : decode cX0_meaning 17 = .ok (.bipush (-9), 2) := by decide +kernel
theorem dX0_meaning_19 : decode cX0_meaning 19 = .ok (.ireturn, 1) := by decide +kernel
theorem dX0_meaning_20 : decode cX0_meaning 20 = .ok (.iload_n 2, 1) := by decide +kernel
theorem dX0_meaning_21 : decode cX0_meaning 21 = .ok (.tableswitch 76 0 2 #[27, 48, 55], 27) := by decide +kernel
theorem dX0_meaning_48 : decode cX0_meaning 48 = .ok (.aload_n 0, 1) := by decide +kernel
theorem dX0_meaning_49 : decode cX0_meaning 49 = .ok (.getfield 46, 3) := by decide +kernel
theorem dX0_meaning_52 : decode cX0_meaning 52 = .ok (.iload_n 1, 1) := by decide +kernel
theorem dX0_meaning_53 : decode cX0_meaning 53 = .ok (.iaload, 1) := by decide +kernel
theorem dX0_meaning_54 : decode cX0_meaning 54 = .ok (.ifCond .ne 8, 3) := by decide +kernel
theorem dX0_meaning_57 : decode cX0_meaning 57 = .ok (.bipush (-9), 2) := by decide +kernel
theorem dX0_meaning_59 : decode cX0_meaning 59 = .ok (.goto 9, 3) := by decide +kernel
theorem dX0_meaning_62 : decode cX0_meaning 62 = .ok (.aload_n 0, 1) := by decide +kernel
theorem dX0_meaning_63 : decode cX0_meaning 63 = .ok (.getfield 43, 3) := by decide +kernel
theorem dX0_meaning_66 : decode cX0_meaning 66 = .ok (.iload_n 1, 1) := by decide +kernel
theorem dX0_meaning_67 : decode cX0_meaning 67 = .ok (.iaload, 1) := by decide +kernel
theorem dX0_meaning_68 : decode cX0_meaning 68 = .ok (.ireturn, 1) := by decide +kernel
theorem dX0_meaning_69 : decode cX0_meaning 69 = .ok (.aload_n 0, 1) := by decide +kernel
theorem dX0_meaning_70 : decode cX0_meaning 70 = .ok (.getfield 46, 3) := by decide +kernel
theorem dX0_meaning_73 : decode cX0_meaning 73 = .ok (.iload_n 1, 1) := by decide +kernel
theorem dX0_meaning_74 : decode cX0_meaning 74 = .ok (.iaload, 1) := by decide +kernel
theorem dX0_meaning_75 : decode cX0_meaning 75 = .ok (.ireturn, 1) := by decide +kernel
theorem dX0_meaning_76 : decode cX0_meaning 76 = .ok (.aload_n 0, 1) := by decide +kernel
theorem dX0_meaning_77 : decode cX0_meaning 77 = .ok (.getfield 55, 3) := by decide +kernel
theorem dX0_meaning_80 : decode cX0_meaning 80 = .ok (.iload_n 1, 1) := by decide +kernel
theorem dX0_meaning_81 : decode cX0_meaning 81 = .ok (.iaload, 1) := by decide +kernel
theorem dX0_meaning_82 : decode cX0_meaning 82 = .ok (.ifCond .ne 8, 3) := by decide +kernel
theorem dX0_meaning_85 : decode cX0_meaning 85 = .ok (.bipush (-9), 2) := by decide +kernel
theorem dX0_meaning_87 : decode cX0_meaning 87 = .ok (.goto 9, 3) := by decide +kernel
theorem dX0_meaning_90 : decode cX0_meaning 90 = .ok (.aload_n 0, 1) := by decide +kernel
theorem dX0_meaning_91 : decode cX0_meaning 91 = .ok (.getfield 52, 3) := by decide +kernel
theorem dX0_meaning_94 : decode cX0_meaning 94 = .ok (.iload_n 1, 1) := by decide +kernel
theorem dX0_meaning_95 : decode cX0_meaning 95 = .ok (.iaload, 1) := by decide +kernel
theorem dX0_meaning_96 : decode cX0_meaning 96 = .ok (.ireturn, 1) := by decide +kernel
theorem dX0_meaning_97 : decode cX0_meaning 97 = .ok (.aload_n 0, 1) := by decide +kernel
theorem dX0_meaning_98 : decode cX0_meaning 98 = .ok (.getfield 55, 3) := by decide +kernel
theorem dX0_meaning_101 : decode cX0_meaning 101 = .ok (.iload_n 1, 1) := by decide +kernel
theorem dX0_meaning_102 : decode cX0_meaning 102 = .ok (.iaload, 1) := by decide +kernel
theorem dX0_meaning_103 : decode cX0_meaning 103 = .ok (.ireturn, 1) := by decide +kernel
theorem dX0_joinNodes_0 : decode cX0_joinNodes 0 = .ok (.iload_n 3, 1) := by decide +kernel
theorem dX0_joinNodes_1 : decode cX0_joinNodes 1 = .ok (.bipush 7, 2) := by decide +kernel
theorem dX0_joinNodes_3 : decode cX0_joinNodes 3 = .ok (.if_icmp .le 5, 3) := by decide +kernel
theorem dX0_joinNodes_6 : decode cX0_joinNodes 6 = .ok (.iconst 0, 1) := by decide +kernel
theorem dX0_joinNodes_7 : decode cX0_joinNodes 7 = .ok (.ireturn, 1) := by decide +kernel
theorem dX0_joinNodes_8 : decode cX0_joinNodes 8 = .ok (.aload_n 0, 1) := by decide +kernel
theorem dX0_joinNodes_9 : decode cX0_joinNodes 9 = .ok (.getfield 21, 3) := by decide +kernel
theorem dX0_joinNodes_12 : decode cX0_joinNodes 12 = .ok (.iload_n 1, 1) := by decide +kernel
theorem dX0_joinNodes_13 : decode cX0_joinNodes 13 = .ok (.invokevirtual 75, 3) := by decide +kernel
theorem dX0_joinNodes_16 : decode cX0_joinNodes 16 = .ok (.ifCond .ne 18, 3) := by decide +kernel
theorem dX0_joinNodes_19 : decode cX0_joinNodes 19 = .ok (.aload_n 0, 1) := by decide +kernel
theorem dX0_joinNodes_20 : decode cX0_joinNodes 20 = .ok (.getfield 25, 3) := by decide +kernel
theorem dX0_joinNodes_23 : decode cX0_joinNodes 23 = .ok (.iload_n 2, 1) := by decide +kernel
theorem dX0_joinNodes_24 : decode cX0_joinNodes 24 = .ok (.invokevirtual 75, 3) := by decide +kernel
theorem dX0_joinNodes_27 : decode cX0_joinNodes 27 = .ok (.ifCond .ne 7, 3) := by decide +kernel
theorem dX0_joinNodes_30 : decode cX0_joinNodes 30 = .ok (.iconst 1, 1) := by decide +kernel
theorem dX0_joinNodes_31 : decode cX0_joinNodes 31 = .ok (.goto 4, 3) := by decide +kernel
theorem dX0_joinNodes_34 : decode cX0_joinNodes 34 = .ok (.iconst 0, 1) := by decide +kernel
theorem dX0_joinNodes_35 : decode cX0_joinNodes 35 = .ok (.istore 4, 2) := by decide +kernel
theorem dX0_joinNodes_37 : decode cX0_joinNodes 37 = .ok (.aload_n 0, 1) := by decide +kernel
theorem dX0_joinNodes_38 : decode cX0_joinNodes 38 = .ok (.getfield 21, 3) := by decide +kernel
theorem dX0_joinNodes_41 : decode cX0_joinNodes 41 = .ok (.iload_n 1, 1) := by decide +kernel
theorem dX0_joinNodes_42 : decode cX0_joinNodes 42 = .ok (.invokevirtual 78, 3) := by decide +kernel
theorem dX0_joinNodes_45 : decode cX0_joinNodes 45 = .ok (.ifCond .ge 14, 3) := by decide +kernel
theorem dX0_joinNodes_48 : decode cX0_joinNodes 48 = .ok (.aload_n 0, 1) := by decide +kernel
theorem dX0_joinNodes_49 : decode cX0_joinNodes 49 = .ok (.getfield 25, 3) := by decide +kernel
theorem dX0_joinNodes_52 : decode cX0_joinNodes 52 = .ok (.iload_n 2, 1) := by decide +kernel
theorem dX0_joinNodes_53 : decode cX0_joinNodes 53 = .ok (.invokevirtual 78, 3) := by decide +kernel
theorem dX0_joinNodes_56 : decode cX0_joinNodes 56 = .ok (.ifCond .lt 7, 3) := by decide +kernel
theorem dX0_joinNodes_59 : decode cX0_joinNodes 59 = .ok (.iconst 1, 1) := by decide +kernel
theorem dX0_joinNodes_60 : decode cX0_joinNodes 60 = .ok (.goto 4, 3) := by decide +kernel
theorem dX0_joinNodes_63 : decode cX0_joinNodes 63 = .ok (.iconst 0, 1) := by decide +kernel
theorem dX0_joinNodes_64 : decode cX0_joinNodes 64 = .ok (.istore 5, 2) := by decide +kernel
theorem dX0_joinNodes_66 : decode cX0_joinNodes 66 = .ok (.aload_n 0, 1) := by decide +kernel
theorem dX0_joinNodes_67 : decode cX0_joinNodes 67 = .ok (.getfield 21, 3) := by decide +kernel
theorem dX0_joinNodes_70 : decode cX0_joinNodes 70 = .ok (.iload_n 1, 1) := by decide +kernel
theorem dX0_joinNodes_71 : decode cX0_joinNodes 71 = .ok (.invokevirtual 81, 3) := by decide +kernel
theorem dX0_joinNodes_74 : decode cX0_joinNodes 74 = .ok (.istore 6, 2) := by decide +kernel
theorem dX0_joinNodes_76 : decode cX0_joinNodes 76 = .ok (.iload 6, 2) := by decide +kernel
theorem dX0_joinNodes_78 : decode cX0_joinNodes 78 = .ok (.aload_n 0, 1) := by decide +kernel
theorem dX0_joinNodes_79 : decode cX0_joinNodes 79 = .ok (.getfield 25, 3) := by decide +kernel
theorem dX0_joinNodes_82 : decode cX0_joinNodes 82 = .ok (.iload_n 2, 1) := by decide +kernel
theorem dX0_joinNodes_83 : decode cX0_joinNodes 83 = .ok (.invokevirtual 81, 3) := by decide +kernel
theorem dX0_joinNodes_86 : decode cX0_joinNodes 86 = .ok (.if_icmp .ne 12, 3) := by decide +kernel
theorem dX0_joinNodes_89 : decode cX0_joinNodes 89 = .ok (.iload 5, 2) := by decide +kernel
theorem dX0_joinNodes_91 : decode cX0_joinNodes 91 = .ok (.ifCond .ne 7, 3) := by decide +kernel
theorem dX0_joinNodes_94 : decode cX0_joinNodes 94 = .ok (.iconst 1, 1) := by decide +kernel
theorem dX0_joinNodes_95 : decode cX0_joinNodes 95 = .ok (.goto 4, 3) := by decide +kernel
theorem dX0_joinNodes_98 : decode cX0_joinNodes 98 = .ok (.iconst 0, 1) := by decide +kernel
theorem dX0_joinNodes_99 : decode cX0_joinNodes 99 = .ok (.istore 7, 2) := by decide +kernel
theorem dX0_joinNodes_101 : decode cX0_joinNodes 101 = .ok (.iload 4, 2) := by decide +kernel
theorem dX0_joinNodes_103 : decode cX0_joinNodes 103 = .ok (.ifCond .eq 91, 3) := by decide +kernel
theorem dX0_joinNodes_106 : decode cX0_joinNodes 106 = .ok (.aload_n 0, 1) := by decide +kernel
theorem dX0_joinNodes_107 : decode cX0_joinNodes 107 = .ok (.getfield 21, 3) := by decide +kernel
theorem dX0_joinNodes_110 : decode cX0_joinNodes 110 = .ok (.iload_n 1, 1) := by decide +kernel
theorem dX0_joinNodes_111 : decode cX0_joinNodes 111 = .ok (.invokevirtual 84, 3) := by decide +kernel
theorem dX0_joinNodes_114 : decode cX0_joinNodes 114 = .ok (.aload_n 0, 1) := by decide +kernel
theorem dX0_joinNodes_115 : decode cX0_joinNodes 115 = .ok (.getfield 25, 3) := by decide +kernel
theorem dX0_joinNodes_118 : decode cX0_joinNodes 118 = .ok (.iload_n 2, 1) := by decide +kernel
theorem dX0_joinNodes_119 : decode cX0_joinNodes 119 = .ok (.invokevirtual 84, 3) := by decide +kernel
theorem dX0_joinNodes_122 : decode cX0_joinNodes 122 = .ok (.if_icmp .ne 72, 3) := by decide +kernel
theorem dX0_joinNodes_125 : decode cX0_joinNodes 125 = .ok (.iload 7, 2) := by decide +kernel
theorem dX0_joinNodes_127 : decode cX0_joinNodes 127 = .ok (.ifCond .eq 47, 3) := by decide +kernel
theorem dX0_joinNodes_130 : decode cX0_joinNodes 130 = .ok (.aload_n 0, 1) := by decide +kernel
theorem dX0_joinNodes_131 : decode cX0_joinNodes 131 = .ok (.getfield 28, 3) := by decide +kernel
theorem dX0_joinNodes_134 : decode cX0_joinNodes 134 = .ok (.aload_n 0, 1) := by decide +kernel
theorem dX0_joinNodes_135 : decode cX0_joinNodes 135 = .ok (.getfield 21, 3) := by decide +kernel
theorem dX0_joinNodes_138 : decode cX0_joinNodes 138 = .ok (.iload_n 1, 1) := by decide +kernel
theorem dX0_joinNodes_139 : decode cX0_joinNodes 139 = .ok (.invokevirtual 84, 3) := by decide +kernel
theorem dX0_joinNodes_142 : decode cX0_joinNodes 142 = .ok (.iload 6, 2) := by decide +kernel
theorem dX0_joinNodes_144 : decode cX0_joinNodes 144 = .ok (.invokevirtual 87, 3) := by decide +kernel
theorem dX0_joinNodes_147 : decode cX0_joinNodes 147 = .ok (.ifCond .eq 25, 3) := by decide +kernel
theorem dX0_joinNodes_150 : decode cX0_joinNodes 150 = .ok (.aload_n 0, 1) := by decide +kernel
theorem dX0_joinNodes_151 : decode cX0_joinNodes 151 = .ok (.iload_n 1, 1) := by decide +kernel
theorem dX0_joinNodes_152 : decode cX0_joinNodes 152 = .ok (.iconst 1, 1) := by decide +kernel
theorem dX0_joinNodes_153 : decode cX0_joinNodes 153 = .ok (.iadd, 1) := by decide +kernel
theorem dX0_joinNodes_154 : decode cX0_joinNodes 154 = .ok (.iload_n 2, 1) := by decide +kernel
theorem dX0_joinNodes_155 : decode cX0_joinNodes 155 = .ok (.iconst 1, 1) := by decide +kernel
theorem dX0_joinNodes_156 : decode cX0_joinNodes 156 = .ok (.iadd, 1) := by decide +kernel
theorem dX0_joinNodes_157 : decode cX0_joinNodes 157 = .ok (.iload 6, 2) := by decide +kernel
theorem dX0_joinNodes_159 : decode cX0_joinNodes 159 = .ok (.iload_n 3, 1) := by decide +kernel
theorem dX0_joinNodes_160 : decode cX0_joinNodes 160 = .ok (.iconst 1, 1) := by decide +kernel
theorem dX0_joinNodes_161 : decode cX0_joinNodes 161 = .ok (.iadd, 1) := by decide +kernel
theorem dX0_joinNodes_162 : decode cX0_joinNodes 162 = .ok (.invokevirtual 90, 3) := by decide +kernel
theorem dX0_joinNodes_165 : decode cX0_joinNodes 165 = .ok (.ifCond .eq 7, 3) := by decide +kernel
theorem dX0_joinNodes_168 : decode cX0_joinNodes 168 = .ok (.iconst 1, 1) := by decide +kernel
theorem dX0_joinNodes_169 : decode cX0_joinNodes 169 = .ok (.goto 4, 3) := by decide +kernel
theorem dX0_joinNodes_172 : decode cX0_joinNodes 172 = .ok (.iconst 0, 1) := by decide +kernel
theorem dX0_joinNodes_173 : decode cX0_joinNodes 173 = .ok (.ireturn, 1) := by decide +kernel
theorem dX0_joinNodes_174 : decode cX0_joinNodes 174 = .ok (.aload_n 0, 1) := by decide +kernel
theorem dX0_joinNodes_175 : decode cX0_joinNodes 175 = .ok (.getfield 15, 3) := by decide +kernel
theorem dX0_joinNodes_178 : decode cX0_joinNodes 178 = .ok (.ifCond .ne 8, 3) := by decide +kernel
theorem dX0_joinNodes_181 : decode cX0_joinNodes 181 = .ok (.iload 5, 2) := by decide +kernel
theorem dX0_joinNodes_183 : decode cX0_joinNodes 183 = .ok (.ifCond .eq 71, 3) := by decide +kernel
theorem dX0_joinNodes_186 : decode cX0_joinNodes 186 = .ok (.aload_n 0, 1) := by decide +kernel
theorem dX0_joinNodes_187 : decode cX0_joinNodes 187 = .ok (.iload_n 1, 1) := by decide +kernel
theorem dX0_joinNodes_188 : decode cX0_joinNodes 188 = .ok (.iload_n 2, 1) := by decide +kernel
theorem dX0_joinNodes_189 : decode cX0_joinNodes 189 = .ok (.iload_n 3, 1) := by decide +kernel
theorem dX0_joinNodes_190 : decode cX0_joinNodes 190 = .ok (.invokevirtual 94, 3) := by decide +kernel
theorem dX0_joinNodes_193 : decode cX0_joinNodes 193 = .ok (.ireturn, 1) := by decide +kernel
theorem dX0_joinNodes_194 : decode cX0_joinNodes 194 = .ok (.iload 4, 2) := by decide +kernel
theorem dX0_joinNodes_196 : decode cX0_joinNodes 196 = .ok (.ifCond .eq 58, 3) := by decide +kernel
theorem dX0_joinNodes_199 : decode cX0_joinNodes 199 = .ok (.aload_n 0, 1) := by decide +kernel
theorem dX0_joinNodes_200 : decode cX0_joinNodes 200 = .ok (.getfield 9, 3) := by decide +kernel
theorem dX0_joinNodes_203 : decode cX0_joinNodes 203 = .ok (.ifCond .eq 51, 3) := by decide +kernel
theorem dX0_joinNodes_206 : decode cX0_joinNodes 206 = .ok (.iload 6, 2) := by decide +kernel
theorem dX0_joinNodes_208 : decode cX0_joinNodes 208 = .ok (.ifCond .le 46, 3) := by decide +kernel
theorem dX0_joinNodes_211 : decode cX0_joinNodes 211 = .ok (.iload 7, 2) := by decide +kernel
theorem dX0_joinNodes_213 : decode cX0_joinNodes 213 = .ok (.ifCond .eq 41, 3) := by decide +kernel
theorem dX0_joinNodes_216 : decode cX0_joinNodes 216 = .ok (.aload_n 0, 1) := by decide +kernel
theorem dX0_joinNodes_217 : decode cX0_joinNodes 217 = .ok (.iconst 2, 1) := by decide +kernel
theorem dX0_joinNodes_218 : decode cX0_joinNodes 218 = .ok (.iload 6, 2) := by decide +kernel
theorem dX0_joinNodes_220 : decode cX0_joinNodes 220 = .ok (.iload_n 1, 1) := by decide +kernel
theorem dX0_joinNodes_221 : decode cX0_joinNodes 221 = .ok (.iconst 1, 1) := by decide +kernel
theorem dX0_joinNodes_222 : decode cX0_joinNodes 222 = .ok (.iload_n 2, 1) := by decide +kernel
theorem dX0_joinNodes_223 : decode cX0_joinNodes 223 = .ok (.iconst 1, 1) := by decide +kernel
theorem dX0_joinNodes_224 : decode cX0_joinNodes 224 = .ok (.invokevirtual 97, 3) := by decide +kernel
theorem dX0_joinNodes_227 : decode cX0_joinNodes 227 = .ok (.ifCond .eq 25, 3) := by decide +kernel
theorem dX0_joinNodes_230 : decode cX0_joinNodes 230 = .ok (.aload_n 0, 1) := by decide +kernel
theorem dX0_joinNodes_231 : decode cX0_joinNodes 231 = .ok (.iload_n 1, 1) := by decide +kernel
theorem dX0_joinNodes_232 : decode cX0_joinNodes 232 = .ok (.iconst 1, 1) := by decide +kernel
theorem dX0_joinNodes_233 : decode cX0_joinNodes 233 = .ok (.iadd, 1) := by decide +kernel
theorem dX0_joinNodes_234 : decode cX0_joinNodes 234 = .ok (.iload_n 2, 1) := by decide +kernel
theorem dX0_joinNodes_235 : decode cX0_joinNodes 235 = .ok (.iconst 1, 1) := by decide +kernel
theorem dX0_joinNodes_236 : decode cX0_joinNodes 236 = .ok (.iadd, 1) := by decide +kernel
theorem dX0_joinNodes_237 : decode cX0_joinNodes 237 = .ok (.iload 6, 2) := by decide +kernel
theorem dX0_joinNodes_239 : decode cX0_joinNodes 239 = .ok (.iload_n 3, 1) := by decide +kernel
theorem dX0_joinNodes_240 : decode cX0_joinNodes 240 = .ok (.iconst 1, 1) := by decide +kernel
theorem dX0_joinNodes_241 : decode cX0_joinNodes 241 = .ok (.iadd, 1) := by decide +kernel
theorem dX0_joinNodes_242 : decode cX0_joinNodes 242 = .ok (.invokevirtual 90, 3) := by decide +kernel
theorem dX0_joinNodes_245 : decode cX0_joinNodes 245 = .ok (.ifCond .eq 7, 3) := by decide +kernel
theorem dX0_joinNodes_248 : decode cX0_joinNodes 248 = .ok (.iconst 1, 1) := by decide +kernel
theorem dX0_joinNodes_249 : decode cX0_joinNodes 249 = .ok (.goto 4, 3) := by decide +kernel
theorem dX0_joinNodes_252 : decode cX0_joinNodes 252 = .ok (.iconst 0, 1) := by decide +kernel
theorem dX0_joinNodes_253 : decode cX0_joinNodes 253 = .ok (.ireturn, 1) := by decide +kernel
theorem dX0_joinNodes_254 : decode cX0_joinNodes 254 = .ok (.aload_n 0, 1) := by decide +kernel
theorem dX0_joinNodes_255 : decode cX0_joinNodes 255 = .ok (.iconst 1, 1) := by decide +kernel
theorem dX0_joinNodes_256 : decode cX0_joinNodes 256 = .ok (.iconst 0, 1) := by decide +kernel
theorem dX0_joinNodes_257 : decode cX0_joinNodes 257 = .ok (.iload_n 1, 1) := by decide +kernel
theorem dX0_joinNodes_258 : decode cX0_joinNodes 258 = .ok (.aload_n 0, 1) := by decide +kernel
theorem dX0_joinNodes_259 : decode cX0_joinNodes 259 = .ok (.getfield 21, 3) := by decide +kernel
theorem dX0_joinNodes_262 : decode cX0_joinNodes 262 = .ok (.iload_n 1, 1) := by decide +kernel
theorem dX0_joinNodes_263 : decode cX0_joinNodes 263 = .ok (.invokevirtual 101, 3) := by decide +kernel
theorem dX0_joinNodes_266 : decode cX0_joinNodes 266 = .ok (.iload_n 2, 1) := by decide +kernel
theorem dX0_joinNodes_267 : decode cX0_joinNodes 267 = .ok (.aload_n 0, 1) := by decide +kernel
theorem dX0_joinNodes_268 : decode cX0_joinNodes 268 = .ok (.getfield 25, 3) := by decide +kernel
theorem dX0_joinNodes_271 : decode cX0_joinNodes 271 = .ok (.iload_n 2, 1) := by decide +kernel
theorem dX0_joinNodes_272 : decode cX0_joinNodes 272 = .ok (.invokevirtual 101, 3) := by decide +kernel
theorem dX0_joinNodes_275 : decode cX0_joinNodes 275 = .ok (.invokevirtual 97, 3) := by decide +kernel
theorem dX0_joinNodes_278 : decode cX0_joinNodes 278 = .ok (.ireturn, 1) := by decide +kernel
theorem dX0_joinRow_0 : decode cX0_joinRow 0 = .ok (.iload_n 1, 1) := by decide +kernel
theorem dX0_joinRow_1 : decode cX0_joinRow 1 = .ok (.istore 5, 2) := by decide +kernel
theorem dX0_joinRow_3 : decode cX0_joinRow 3 = .ok (.iload_n 2, 1) := by decide +kernel
theorem dX0_joinRow_4 : decode cX0_joinRow 4 = .ok (.istore 6, 2) := by decide +kernel
theorem dX0_joinRow_6 : decode cX0_joinRow 6 = .ok (.iconst 0, 1) := by decide +kernel
theorem dX0_joinRow_7 : decode cX0_joinRow 7 = .ok (.istore 7, 2) := by decide +kernel
theorem dX0_joinRow_9 : decode cX0_joinRow 9 = .ok (.iload 7, 2) := by decide +kernel
theorem dX0_joinRow_11 : decode cX0_joinRow 11 = .ok (.iload_n 3, 1) := by decide +kernel
theorem dX0_joinRow_12 : decode cX0_joinRow 12 = .ok (.if_icmp .ge 52, 3) := by decide +kernel
theorem dX0_joinRow_15 : decode cX0_joinRow 15 = .ok (.aload_n 0, 1) := by decide +kernel
theorem dX0_joinRow_16 : decode cX0_joinRow 16 = .ok (.iload 5, 2) := by decide +kernel
theorem dX0_joinRow_18 : decode cX0_joinRow 18 = .ok (.iload 6, 2) := by decide +kernel
theorem dX0_joinRow_20 : decode cX0_joinRow 20 = .ok (.iload 4, 2) := by decide +kernel
theorem dX0_joinRow_22 : decode cX0_joinRow 22 = .ok (.invokevirtual 64, 3) := by decide +kernel
theorem dX0_joinRow_25 : decode cX0_joinRow 25 = .ok (.ifCond .ne 5, 3) := by decide +kernel
theorem dX0_joinRow_28 : decode cX0_joinRow 28 = .ok (.iconst 0, 1) := by decide +kernel
theorem dX0_joinRow_29 : decode cX0_joinRow 29 = .ok (.ireturn, 1) := by decide +kernel
theorem dX0_joinRow_30 : decode cX0_joinRow 30 = .ok (.iload 5, 2) := by decide +kernel
theorem dX0_joinRow_32 : decode cX0_joinRow 32 = .ok (.aload_n 0, 1) := by decide +kernel
theorem dX0_joinRow_33 : decode cX0_joinRow 33 = .ok (.getfield 21, 3) := by decide +kernel
theorem dX0_joinRow_36 : decode cX0_joinRow 36 = .ok (.iload 5, 2) := by decide +kernel
theorem dX0_joinRow_38 : decode cX0_joinRow 38 = .ok (.invokevirtual 101, 3) := by decide +kernel
theorem dX0_joinRow_41 : decode cX0_joinRow 41 = .ok (.iadd, 1) := by decide +kernel
theorem dX0_joinRow_42 : decode cX0_joinRow 42 = .ok (.istore 5, 2) := by decide +kernel
theorem dX0_joinRow_44 : decode cX0_joinRow 44 = .ok (.iload 6, 2) := by decide +kernel
theorem dX0_joinRow_46 : decode cX0_joinRow 46 = .ok (.aload_n 0, 1) := by decide +kernel
theorem dX0_joinRow_47 : decode cX0_joinRow 47 = .ok (.getfield 25, 3) := by decide +kernel
theorem dX0_joinRow_50 : decode cX0_joinRow 50 = .ok (.iload 6, 2) := by decide +kernel
theorem dX0_joinRow_52 : decode cX0_joinRow 52 = .ok (.invokevirtual 101, 3) := by decide +kernel
theorem dX0_joinRow_55 : decode cX0_joinRow 55 = .ok (.iadd, 1) := by decide +kernel
theorem dX0_joinRow_56 : decode cX0_joinRow 56 = .ok (.istore 6, 2) := by decide +kernel
theorem dX0_joinRow_58 : decode cX0_joinRow 58 = .ok (.iinc 7 1, 3) := by decide +kernel
theorem dX0_joinRow_61 : decode cX0_joinRow 61 = .ok (.goto (-52), 3) := by decide +kernel
theorem dX0_joinRow_64 : decode cX0_joinRow 64 = .ok (.iconst 1, 1) := by decide +kernel
theorem dX0_joinRow_65 : decode cX0_joinRow 65 = .ok (.ireturn, 1) := by decide +kernel
theorem dX0_joinAligned_0 : decode cX0_joinAligned 0 = .ok (.aload_n 0, 1) := by decide +kernel
theorem dX0_joinAligned_1 : decode cX0_joinAligned 1 = .ok (.getfield 21, 3) := by decide +kernel
theorem dX0_joinAligned_4 : decode cX0_joinAligned 4 = .ok (.iload_n 1, 1) := by decide +kernel
theorem dX0_joinAligned_5 : decode cX0_joinAligned 5 = .ok (.invokevirtual 81, 3) := by decide +kernel
theorem dX0_joinAligned_8 : decode cX0_joinAligned 8 = .ok (.istore 4, 2) := by decide +kernel
theorem dX0_joinAligned_10 : decode cX0_joinAligned 10 = .ok (.aload_n 0, 1) := by decide +kernel
theorem dX0_joinAligned_11 : decode cX0_joinAligned 11 = .ok (.getfield 25, 3) := by decide +kernel
theorem dX0_joinAligned_14 : decode cX0_joinAligned 14 = .ok (.iload_n 2, 1) := by decide +kernel
theorem dX0_joinAligned_15 : decode cX0_joinAligned 15 = .ok (.invokevirtual 81, 3) := by decide +kernel
theorem dX0_joinAligned_18 : decode cX0_joinAligned 18 = .ok (.istore 5, 2) := by decide +kernel
theorem dX0_joinAligned_20 : decode cX0_joinAligned 20 = .ok (.iload 4, 2) := by decide +kernel
theorem dX0_joinAligned_22 : decode cX0_joinAligned 22 = .ok (.iload 5, 2) := by decide +kernel
theorem dX0_joinAligned_24 : decode cX0_joinAligned 24 = .ok (.invokestatic 104, 3) := by decide +kernel
theorem dX0_joinAligned_27 : decode cX0_joinAligned 27 = .ok (.istore 6, 2) := by decide +kernel
theorem dX0_joinAligned_29 : decode cX0_joinAligned 29 = .ok (.iconst 0, 1) := by decide +kernel
theorem dX0_joinAligned_30 : decode cX0_joinAligned 30 = .ok (.istore 7, 2) := by decide +kernel
theorem dX0_joinAligned_32 : decode cX0_joinAligned 32 = .ok (.iload 7, 2) := by decide +kernel
theorem dX0_joinAligned_34 : decode cX0_joinAligned 34 = .ok (.iload 6, 2) := by decide +kernel
theorem dX0_joinAligned_36 : decode cX0_joinAligned 36 = .ok (.if_icmp .ge 36, 3) := by decide +kernel
theorem dX0_joinAligned_39 : decode cX0_joinAligned 39 = .ok (.aload_n 0, 1) := by decide +kernel
theorem dX0_joinAligned_40 : decode cX0_joinAligned 40 = .ok (.aload_n 0, 1) := by decide +kernel
theorem dX0_joinAligned_41 : decode cX0_joinAligned 41 = .ok (.getfield 21, 3) := by decide +kernel
theorem dX0_joinAligned_44 : decode cX0_joinAligned 44 = .ok (.iload_n 1, 1) := by decide +kernel
theorem dX0_joinAligned_45 : decode cX0_joinAligned 45 = .ok (.iload 7, 2) := by decide +kernel
theorem dX0_joinAligned_47 : decode cX0_joinAligned 47 = .ok (.invokevirtual 110, 3) := by decide +kernel
theorem dX0_joinAligned_50 : decode cX0_joinAligned 50 = .ok (.aload_n 0, 1) := by decide +kernel
theorem dX0_joinAligned_51 : decode cX0_joinAligned 51 = .ok (.getfield 25, 3) := by decide +kernel
theorem dX0_joinAligned_54 : decode cX0_joinAligned 54 = .ok (.iload_n 2, 1) := by decide +kernel
theorem dX0_joinAligned_55 : decode cX0_joinAligned 55 = .ok (.iload 7, 2) := by decide +kernel
theorem dX0_joinAligned_57 : decode cX0_joinAligned 57 = .ok (.invokevirtual 110, 3) := by decide +kernel
theorem dX0_joinAligned_60 : decode cX0_joinAligned 60 = .ok (.invokevirtual 113, 3) := by decide +kernel
theorem dX0_joinAligned_63 : decode cX0_joinAligned 63 = .ok (.ifCond .eq 9, 3) := by decide +kernel
theorem dX0_joinAligned_66 : decode cX0_joinAligned 66 = .ok (.iinc 7 1, 3) := by decide +kernel
theorem dX0_joinAligned_69 : decode cX0_joinAligned 69 = .ok (.goto (-37), 3) := by decide +kernel
theorem dX0_joinAligned_72 : decode cX0_joinAligned 72 = .ok (.iconst 0, 1) := by decide +kernel
theorem dX0_joinAligned_73 : decode cX0_joinAligned 73 = .ok (.istore 8, 2) := by decide +kernel
theorem dX0_joinAligned_75 : decode cX0_joinAligned 75 = .ok (.iload 7, 2) := by decide +kernel
theorem dX0_joinAligned_77 : decode cX0_joinAligned 77 = .ok (.iload 8, 2) := by decide +kernel
theorem dX0_joinAligned_79 : decode cX0_joinAligned 79 = .ok (.iadd, 1) := by decide +kernel
theorem dX0_joinAligned_80 : decode cX0_joinAligned 80 = .ok (.iload 6, 2) := by decide +kernel
theorem dX0_joinAligned_82 : decode cX0_joinAligned 82 = .ok (.if_icmp .ge 46, 3) := by decide +kernel
theorem dX0_joinAligned_85 : decode cX0_joinAligned 85 = .ok (.aload_n 0, 1) := by decide +kernel
theorem dX0_joinAligned_86 : decode cX0_joinAligned 86 = .ok (.aload_n 0, 1) := by decide +kernel
theorem dX0_joinAligned_87 : decode cX0_joinAligned 87 = .ok (.getfield 21, 3) := by decide +kernel
theorem dX0_joinAligned_90 : decode cX0_joinAligned 90 = .ok (.iload_n 1, 1) := by decide +kernel
theorem dX0_joinAligned_91 : decode cX0_joinAligned 91 = .ok (.iload 4, 2) := by decide +kernel
theorem dX0_joinAligned_93 : decode cX0_joinAligned 93 = .ok (.iconst 1, 1) := by decide +kernel
theorem dX0_joinAligned_94 : decode cX0_joinAligned 94 = .ok (.isub, 1) := by decide +kernel
theorem dX0_joinAligned_95 : decode cX0_joinAligned 95 = .ok (.iload 8, 2) := by decide +kernel
theorem dX0_joinAligned_97 : decode cX0_joinAligned 97 = .ok (.isub, 1) := by decide +kernel
theorem dX0_joinAligned_98 : decode cX0_joinAligned 98 = .ok (.invokevirtual 110, 3) := by decide +kernel
theorem dX0_joinAligned_101 : decode cX0_joinAligned 101 = .ok (.aload_n 0, 1) := by decide +kernel
theorem dX0_joinAligned_102 : decode cX0_joinAligned 102 = .ok (.getfield 25, 3) := by decide +kernel
theorem dX0_joinAligned_105 : decode cX0_joinAligned 105 = .ok (.iload_n 2, 1) := by decide +kernel
theorem dX0_joinAligned_106 : decode cX0_joinAligned 106 = .ok (.iload 5, 2) := by decide +kernel
theorem dX0_joinAligned_108 : decode cX0_joinAligned 108 = .ok (.iconst 1, 1) := by decide +kernel
theorem dX0_joinAligned_109 : decode cX0_joinAligned 109 = .ok (.isub, 1) := by decide +kernel
theorem dX0_joinAligned_110 : decode cX0_joinAligned 110 = .ok (.iload 8, 2) := by decide +kernel
theorem dX0_joinAligned_112 : decode cX0_joinAligned 112 = .ok (.isub, 1) := by decide +kernel
theorem dX0_joinAligned_113 : decode cX0_joinAligned 113 = .ok (.invokevirtual 110, 3) := by decide +kernel
theorem dX0_joinAligned_116 : decode cX0_joinAligned 116 = .ok (.invokevirtual 113, 3) := by decide +kernel
theorem dX0_joinAligned_119 : decode cX0_joinAligned 119 = .ok (.ifCond .eq 9, 3) := by decide +kernel
theorem dX0_joinAligned_122 : decode cX0_joinAligned 122 = .ok (.iinc 8 1, 3) := by decide +kernel
theorem dX0_joinAligned_125 : decode cX0_joinAligned 125 = .ok (.goto (-50), 3) := by decide +kernel
theorem dX0_joinAligned_128 : decode cX0_joinAligned 128 = .ok (.aload_n 0, 1) := by decide +kernel
theorem dX0_joinAligned_129 : decode cX0_joinAligned 129 = .ok (.getfield 21, 3) := by decide +kernel
theorem dX0_joinAligned_132 : decode cX0_joinAligned 132 = .ok (.iload_n 1, 1) := by decide +kernel
theorem dX0_joinAligned_133 : decode cX0_joinAligned 133 = .ok (.iload 7, 2) := by decide +kernel
theorem dX0_joinAligned_135 : decode cX0_joinAligned 135 = .ok (.invokevirtual 110, 3) := by decide +kernel
theorem dX0_joinAligned_138 : decode cX0_joinAligned 138 = .ok (.istore 9, 2) := by decide +kernel
theorem dX0_joinAligned_140 : decode cX0_joinAligned 140 = .ok (.aload_n 0, 1) := by decide +kernel
theorem dX0_joinAligned_141 : decode cX0_joinAligned 141 = .ok (.getfield 21, 3) := by decide +kernel
theorem dX0_joinAligned_144 : decode cX0_joinAligned 144 = .ok (.iload_n 1, 1) := by decide +kernel
theorem dX0_joinAligned_145 : decode cX0_joinAligned 145 = .ok (.iload 4, 2) := by decide +kernel
theorem dX0_joinAligned_147 : decode cX0_joinAligned 147 = .ok (.iload 8, 2) := by decide +kernel
theorem dX0_joinAligned_149 : decode cX0_joinAligned 149 = .ok (.isub, 1) := by decide +kernel
theorem dX0_joinAligned_150 : decode cX0_joinAligned 150 = .ok (.invokevirtual 110, 3) := by decide +kernel
theorem dX0_joinAligned_153 : decode cX0_joinAligned 153 = .ok (.istore 10, 2) := by decide +kernel
theorem dX0_joinAligned_155 : decode cX0_joinAligned 155 = .ok (.aload_n 0, 1) := by decide +kernel
theorem dX0_joinAligned_156 : decode cX0_joinAligned 156 = .ok (.getfield 25, 3) := by decide +kernel
theorem dX0_joinAligned_159 : decode cX0_joinAligned 159 = .ok (.iload_n 2, 1) := by decide +kernel
theorem dX0_joinAligned_160 : decode cX0_joinAligned 160 = .ok (.iload 7, 2) := by decide +kernel
theorem dX0_joinAligned_162 : decode cX0_joinAligned 162 = .ok (.invokevirtual 110, 3) := by decide +kernel
theorem dX0_joinAligned_165 : decode cX0_joinAligned 165 = .ok (.istore 11, 2) := by decide +kernel
theorem dX0_joinAligned_167 : decode cX0_joinAligned 167 = .ok (.aload_n 0, 1) := by decide +kernel
theorem dX0_joinAligned_168 : decode cX0_joinAligned 168 = .ok (.getfield 25, 3) := by decide +kernel
theorem dX0_joinAligned_171 : decode cX0_joinAligned 171 = .ok (.iload_n 2, 1) := by decide +kernel
theorem dX0_joinAligned_172 : decode cX0_joinAligned 172 = .ok (.iload 5, 2) := by decide +kernel
theorem dX0_joinAligned_174 : decode cX0_joinAligned 174 = .ok (.iload 8, 2) := by decide +kernel
theorem dX0_joinAligned_176 : decode cX0_joinAligned 176 = .ok (.isub, 1) := by decide +kernel
theorem dX0_joinAligned_177 : decode cX0_joinAligned 177 = .ok (.invokevirtual 110, 3) := by decide +kernel
theorem dX0_joinAligned_180 : decode cX0_joinAligned 180 = .ok (.istore 12, 2) := by decide +kernel
theorem dX0_joinAligned_182 : decode cX0_joinAligned 182 = .ok (.aload_n 0, 1) := by decide +kernel
theorem dX0_joinAligned_183 : decode cX0_joinAligned 183 = .ok (.getfield 28, 3) := by decide +kernel
theorem dX0_joinAligned_186 : decode cX0_joinAligned 186 = .ok (.aload_n 0, 1) := by decide +kernel
theorem dX0_joinAligned_187 : decode cX0_joinAligned 187 = .ok (.getfield 21, 3) := by decide +kernel
theorem dX0_joinAligned_190 : decode cX0_joinAligned 190 = .ok (.iload_n 1, 1) := by decide +kernel
theorem dX0_joinAligned_191 : decode cX0_joinAligned 191 = .ok (.invokevirtual 84, 3) := by decide +kernel
theorem dX0_joinAligned_194 : decode cX0_joinAligned 194 = .ok (.iload 7, 2) := by decide +kernel
theorem dX0_joinAligned_196 : decode cX0_joinAligned 196 = .ok (.iconst 1, 1) := by decide +kernel
theorem dX0_joinAligned_197 : decode cX0_joinAligned 197 = .ok (.iadd, 1) := by decide +kernel
theorem dX0_joinAligned_198 : decode cX0_joinAligned 198 = .ok (.iload 8, 2) := by decide +kernel
theorem dX0_joinAligned_200 : decode cX0_joinAligned 200 = .ok (.iadd, 1) := by decide +kernel
theorem dX0_joinAligned_201 : decode cX0_joinAligned 201 = .ok (.invokevirtual 87, 3) := by decide +kernel
theorem dX0_joinAligned_204 : decode cX0_joinAligned 204 = .ok (.ifCond .eq 64, 3) := by decide +kernel
theorem dX0_joinAligned_207 : decode cX0_joinAligned 207 = .ok (.aload_n 0, 1) := by decide +kernel
theorem dX0_joinAligned_208 : decode cX0_joinAligned 208 = .ok (.iload_n 1, 1) := by decide +kernel
theorem dX0_joinAligned_209 : decode cX0_joinAligned 209 = .ok (.iconst 1, 1) := by decide +kernel
theorem dX0_joinAligned_210 : decode cX0_joinAligned 210 = .ok (.iadd, 1) := by decide +kernel
theorem dX0_joinAligned_211 : decode cX0_joinAligned 211 = .ok (.iload_n 2, 1) := by decide +kernel
theorem dX0_joinAligned_212 : decode cX0_joinAligned 212 = .ok (.iconst 1, 1) := by decide +kernel
theorem dX0_joinAligned_213 : decode cX0_joinAligned 213 = .ok (.iadd, 1) := by decide +kernel
theorem dX0_joinAligned_214 : decode cX0_joinAligned 214 = .ok (.iload 7, 2) := by decide +kernel
theorem dX0_joinAligned_216 : decode cX0_joinAligned 216 = .ok (.iload_n 3, 1) := by decide +kernel
theorem dX0_joinAligned_217 : decode cX0_joinAligned 217 = .ok (.iconst 1, 1) := by decide +kernel
theorem dX0_joinAligned_218 : decode cX0_joinAligned 218 = .ok (.iadd, 1) := by decide +kernel
theorem dX0_joinAligned_219 : decode cX0_joinAligned 219 = .ok (.invokevirtual 90, 3) := by decide +kernel
theorem dX0_joinAligned_222 : decode cX0_joinAligned 222 = .ok (.ifCond .eq 46, 3) := by decide +kernel
theorem dX0_joinAligned_225 : decode cX0_joinAligned 225 = .ok (.aload_n 0, 1) := by decide +kernel
theorem dX0_joinAligned_226 : decode cX0_joinAligned 226 = .ok (.iconst 3, 1) := by decide +kernel
theorem dX0_joinAligned_227 : decode cX0_joinAligned 227 = .ok (.iconst 0, 1) := by decide +kernel
theorem dX0_joinAligned_228 : decode cX0_joinAligned 228 = .ok (.iload 9, 2) := by decide +kernel
theorem dX0_joinAligned_230 : decode cX0_joinAligned 230 = .ok (.iload 10, 2) := by decide +kernel
theorem dX0_joinAligned_232 : decode cX0_joinAligned 232 = .ok (.iload 9, 2) := by decide +kernel
theorem dX0_joinAligned_234 : decode cX0_joinAligned 234 = .ok (.isub, 1) := by decide +kernel
theorem dX0_joinAligned_235 : decode cX0_joinAligned 235 = .ok (.iload 11, 2) := by decide +kernel
theorem dX0_joinAligned_237 : decode cX0_joinAligned 237 = .ok (.iload 12, 2) := by decide +kernel
theorem dX0_joinAligned_239 : decode cX0_joinAligned 239 = .ok (.iload 11, 2) := by decide +kernel
theorem dX0_joinAligned_241 : decode cX0_joinAligned 241 = .ok (.isub, 1) := by decide +kernel
theorem dX0_joinAligned_242 : decode cX0_joinAligned 242 = .ok (.invokevirtual 97, 3) := by decide +kernel
theorem dX0_joinAligned_245 : decode cX0_joinAligned 245 = .ok (.ifCond .eq 23, 3) := by decide +kernel
theorem dX0_joinAligned_248 : decode cX0_joinAligned 248 = .ok (.aload_n 0, 1) := by decide +kernel
theorem dX0_joinAligned_249 : decode cX0_joinAligned 249 = .ok (.iload 10, 2) := by decide +kernel
theorem dX0_joinAligned_251 : decode cX0_joinAligned 251 = .ok (.iload 12, 2) := by decide +kernel
theorem dX0_joinAligned_253 : decode cX0_joinAligned 253 = .ok (.iload 8, 2) := by decide +kernel
theorem dX0_joinAligned_255 : decode cX0_joinAligned 255 = .ok (.iload_n 3, 1) := by decide +kernel
theorem dX0_joinAligned_256 : decode cX0_joinAligned 256 = .ok (.iconst 1, 1) := by decide +kernel
theorem dX0_joinAligned_257 : decode cX0_joinAligned 257 = .ok (.iadd, 1) := by decide +kernel
theorem dX0_joinAligned_258 : decode cX0_joinAligned 258 = .ok (.invokevirtual 90, 3) := by decide +kernel
theorem dX0_joinAligned_261 : decode cX0_joinAligned 261 = .ok (.ifCond .eq 7, 3) := by decide +kernel
theorem dX0_joinAligned_264 : decode cX0_joinAligned 264 = .ok (.iconst 1, 1) := by decide +kernel
theorem dX0_joinAligned_265 : decode cX0_joinAligned 265 = .ok (.goto 4, 3) := by decide +kernel
theorem dX0_joinAligned_268 : decode cX0_joinAligned 268 = .ok (.iconst 0, 1) := by decide +kernel
theorem dX0_joinAligned_269 : decode cX0_joinAligned 269 = .ok (.ireturn, 1) := by decide +kernel
theorem dX0_sameSymbol_0 : decode cX0_sameSymbol 0 = .ok (.aload_n 0, 1) := by decide +kernel
theorem dX0_sameSymbol_1 : decode cX0_sameSymbol 1 = .ok (.getfield 21, 3) := by decide +kernel
theorem dX0_sameSymbol_4 : decode cX0_sameSymbol 4 = .ok (.iload_n 1, 1) := by decide +kernel
theorem dX0_sameSymbol_5 : decode cX0_sameSymbol 5 = .ok (.invokevirtual 75, 3) := by decide +kernel
theorem dX0_sameSymbol_8 : decode cX0_sameSymbol 8 = .ok (.ifCond .ne 26, 3) := by decide +kernel
theorem dX0_sameSymbol_11 : decode cX0_sameSymbol 11 = .ok (.aload_n 0, 1) := by decide +kernel
theorem dX0_sameSymbol_12 : decode cX0_sameSymbol 12 = .ok (.getfield 21, 3) := by decide +kernel
theorem dX0_sameSymbol_15 : decode cX0_sameSymbol 15 = .ok (.iload_n 1, 1) := by decide +kernel
theorem dX0_sameSymbol_16 : decode cX0_sameSymbol 16 = .ok (.invokevirtual 84, 3) := by decide +kernel
theorem dX0_sameSymbol_19 : decode cX0_sameSymbol 19 = .ok (.aload_n 0, 1) := by decide +kernel
theorem dX0_sameSymbol_20 : decode cX0_sameSymbol 20 = .ok (.getfield 25, 3) := by decide +kernel
theorem dX0_sameSymbol_23 : decode cX0_sameSymbol 23 = .ok (.iload_n 2, 1) := by decide +kernel
theorem dX0_sameSymbol_24 : decode cX0_sameSymbol 24 = .ok (.invokevirtual 84, 3) := by decide +kernel
theorem dX0_sameSymbol_27 : decode cX0_sameSymbol 27 = .ok (.if_icmp .ne 7, 3) := by decide +kernel
theorem dX0_sameSymbol_30 : decode cX0_sameSymbol 30 = .ok (.iconst 1, 1) := by decide +kernel
theorem dX0_sameSymbol_31 : decode cX0_sameSymbol 31 = .ok (.goto 4, 3) := by decide +kernel
theorem dX0_sameSymbol_34 : decode cX0_sameSymbol 34 = .ok (.iconst 0, 1) := by decide +kernel
theorem dX0_sameSymbol_35 : decode cX0_sameSymbol 35 = .ok (.ireturn, 1) := by decide +kernel
theorem dX0_appendHole_0 : decode cX0_appendHole 0 = .ok (.iconst 0, 1) := by decide +kernel
theorem dX0_appendHole_1 : decode cX0_appendHole 1 = .ok (.istore 7, 2) := by decide +kernel
theorem dX0_appendHole_3 : decode cX0_appendHole 3 = .ok (.iload 7, 2) := by decide +kernel
theorem dX0_appendHole_5 : decode cX0_appendHole 5 = .ok (.aload_n 0, 1) := by decide +kernel
theorem dX0_appendHole_6 : decode cX0_appendHole 6 = .ok (.getfield 31, 3) := by decide +kernel
theorem dX0_appendHole_9 : decode cX0_appendHole 9 = .ok (.if_icmp .ge 33, 3) := by decide +kernel
theorem dX0_appendHole_12 : decode cX0_appendHole 12 = .ok (.iload 7, 2) := by decide +kernel
theorem dX0_appendHole_14 : decode cX0_appendHole 14 = .ok (.bipush 10, 2) := by decide +kernel
theorem dX0_appendHole_16 : decode cX0_appendHole 16 = .ok (.if_icmp .ge 26, 3) := by decide +kernel
theorem dX0_appendHole_19 : decode cX0_appendHole 19 = .ok (.aload_n 0, 1) := by decide +kernel
theorem dX0_appendHole_20 : decode cX0_appendHole 20 = .ok (.iload 7, 2) := by decide +kernel
theorem dX0_appendHole_22 : decode cX0_appendHole 22 = .ok (.iload_n 1, 1) := by decide +kernel
theorem dX0_appendHole_23 : decode cX0_appendHole 23 = .ok (.iload_n 3, 1) := by decide +kernel
theorem dX0_appendHole_24 : decode cX0_appendHole 24 = .ok (.iload 4, 2) := by decide +kernel
theorem dX0_appendHole_26 : decode cX0_appendHole 26 = .ok (.iload 5, 2) := by decide +kernel
theorem dX0_appendHole_28 : decode cX0_appendHole 28 = .ok (.iload 6, 2) := by decide +kernel
theorem dX0_appendHole_30 : decode cX0_appendHole 30 = .ok (.invokevirtual 116, 3) := by decide +kernel
theorem dX0_appendHole_33 : decode cX0_appendHole 33 = .ok (.ifCond .ne 9, 3) := by decide +kernel
theorem dX0_appendHole_36 : decode cX0_appendHole 36 = .ok (.iinc 7 1, 3) := by decide +kernel
theorem dX0_appendHole_39 : decode cX0_appendHole 39 = .ok (.goto (-36), 3) := by decide +kernel
theorem dX0_appendHole_42 : decode cX0_appendHole 42 = .ok (.iload 7, 2) := by decide +kernel
theorem dX0_appendHole_44 : decode cX0_appendHole 44 = .ok (.bipush 10, 2) := by decide +kernel
theorem dX0_appendHole_46 : decode cX0_appendHole 46 = .ok (.if_icmp .lt 5, 3) := by decide +kernel
theorem dX0_appendHole_49 : decode cX0_appendHole 49 = .ok (.iconst 0, 1) := by decide +kernel
theorem dX0_appendHole_50 : decode cX0_appendHole 50 = .ok (.ireturn, 1) := by decide +kernel
theorem dX0_appendHole_51 : decode cX0_appendHole 51 = .ok (.iload 7, 2) := by decide +kernel
theorem dX0_appendHole_53 : decode cX0_appendHole 53 = .ok (.aload_n 0, 1) := by decide +kernel
theorem dX0_appendHole_54 : decode cX0_appendHole 54 = .ok (.getfield 31, 3) := by decide +kernel
theorem dX0_appendHole_57 : decode cX0_appendHole 57 = .ok (.if_icmp .ne 78, 3) := by decide +kernel
theorem dX0_appendHole_60 : decode cX0_appendHole 60 = .ok (.aload_n 0, 1) := by decide +kernel
theorem dX0_appendHole_61 : decode cX0_appendHole 61 = .ok (.getfield 35, 3) := by decide +kernel
theorem dX0_appendHole_64 : decode cX0_appendHole 64 = .ok (.iload 7, 2) := by decide +kernel
theorem dX0_appendHole_66 : decode cX0_appendHole 66 = .ok (.iload_n 1, 1) := by decide +kernel
theorem dX0_appendHole_67 : decode cX0_appendHole 67 = .ok (.iastore, 1) := by decide +kernel
theorem dX0_appendHole_68 : decode cX0_appendHole 68 = .ok (.aload_n 0, 1) := by decide +kernel
theorem dX0_appendHole_69 : decode cX0_appendHole 69 = .ok (.getfield 39, 3) := by decide +kernel
theorem dX0_appendHole_72 : decode cX0_appendHole 72 = .ok (.iload 7, 2) := by decide +kernel
theorem dX0_appendHole_74 : decode cX0_appendHole 74 = .ok (.aload_n 0, 1) := by decide +kernel
theorem dX0_appendHole_75 : decode cX0_appendHole 75 = .ok (.getfield 21, 3) := by decide +kernel
theorem dX0_appendHole_78 : decode cX0_appendHole 78 = .ok (.aastore, 1) := by decide +kernel
theorem dX0_appendHole_79 : decode cX0_appendHole 79 = .ok (.aload_n 0, 1) := by decide +kernel
theorem dX0_appendHole_80 : decode cX0_appendHole 80 = .ok (.getfield 43, 3) := by decide +kernel
theorem dX0_appendHole_83 : decode cX0_appendHole 83 = .ok (.iload 7, 2) := by decide +kernel
theorem dX0_appendHole_85 : decode cX0_appendHole 85 = .ok (.iload_n 3, 1) := by decide +kernel
theorem dX0_appendHole_86 : decode cX0_appendHole 86 = .ok (.iastore, 1) := by decide +kernel
theorem dX0_appendHole_87 : decode cX0_appendHole 87 = .ok (.aload_n 0, 1) := by decide +kernel
theorem dX0_appendHole_88 : decode cX0_appendHole 88 = .ok (.getfield 46, 3) := by decide +kernel
theorem dX0_appendHole_91 : decode cX0_appendHole 91 = .ok (.iload 7, 2) := by decide +kernel
theorem dX0_appendHole_93 : decode cX0_appendHole 93 = .ok (.iload 4, 2) := by decide +kernel
theorem dX0_appendHole_95 : decode cX0_appendHole 95 = .ok (.iastore, 1) := by decide +kernel
theorem dX0_appendHole_96 : decode cX0_appendHole 96 = .ok (.aload_n 0, 1) := by decide +kernel
theorem dX0_appendHole_97 : decode cX0_appendHole 97 = .ok (.getfield 49, 3) := by decide +kernel
theorem dX0_appendHole_100 : decode cX0_appendHole 100 = .ok (.iload 7, 2) := by decide +kernel
theorem dX0_appendHole_102 : decode cX0_appendHole 102 = .ok (.aload_n 0, 1) := by decide +kernel
theorem dX0_appendHole_103 : decode cX0_appendHole 103 = .ok (.getfield 25, 3) := by decide +kernel
theorem dX0_appendHole_106 : decode cX0_appendHole 106 = .ok (.aastore, 1) := by decide +kernel
theorem dX0_appendHole_107 : decode cX0_appendHole 107 = .ok (.aload_n 0, 1) := by decide +kernel
theorem dX0_appendHole_108 : decode cX0_appendHole 108 = .ok (.getfield 52, 3) := by decide +kernel
theorem dX0_appendHole_111 : decode cX0_appendHole 111 = .ok (.iload 7, 2) := by decide +kernel
theorem dX0_appendHole_113 : decode cX0_appendHole 113 = .ok (.iload 5, 2) := by decide +kernel
theorem dX0_appendHole_115 : decode cX0_appendHole 115 = .ok (.iastore, 1) := by decide +kernel
theorem dX0_appendHole_116 : decode cX0_appendHole 116 = .ok (.aload_n 0, 1) := by decide +kernel
theorem dX0_appendHole_117 : decode cX0_appendHole 117 = .ok (.getfield 55, 3) := by decide +kernel
theorem dX0_appendHole_120 : decode cX0_appendHole 120 = .ok (.iload 7, 2) := by decide +kernel
theorem dX0_appendHole_122 : decode cX0_appendHole 122 = .ok (.iload 6, 2) := by decide +kernel
theorem dX0_appendHole_124 : decode cX0_appendHole 124 = .ok (.iastore, 1) := by decide +kernel
theorem dX0_appendHole_125 : decode cX0_appendHole 125 = .ok (.aload_n 0, 1) := by decide +kernel
theorem dX0_appendHole_126 : decode cX0_appendHole 126 = .ok (.dup, 1) := by decide +kernel
theorem dX0_appendHole_127 : decode cX0_appendHole 127 = .ok (.getfield 31, 3) := by decide +kernel
theorem dX0_appendHole_130 : decode cX0_appendHole 130 = .ok (.iconst 1, 1) := by decide +kernel
theorem dX0_appendHole_131 : decode cX0_appendHole 131 = .ok (.iadd, 1) := by decide +kernel
theorem dX0_appendHole_132 : decode cX0_appendHole 132 = .ok (.putfield 31, 3) := by decide +kernel
theorem dX0_appendHole_135 : decode cX0_appendHole 135 = .ok (.aload_n 0, 1) := by decide +kernel
theorem dX0_appendHole_136 : decode cX0_appendHole 136 = .ok (.getfield 28, 3) := by decide +kernel
theorem dX0_appendHole_139 : decode cX0_appendHole 139 = .ok (.iload_n 1, 1) := by decide +kernel
theorem dX0_appendHole_140 : decode cX0_appendHole 140 = .ok (.iconst 4, 1) := by decide +kernel
theorem dX0_appendHole_141 : decode cX0_appendHole 141 = .ok (.ishl, 1) := by decide +kernel
theorem dX0_appendHole_142 : decode cX0_appendHole 142 = .ok (.iload 7, 2) := by decide +kernel
theorem dX0_appendHole_144 : decode cX0_appendHole 144 = .ok (.ior, 1) := by decide +kernel
theorem dX0_appendHole_145 : decode cX0_appendHole 145 = .ok (.iload_n 2, 1) := by decide +kernel
theorem dX0_appendHole_146 : decode cX0_appendHole 146 = .ok (.invokevirtual 87, 3) := by decide +kernel
theorem dX0_appendHole_149 : decode cX0_appendHole 149 = .ok (.ireturn, 1) := by decide +kernel
theorem dX0_standsFor_0 : decode cX0_standsFor 0 = .ok (.aload_n 0, 1) := by decide +kernel
theorem dX0_standsFor_1 : decode cX0_standsFor 1 = .ok (.getfield 39, 3) := by decide +kernel
theorem dX0_standsFor_4 : decode cX0_standsFor 4 = .ok (.iload_n 1, 1) := by decide +kernel
theorem dX0_standsFor_5 : decode cX0_standsFor 5 = .ok (.aaload, 1) := by decide +kernel
theorem dX0_standsFor_6 : decode cX0_standsFor 6 = .ok (.astore 7, 2) := by decide +kernel
theorem dX0_standsFor_8 : decode cX0_standsFor 8 = .ok (.aload_n 0, 1) := by decide +kernel
theorem dX0_standsFor_9 : decode cX0_standsFor 9 = .ok (.getfield 49, 3) := by decide +kernel
theorem dX0_standsFor_12 : decode cX0_standsFor 12 = .ok (.iload_n 1, 1) := by decide +kernel
theorem dX0_standsFor_13 : decode cX0_standsFor 13 = .ok (.aaload, 1) := by decide +kernel
theorem dX0_standsFor_14 : decode cX0_standsFor 14 = .ok (.astore 8, 2) := by decide +kernel
theorem dX0_standsFor_16 : decode cX0_standsFor 16 = .ok (.aload 7, 2) := by decide +kernel
theorem dX0_standsFor_18 : decode cX0_standsFor 18 = .ok (.ifnull 40, 3) := by decide +kernel
theorem dX0_standsFor_21 : decode cX0_standsFor 21 = .ok (.aload 8, 2) := by decide +kernel
theorem dX0_standsFor_23 : decode cX0_standsFor 23 = .ok (.ifnull 35, 3) := by decide +kernel
theorem dX0_standsFor_26 : decode cX0_standsFor 26 = .ok (.aload_n 0, 1) := by decide +kernel
theorem dX0_standsFor_27 : decode cX0_standsFor 27 = .ok (.getfield 35, 3) := by decide +kernel
theorem dX0_standsFor_30 : decode cX0_standsFor 30 = .ok (.iload_n 1, 1) := by decide +kernel
theorem dX0_standsFor_31 : decode cX0_standsFor 31 = .ok (.iaload, 1) := by decide +kernel
theorem dX0_standsFor_32 : decode cX0_standsFor 32 = .ok (.iload_n 2, 1) := by decide +kernel
theorem dX0_standsFor_33 : decode cX0_standsFor 33 = .ok (.if_icmp .ne 25, 3) := by decide +kernel
theorem dX0_standsFor_36 : decode cX0_standsFor 36 = .ok (.aload_n 0, 1) := by decide +kernel
theorem dX0_standsFor_37 : decode cX0_standsFor 37 = .ok (.getfield 46, 3) := by decide +kernel
theorem dX0_standsFor_40 : decode cX0_standsFor 40 = .ok (.iload_n 1, 1) := by decide +kernel
theorem dX0_standsFor_41 : decode cX0_standsFor 41 = .ok (.iaload, 1) := by decide +kernel
theorem dX0_standsFor_42 : decode cX0_standsFor 42 = .ok (.iload 4, 2) := by decide +kernel
theorem dX0_standsFor_44 : decode cX0_standsFor 44 = .ok (.if_icmp .ne 14, 3) := by decide +kernel
theorem dX0_standsFor_47 : decode cX0_standsFor 47 = .ok (.aload_n 0, 1) := by decide +kernel
theorem dX0_standsFor_48 : decode cX0_standsFor 48 = .ok (.getfield 55, 3) := by decide +kernel
theorem dX0_standsFor_51 : decode cX0_standsFor 51 = .ok (.iload_n 1, 1) := by decide +kernel
theorem dX0_standsFor_52 : decode cX0_standsFor 52 = .ok (.iaload, 1) := by decide +kernel
theorem dX0_standsFor_53 : decode cX0_standsFor 53 = .ok (.iload 6, 2) := by decide +kernel
theorem dX0_standsFor_55 : decode cX0_standsFor 55 = .ok (.if_icmp .eq 5, 3) := by decide +kernel
theorem dX0_standsFor_58 : decode cX0_standsFor 58 = .ok (.iconst 0, 1) := by decide +kernel
theorem dX0_standsFor_59 : decode cX0_standsFor 59 = .ok (.ireturn, 1) := by decide +kernel
theorem dX0_standsFor_60 : decode cX0_standsFor 60 = .ok (.iload_n 2, 1) := by decide +kernel
theorem dX0_standsFor_61 : decode cX0_standsFor 61 = .ok (.iconst 2, 1) := by decide +kernel
theorem dX0_standsFor_62 : decode cX0_standsFor 62 = .ok (.if_icmp .ne 54, 3) := by decide +kernel
theorem dX0_standsFor_65 : decode cX0_standsFor 65 = .ok (.aload 7, 2) := by decide +kernel
theorem dX0_standsFor_67 : decode cX0_standsFor 67 = .ok (.aload_n 0, 1) := by decide +kernel
theorem dX0_standsFor_68 : decode cX0_standsFor 68 = .ok (.getfield 43, 3) := by decide +kernel
theorem dX0_standsFor_71 : decode cX0_standsFor 71 = .ok (.iload_n 1, 1) := by decide +kernel
theorem dX0_standsFor_72 : decode cX0_standsFor 72 = .ok (.iaload, 1) := by decide +kernel
theorem dX0_standsFor_73 : decode cX0_standsFor 73 = .ok (.invokevirtual 84, 3) := by decide +kernel
theorem dX0_standsFor_76 : decode cX0_standsFor 76 = .ok (.aload_n 0, 1) := by decide +kernel
theorem dX0_standsFor_77 : decode cX0_standsFor 77 = .ok (.getfield 21, 3) := by decide +kernel
theorem dX0_standsFor_80 : decode cX0_standsFor 80 = .ok (.iload_n 3, 1) := by decide +kernel
theorem dX0_standsFor_81 : decode cX0_standsFor 81 = .ok (.invokevirtual 84, 3) := by decide +kernel
theorem dX0_standsFor_84 : decode cX0_standsFor 84 = .ok (.if_icmp .ne 30, 3) := by decide +kernel
theorem dX0_standsFor_87 : decode cX0_standsFor 87 = .ok (.aload 8, 2) := by decide +kernel
theorem dX0_standsFor_89 : decode cX0_standsFor 89 = .ok (.aload_n 0, 1) := by decide +kernel
theorem dX0_standsFor_90 : decode cX0_standsFor 90 = .ok (.getfield 52, 3) := by decide +kernel
theorem dX0_standsFor_93 : decode cX0_standsFor 93 = .ok (.iload_n 1, 1) := by decide +kernel
theorem dX0_standsFor_94 : decode cX0_standsFor 94 = .ok (.iaload, 1) := by decide +kernel
theorem dX0_standsFor_95 : decode cX0_standsFor 95 = .ok (.invokevirtual 84, 3) := by decide +kernel
theorem dX0_standsFor_98 : decode cX0_standsFor 98 = .ok (.aload_n 0, 1) := by decide +kernel
theorem dX0_standsFor_99 : decode cX0_standsFor 99 = .ok (.getfield 25, 3) := by decide +kernel
theorem dX0_standsFor_102 : decode cX0_standsFor 102 = .ok (.iload 5, 2) := by decide +kernel
theorem dX0_standsFor_104 : decode cX0_standsFor 104 = .ok (.invokevirtual 84, 3) := by decide +kernel
theorem dX0_standsFor_107 : decode cX0_standsFor 107 = .ok (.if_icmp .ne 7, 3) := by decide +kernel
theorem dX0_standsFor_110 : decode cX0_standsFor 110 = .ok (.iconst 1, 1) := by decide +kernel
theorem dX0_standsFor_111 : decode cX0_standsFor 111 = .ok (.goto 4, 3) := by decide +kernel
theorem dX0_standsFor_114 : decode cX0_standsFor 114 = .ok (.iconst 0, 1) := by decide +kernel
theorem dX0_standsFor_115 : decode cX0_standsFor 115 = .ok (.ireturn, 1) := by decide +kernel
theorem dX0_standsFor_116 : decode cX0_standsFor 116 = .ok (.aload 7, 2) := by decide +kernel
theorem dX0_standsFor_118 : decode cX0_standsFor 118 = .ok (.aload_n 0, 1) := by decide +kernel
theorem dX0_standsFor_119 : decode cX0_standsFor 119 = .ok (.getfield 43, 3) := by decide +kernel
theorem dX0_standsFor_122 : decode cX0_standsFor 122 = .ok (.iload_n 1, 1) := by decide +kernel
theorem dX0_standsFor_123 : decode cX0_standsFor 123 = .ok (.iaload, 1) := by decide +kernel
theorem dX0_standsFor_124 : decode cX0_standsFor 124 = .ok (.aload_n 0, 1) := by decide +kernel
theorem dX0_standsFor_125 : decode cX0_standsFor 125 = .ok (.getfield 21, 3) := by decide +kernel
theorem dX0_standsFor_128 : decode cX0_standsFor 128 = .ok (.iload_n 3, 1) := by decide +kernel
theorem dX0_standsFor_129 : decode cX0_standsFor 129 = .ok (.iload 4, 2) := by decide +kernel
theorem dX0_standsFor_131 : decode cX0_standsFor 131 = .ok (.invokevirtual 119, 3) := by decide +kernel
theorem dX0_standsFor_134 : decode cX0_standsFor 134 = .ok (.ifCond .ne 29, 3) := by decide +kernel
theorem dX0_standsFor_137 : decode cX0_standsFor 137 = .ok (.aload 8, 2) := by decide +kernel
theorem dX0_standsFor_139 : decode cX0_standsFor 139 = .ok (.aload_n 0, 1) := by decide +kernel
theorem dX0_standsFor_140 : decode cX0_standsFor 140 = .ok (.getfield 52, 3) := by decide +kernel
theorem dX0_standsFor_143 : decode cX0_standsFor 143 = .ok (.iload_n 1, 1) := by decide +kernel
theorem dX0_standsFor_144 : decode cX0_standsFor 144 = .ok (.iaload, 1) := by decide +kernel
theorem dX0_standsFor_145 : decode cX0_standsFor 145 = .ok (.aload_n 0, 1) := by decide +kernel
theorem dX0_standsFor_146 : decode cX0_standsFor 146 = .ok (.getfield 25, 3) := by decide +kernel
theorem dX0_standsFor_149 : decode cX0_standsFor 149 = .ok (.iload 5, 2) := by decide +kernel
theorem dX0_standsFor_151 : decode cX0_standsFor 151 = .ok (.iload 6, 2) := by decide +kernel
theorem dX0_standsFor_153 : decode cX0_standsFor 153 = .ok (.invokevirtual 119, 3) := by decide +kernel
theorem dX0_standsFor_156 : decode cX0_standsFor 156 = .ok (.ifCond .ne 7, 3) := by decide +kernel
theorem dX0_standsFor_159 : decode cX0_standsFor 159 = .ok (.iconst 1, 1) := by decide +kernel
theorem dX0_standsFor_160 : decode cX0_standsFor 160 = .ok (.goto 4, 3) := by decide +kernel
theorem dX0_standsFor_163 : decode cX0_standsFor 163 = .ok (.iconst 0, 1) := by decide +kernel
theorem dX0_standsFor_164 : decode cX0_standsFor 164 = .ok (.ireturn, 1) := by decide +kernel
theorem dX1_init_0 : decode cX1_init 0 = .ok (.aload_n 0, 1) := by decide +kernel
theorem dX1_init_1 : decode cX1_init 1 = .ok (.invokespecial 3, 3) := by decide +kernel
theorem dX1_init_4 : decode cX1_init 4 = .ok (.aload_n 0, 1) := by decide +kernel
theorem dX1_init_5 : decode cX1_init 5 = .ok (.new 9, 3) := by decide +kernel
theorem dX1_init_8 : decode cX1_init 8 = .ok (.dup, 1) := by decide +kernel
theorem dX1_init_9 : decode cX1_init 9 = .ok (.invokespecial 11, 3) := by decide +kernel
theorem dX1_init_12 : decode cX1_init 12 = .ok (.putfield 12, 3) := by decide +kernel
theorem dX1_init_15 : decode cX1_init 15 = .ok (.aload_n 0, 1) := by decide +kernel
theorem dX1_init_16 : decode cX1_init 16 = .ok (.new 9, 3) := by decide +kernel
theorem dX1_init_19 : decode cX1_init 19 = .ok (.dup, 1) := by decide +kernel
theorem dX1_init_20 : decode cX1_init 20 = .ok (.invokespecial 11, 3) := by decide +kernel
theorem dX1_init_23 : decode cX1_init 23 = .ok (.putfield 18, 3) := by decide +kernel
theorem dX1_init_26 : decode cX1_init 26 = .ok (.aload_n 0, 1) := by decide +kernel
theorem dX1_init_27 : decode cX1_init 27 = .ok (.bipush 32, 2) := by decide +kernel
theorem dX1_init_29 : decode cX1_init 29 = .ok (.newarray .int, 2) := by decide +kernel
theorem dX1_init_31 : decode cX1_init 31 = .ok (.putfield 21, 3) := by decide +kernel
theorem dX1_init_34 : decode cX1_init 34 = .ok (.aload_n 0, 1) := by decide +kernel
theorem dX1_init_35 : decode cX1_init 35 = .ok (.bipush 32, 2) := by decide +kernel
theorem dX1_init_37 : decode cX1_init 37 = .ok (.newarray .int, 2) := by decide +kernel
theorem dX1_init_39 : decode cX1_init 39 = .ok (.putfield 25, 3) := by decide +kernel
theorem dX1_init_42 : decode cX1_init 42 = .ok (.aload_n 0, 1) := by decide +kernel
theorem dX1_init_43 : decode cX1_init 43 = .ok (.bipush 10, 2) := by decide +kernel
theorem dX1_init_45 : decode cX1_init 45 = .ok (.newarray .int, 2) := by decide +kernel
theorem dX1_init_47 : decode cX1_init 47 = .ok (.putfield 28, 3) := by decide +kernel
theorem dX1_init_50 : decode cX1_init 50 = .ok (.aload_n 0, 1) := by decide +kernel
theorem dX1_init_51 : decode cX1_init 51 = .ok (.bipush 10, 2) := by decide +kernel
theorem dX1_init_53 : decode cX1_init 53 = .ok (.newarray .int, 2) := by decide +kernel
theorem dX1_init_55 : decode cX1_init 55 = .ok (.putfield 31, 3) := by decide +kernel
theorem dX1_init_58 : decode cX1_init 58 = .ok (.aload_n 0, 1) := by decide +kernel
theorem dX1_init_59 : decode cX1_init 59 = .ok (.bipush 10, 2) := by decide +kernel
theorem dX1_init_61 : decode cX1_init 61 = .ok (.newarray .int, 2) := by decide +kernel
theorem dX1_init_63 : decode cX1_init 63 = .ok (.putfield 34, 3) := by decide +kernel
theorem dX1_init_66 : decode cX1_init 66 = .ok (.aload_n 0, 1) := by decide +kernel
theorem dX1_init_67 : decode cX1_init 67 = .ok (.bipush 10, 2) := by decide +kernel
theorem dX1_init_69 : decode cX1_init 69 = .ok (.newarray .int, 2) := by decide +kernel
theorem dX1_init_71 : decode cX1_init 71 = .ok (.putfield 37, 3) := by decide +kernel
theorem dX1_init_74 : decode cX1_init 74 = .ok (.return_, 1) := by decide +kernel
theorem dX1_matches_0 : decode cX1_matches 0 = .ok (.aload_n 0, 1) := by decide +kernel
theorem dX1_matches_1 : decode cX1_matches 1 = .ok (.aload_n 1, 1) := by decide +kernel
theorem dX1_matches_2 : decode cX1_matches 2 = .ok (.putfield 12, 3) := by decide +kernel
theorem dX1_matches_5 : decode cX1_matches 5 = .ok (.aload_n 0, 1) := by decide +kernel
theorem dX1_matches_6 : decode cX1_matches 6 = .ok (.aload_n 2, 1) := by decide +kernel
theorem dX1_matches_7 : decode cX1_matches 7 = .ok (.putfield 18, 3) := by decide +kernel
theorem dX1_matches_10 : decode cX1_matches 10 = .ok (.iconst 0, 1) := by decide +kernel
theorem dX1_matches_11 : decode cX1_matches 11 = .ok (.istore_n 3, 1) := by decide +kernel
theorem dX1_matches_12 : decode cX1_matches 12 = .ok (.iload_n 3, 1) := by decide +kernel
theorem dX1_matches_13 : decode cX1_matches 13 = .ok (.bipush 10, 2) := by decide +kernel
theorem dX1_matches_15 : decode cX1_matches 15 = .ok (.if_icmp .ge 16, 3) := by decide +kernel
theorem dX1_matches_18 : decode cX1_matches 18 = .ok (.aload_n 0, 1) := by decide +kernel
theorem dX1_matches_19 : decode cX1_matches 19 = .ok (.getfield 28, 3) := by decide +kernel
theorem dX1_matches_22 : decode cX1_matches 22 = .ok (.iload_n 3, 1) := by decide +kernel
theorem dX1_matches_23 : decode cX1_matches 23 = .ok (.iconst (-1), 1) := by decide +kernel
theorem dX1_matches_24 : decode cX1_matches 24 = .ok (.iastore, 1) := by decide +kernel
theorem dX1_matches_25 : decode cX1_matches 25 = .ok (.iinc 3 1, 3) := by decide +kernel
theorem dX1_matches_28 : decode cX1_matches 28 = .ok (.goto (-16), 3) := by decide +kernel
theorem dX1_matches_31 : decode cX1_matches 31 = .ok (.aload_n 0, 1) := by decide +kernel
theorem dX1_matches_32 : decode cX1_matches 32 = .ok (.getfield 21, 3) := by decide +kernel
theorem dX1_matches_35 : decode cX1_matches 35 = .ok (.iconst 0, 1) := by decide +kernel
theorem dX1_matches_36 : decode cX1_matches 36 = .ok (.iconst 0, 1) := by decide +kernel
theorem dX1_matches_37 : decode cX1_matches 37 = .ok (.iastore, 1) := by decide +kernel
theorem dX1_matches_38 : decode cX1_matches 38 = .ok (.aload_n 0, 1) := by decide +kernel
theorem dX1_matches_39 : decode cX1_matches 39 = .ok (.getfield 25, 3) := by decide +kernel
theorem dX1_matches_42 : decode cX1_matches 42 = .ok (.iconst 0, 1) := by decide +kernel
theorem dX1_matches_43 : decode cX1_matches 43 = .ok (.iconst 1, 1) := by decide +kernel
theorem dX1_matches_44 : decode cX1_matches 44 = .ok (.iastore, 1) := by decide +kernel
theorem dX1_matches_45 : decode cX1_matches 45 = .ok (.iconst 0, 1) := by decide +kernel
theorem dX1_matches_46 : decode cX1_matches 46 = .ok (.istore_n 3, 1) := by decide +kernel
theorem dX1_matches_47 : decode cX1_matches 47 = .ok (.iload_n 3, 1) := by decide +kernel
theorem dX1_matches_48 : decode cX1_matches 48 = .ok (.aload_n 1, 1) := by decide +kernel
theorem dX1_matches_49 : decode cX1_matches 49 = .ok (.getfield 40, 3) := by decide +kernel
theorem dX1_matches_52 : decode cX1_matches 52 = .ok (.if_icmp .ge 31, 3) := by decide +kernel
theorem dX1_matches_55 : decode cX1_matches 55 = .ok (.iload_n 3, 1) := by decide +kernel
theorem dX1_matches_56 : decode cX1_matches 56 = .ok (.bipush 32, 2) := by decide +kernel
theorem dX1_matches_58 : decode cX1_matches 58 = .ok (.if_icmp .ge 25, 3) := by decide +kernel
theorem dX1_matches_61 : decode cX1_matches 61 = .ok (.aload_n 0, 1) := by decide +kernel
theorem dX1_matches_62 : decode cX1_matches 62 = .ok (.iload_n 3, 1) := by decide +kernel
theorem dX1_matches_63 : decode cX1_matches 63 = .ok (.aload_n 0, 1) := by decide +kernel
theorem dX1_matches_64 : decode cX1_matches 64 = .ok (.getfield 21, 3) := by decide +kernel
theorem dX1_matches_67 : decode cX1_matches 67 = .ok (.iload_n 3, 1) := by decide +kernel
theorem dX1_matches_68 : decode cX1_matches 68 = .ok (.iaload, 1) := by decide +kernel
theorem dX1_matches_69 : decode cX1_matches 69 = .ok (.invokevirtual 44, 3) := by decide +kernel
theorem dX1_matches_72 : decode cX1_matches 72 = .ok (.ifCond .ne 5, 3) := by decide +kernel
theorem dX1_matches_75 : decode cX1_matches 75 = .ok (.iconst 0, 1) := by decide +kernel
theorem dX1_matches_76 : decode cX1_matches 76 = .ok (.ireturn, 1) := by decide +kernel
theorem dX1_matches_77 : decode cX1_matches 77 = .ok (.iinc 3 1, 3) := by decide +kernel
theorem dX1_matches_80 : decode cX1_matches 80 = .ok (.goto (-33), 3) := by decide +kernel
theorem dX1_matches_83 : decode cX1_matches 83 = .ok (.iconst 1, 1) := by decide +kernel
theorem dX1_matches_84 : decode cX1_matches 84 = .ok (.ireturn, 1) := by decide +kernel
theorem dX1_matchNode_0 : decode cX1_matchNode 0 = .ok (.aload_n 0, 1) := by decide +kernel
theorem dX1_matchNode_1 : decode cX1_matchNode 1 = .ok (.getfield 18, 3) := by decide +kernel
theorem dX1_matchNode_4 : decode cX1_matchNode 4 = .ok (.iload_n 2, 1) := by decide +kernel
theorem dX1_matchNode_5 : decode cX1_matchNode 5 = .ok (.invokevirtual 48, 3) := by decide +kernel
theorem dX1_matchNode_8 : decode cX1_matchNode 8 = .ok (.istore_n 3, 1) := by decide +kernel
theorem dX1_matchNode_9 : decode cX1_matchNode 9 = .ok (.aload_n 0, 1) := by decide +kernel
theorem dX1_matchNode_10 : decode cX1_matchNode 10 = .ok (.getfield 12, 3) := by decide +kernel
theorem dX1_matchNode_13 : decode cX1_matchNode 13 = .ok (.iload_n 1, 1) := by decide +kernel
theorem dX1_matchNode_14 : decode cX1_matchNode 14 = .ok (.invokevirtual 48, 3) := by decide +kernel
theorem dX1_matchNode_17 : decode cX1_matchNode 17 = .ok (.tableswitch 119 1 3 #[52, 85, 27], 27) := by decide +kernel
theorem dX1_matchNode_44 : decode cX1_matchNode 44 = .ok (.aload_n 0, 1) := by decide +kernel
theorem dX1_matchNode_45 : decode cX1_matchNode 45 = .ok (.iload_n 1, 1) := by decide +kernel
theorem dX1_matchNode_46 : decode cX1_matchNode 46 = .ok (.iload_n 2, 1) := by decide +kernel
theorem dX1_matchNode_47 : decode cX1_matchNode 47 = .ok (.aload_n 0, 1) := by decide +kernel
theorem dX1_matchNode_48 : decode cX1_matchNode 48 = .ok (.getfield 18, 3) := by decide +kernel
theorem dX1_matchNode_51 : decode cX1_matchNode 51 = .ok (.iload_n 2, 1) := by decide +kernel
theorem dX1_matchNode_52 : decode cX1_matchNode 52 = .ok (.iconst 1, 1) := by decide +kernel
theorem dX1_matchNode_53 : decode cX1_matchNode 53 = .ok (.isub, 1) := by decide +kernel
theorem dX1_matchNode_54 : decode cX1_matchNode 54 = .ok (.aload_n 0, 1) := by decide +kernel
theorem dX1_matchNode_55 : decode cX1_matchNode 55 = .ok (.getfield 25, 3) := by decide +kernel
theorem dX1_matchNode_58 : decode cX1_matchNode 58 = .ok (.iload_n 1, 1) := by decide +kernel
theorem dX1_matchNode_59 : decode cX1_matchNode 59 = .ok (.iaload, 1) := by decide +kernel
theorem dX1_matchNode_60 : decode cX1_matchNode 60 = .ok (.invokevirtual 52, 3) := by decide +kernel
theorem dX1_matchNode_63 : decode cX1_matchNode 63 = .ok (.iload_n 2, 1) := by decide +kernel
theorem dX1_matchNode_64 : decode cX1_matchNode 64 = .ok (.isub, 1) := by decide +kernel
theorem dX1_matchNode_65 : decode cX1_matchNode 65 = .ok (.invokevirtual 56, 3) := by decide +kernel
theorem dX1_matchNode_68 : decode cX1_matchNode 68 = .ok (.ireturn, 1) := by decide +kernel
theorem dX1_matchNode_69 : decode cX1_matchNode 69 = .ok (.iload_n 3, 1) := by decide +kernel
theorem dX1_matchNode_70 : decode cX1_matchNode 70 = .ok (.iconst (-1), 1) := by decide +kernel
theorem dX1_matchNode_71 : decode cX1_matchNode 71 = .ok (.if_icmp .eq 29, 3) := by decide +kernel
theorem dX1_matchNode_74 : decode cX1_matchNode 74 = .ok (.iload_n 3, 1) := by decide +kernel
theorem dX1_matchNode_75 : decode cX1_matchNode 75 = .ok (.iconst 3, 1) := by decide +kernel
theorem dX1_matchNode_76 : decode cX1_matchNode 76 = .ok (.if_icmp .eq 24, 3) := by decide +kernel
theorem dX1_matchNode_79 : decode cX1_matchNode 79 = .ok (.aload_n 0, 1) := by decide +kernel
theorem dX1_matchNode_80 : decode cX1_matchNode 80 = .ok (.iload_n 1, 1) := by decide +kernel
theorem dX1_matchNode_81 : decode cX1_matchNode 81 = .ok (.iload_n 2, 1) := by decide +kernel
theorem dX1_matchNode_82 : decode cX1_matchNode 82 = .ok (.aload_n 0, 1) := by decide +kernel
theorem dX1_matchNode_83 : decode cX1_matchNode 83 = .ok (.getfield 18, 3) := by decide +kernel
theorem dX1_matchNode_86 : decode cX1_matchNode 86 = .ok (.iload_n 2, 1) := by decide +kernel
theorem dX1_matchNode_87 : decode cX1_matchNode 87 = .ok (.invokevirtual 60, 3) := by decide +kernel
theorem dX1_matchNode_90 : decode cX1_matchNode 90 = .ok (.invokevirtual 56, 3) := by decide +kernel
theorem dX1_matchNode_93 : decode cX1_matchNode 93 = .ok (.ifCond .eq 7, 3) := by decide +kernel
theorem dX1_matchNode_96 : decode cX1_matchNode 96 = .ok (.iconst 1, 1) := by decide +kernel
theorem dX1_matchNode_97 : decode cX1_matchNode 97 = .ok (.goto 4, 3) := by decide +kernel
theorem dX1_matchNode_100 : decode cX1_matchNode 100 = .ok (.iconst 0, 1) := by decide +kernel
theorem dX1_matchNode_101 : decode cX1_matchNode 101 = .ok (.ireturn, 1) := by decide +kernel
theorem dX1_matchNode_102 : decode cX1_matchNode 102 = .ok (.iload_n 3, 1) := by decide +kernel
theorem dX1_matchNode_103 : decode cX1_matchNode 103 = .ok (.ifCond .eq 8, 3) := by decide +kernel
theorem dX1_matchNode_106 : decode cX1_matchNode 106 = .ok (.iload_n 3, 1) := by decide +kernel
theorem dX1_matchNode_107 : decode cX1_matchNode 107 = .ok (.iconst 2, 1) := by decide +kernel
theorem dX1_matchNode_108 : decode cX1_matchNode 108 = .ok (.if_icmp .ne 26, 3) := by decide +kernel
theorem dX1_matchNode_111 : decode cX1_matchNode 111 = .ok (.aload_n 0, 1) := by decide +kernel
theorem dX1_matchNode_112 : decode cX1_matchNode 112 = .ok (.iload_n 1, 1) := by decide +kernel
theorem dX1_matchNode_113 : decode cX1_matchNode 113 = .ok (.iload_n 2, 1) := by decide +kernel
theorem dX1_matchNode_114 : decode cX1_matchNode 114 = .ok (.iconst 1, 1) := by decide +kernel
theorem dX1_matchNode_115 : decode cX1_matchNode 115 = .ok (.invokevirtual 56, 3) := by decide +kernel
theorem dX1_matchNode_118 : decode cX1_matchNode 118 = .ok (.ifCond .eq 16, 3) := by decide +kernel
theorem dX1_matchNode_121 : decode cX1_matchNode 121 = .ok (.aload_n 0, 1) := by decide +kernel
theorem dX1_matchNode_122 : decode cX1_matchNode 122 = .ok (.iload_n 1, 1) := by decide +kernel
theorem dX1_matchNode_123 : decode cX1_matchNode 123 = .ok (.iload_n 2, 1) := by decide +kernel
theorem dX1_matchNode_124 : decode cX1_matchNode 124 = .ok (.invokevirtual 63, 3) := by decide +kernel
theorem dX1_matchNode_127 : decode cX1_matchNode 127 = .ok (.ifCond .eq 7, 3) := by decide +kernel
theorem dX1_matchNode_130 : decode cX1_matchNode 130 = .ok (.iconst 1, 1) := by decide +kernel
theorem dX1_matchNode_131 : decode cX1_matchNode 131 = .ok (.goto 4, 3) := by decide +kernel
theorem dX1_matchNode_134 : decode cX1_matchNode 134 = .ok (.iconst 0, 1) := by decide +kernel
theorem dX1_matchNode_135 : decode cX1_matchNode 135 = .ok (.ireturn, 1) := by decide +kernel
theorem dX1_matchNode_136 : decode cX1_matchNode 136 = .ok (.aload_n 0, 1) := by decide +kernel
theorem dX1_matchNode_137 : decode cX1_matchNode 137 = .ok (.getfield 12, 3) := by decide +kernel
theorem dX1_matchNode_140 : decode cX1_matchNode 140 = .ok (.iload_n 1, 1) := by decide +kernel
theorem dX1_matchNode_141 : decode cX1_matchNode 141 = .ok (.invokevirtual 66, 3) := by decide +kernel
theorem dX1_matchNode_144 : decode cX1_matchNode 144 = .ok (.aload_n 0, 1) := by decide +kernel
theorem dX1_matchNode_145 : decode cX1_matchNode 145 = .ok (.getfield 18, 3) := by decide +kernel
theorem dX1_matchNode_148 : decode cX1_matchNode 148 = .ok (.iload_n 2, 1) := by decide +kernel
theorem dX1_matchNode_149 : decode cX1_matchNode 149 = .ok (.invokevirtual 66, 3) := by decide +kernel
theorem dX1_matchNode_152 : decode cX1_matchNode 152 = .ok (.if_icmp .ne 16, 3) := by decide +kernel
theorem dX1_matchNode_155 : decode cX1_matchNode 155 = .ok (.aload_n 0, 1) := by decide +kernel
theorem dX1_matchNode_156 : decode cX1_matchNode 156 = .ok (.iload_n 1, 1) := by decide +kernel
theorem dX1_matchNode_157 : decode cX1_matchNode 157 = .ok (.iload_n 2, 1) := by decide +kernel
theorem dX1_matchNode_158 : decode cX1_matchNode 158 = .ok (.invokevirtual 63, 3) := by decide +kernel
theorem dX1_matchNode_161 : decode cX1_matchNode 161 = .ok (.ifCond .eq 7, 3) := by decide +kernel
theorem dX1_matchNode_164 : decode cX1_matchNode 164 = .ok (.iconst 1, 1) := by decide +kernel
theorem dX1_matchNode_165 : decode cX1_matchNode 165 = .ok (.goto 4, 3) := by decide +kernel
theorem dX1_matchNode_168 : decode cX1_matchNode 168 = .ok (.iconst 0, 1) := by decide +kernel
theorem dX1_matchNode_169 : decode cX1_matchNode 169 = .ok (.ireturn, 1) := by decide +kernel
theorem dX1_placeArguments_0 : decode cX1_placeArguments 0 = .ok (.aload_n 0, 1) := by decide +kernel
theorem dX1_placeArguments_1 : decode cX1_placeArguments 1 = .ok (.getfield 12, 3) := by decide +kernel
theorem dX1_placeArguments_4 : decode cX1_placeArguments 4 = .ok (.iload_n 1, 1) := by decide +kernel
theorem dX1_placeArguments_5 : decode cX1_placeArguments 5 = .ok (.invokevirtual 69, 3) := by decide +kernel
theorem dX1_placeArguments_8 : decode cX1_placeArguments 8 = .ok (.istore_n 3, 1) := by decide +kernel
theorem dX1_placeArguments_9 : decode cX1_placeArguments 9 = .ok (.aload_n 0, 1) := by decide +kernel
theorem dX1_placeArguments_10 : decode cX1_placeArguments 10 = .ok (.getfield 12, 3) := by decide +kernel
theorem dX1_placeArguments_13 : decode cX1_placeArguments 13 = .ok (.iload_n 1, 1) := by decide +kernel
theorem dX1_placeArguments_14 : decode cX1_placeArguments 14 = .ok (.invokevirtual 72, 3) := by decide +kernel
theorem dX1_placeArguments_17 : decode cX1_placeArguments 17 = .ok (.istore 4, 2) := by decide +kernel
theorem dX1_placeArguments_19 : decode cX1_placeArguments 19 = .ok (.aload_n 0, 1) := by decide +kernel
theorem dX1_placeArguments_20 : decode cX1_placeArguments 20 = .ok (.getfield 18, 3) := by decide +kernel
theorem dX1_placeArguments_23 : decode cX1_placeArguments 23 = .ok (.iload_n 2, 1) := by decide +kernel
theorem dX1_placeArguments_24 : decode cX1_placeArguments 24 = .ok (.invokevirtual 69, 3) := by decide +kernel
theorem dX1_placeArguments_27 : decode cX1_placeArguments 27 = .ok (.iload_n 3, 1) := by decide +kernel
theorem dX1_placeArguments_28 : decode cX1_placeArguments 28 = .ok (.isub, 1) := by decide +kernel
theorem dX1_placeArguments_29 : decode cX1_placeArguments 29 = .ok (.iload 4, 2) := by decide +kernel
theorem dX1_placeArguments_31 : decode cX1_placeArguments 31 = .ok (.ifCond .lt 7, 3) := by decide +kernel
theorem dX1_placeArguments_34 : decode cX1_placeArguments 34 = .ok (.iconst 1, 1) := by decide +kernel
theorem dX1_placeArguments_35 : decode cX1_placeArguments 35 = .ok (.goto 4, 3) := by decide +kernel
theorem dX1_placeArguments_38 : decode cX1_placeArguments 38 = .ok (.iconst 0, 1) := by decide +kernel
theorem dX1_placeArguments_39 : decode cX1_placeArguments 39 = .ok (.iadd, 1) := by decide +kernel
theorem dX1_placeArguments_40 : decode cX1_placeArguments 40 = .ok (.istore 5, 2) := by decide +kernel
theorem dX1_placeArguments_42 : decode cX1_placeArguments 42 = .ok (.iload 5, 2) := by decide +kernel
theorem dX1_placeArguments_44 : decode cX1_placeArguments 44 = .ok (.ifCond .lt 13, 3) := by decide +kernel
theorem dX1_placeArguments_47 : decode cX1_placeArguments 47 = .ok (.iload 4, 2) := by decide +kernel
theorem dX1_placeArguments_49 : decode cX1_placeArguments 49 = .ok (.ifCond .ge 10, 3) := by decide +kernel
theorem dX1_placeArguments_52 : decode cX1_placeArguments 52 = .ok (.iload 5, 2) := by decide +kernel
theorem dX1_placeArguments_54 : decode cX1_placeArguments 54 = .ok (.ifCond .le 5, 3) := by decide +kernel
theorem dX1_placeArguments_57 : decode cX1_placeArguments 57 = .ok (.iconst 0, 1) := by decide +kernel
theorem dX1_placeArguments_58 : decode cX1_placeArguments 58 = .ok (.ireturn, 1) := by decide +kernel
theorem dX1_placeArguments_59 : decode cX1_placeArguments 59 = .ok (.iload_n 1, 1) := by decide +kernel
theorem dX1_placeArguments_60 : decode cX1_placeArguments 60 = .ok (.iconst 1, 1) := by decide +kernel
theorem dX1_placeArguments_61 : decode cX1_placeArguments 61 = .ok (.iadd, 1) := by decide +kernel
theorem dX1_placeArguments_62 : decode cX1_placeArguments 62 = .ok (.istore 6, 2) := by decide +kernel
theorem dX1_placeArguments_64 : decode cX1_placeArguments 64 = .ok (.iload_n 2, 1) := by decide +kernel
theorem dX1_placeArguments_65 : decode cX1_placeArguments 65 = .ok (.iconst 1, 1) := by decide +kernel
theorem dX1_placeArguments_66 : decode cX1_placeArguments 66 = .ok (.iadd, 1) := by decide +kernel
theorem dX1_placeArguments_67 : decode cX1_placeArguments 67 = .ok (.istore 7, 2) := by decide +kernel
theorem dX1_placeArguments_69 : decode cX1_placeArguments 69 = .ok (.iconst 0, 1) := by decide +kernel
theorem dX1_placeArguments_70 : decode cX1_placeArguments 70 = .ok (.istore 8, 2) := by decide +kernel
theorem dX1_placeArguments_72 : decode cX1_placeArguments 72 = .ok (.iload 8, 2) := by decide +kernel
theorem dX1_placeArguments_74 : decode cX1_placeArguments 74 = .ok (.iload_n 3, 1) := by decide +kernel
theorem dX1_placeArguments_75 : decode cX1_placeArguments 75 = .ok (.if_icmp .ge 79, 3) := by decide +kernel
theorem dX1_placeArguments_78 : decode cX1_placeArguments 78 = .ok (.iload 6, 2) := by decide +kernel
theorem dX1_placeArguments_80 : decode cX1_placeArguments 80 = .ok (.bipush 32, 2) := by decide +kernel
theorem dX1_placeArguments_82 : decode cX1_placeArguments 82 = .ok (.if_icmp .ge 72, 3) := by decide +kernel
theorem dX1_placeArguments_85 : decode cX1_placeArguments 85 = .ok (.aload_n 0, 1) := by decide +kernel
theorem dX1_placeArguments_86 : decode cX1_placeArguments 86 = .ok (.getfield 21, 3) := by decide +kernel
theorem dX1_placeArguments_89 : decode cX1_placeArguments 89 = .ok (.iload 6, 2) := by decide +kernel
theorem dX1_placeArguments_91 : decode cX1_placeArguments 91 = .ok (.iload 7, 2) := by decide +kernel
theorem dX1_placeArguments_93 : decode cX1_placeArguments 93 = .ok (.iastore, 1) := by decide +kernel
theorem dX1_placeArguments_94 : decode cX1_placeArguments 94 = .ok (.aload_n 0, 1) := by decide +kernel
theorem dX1_placeArguments_95 : decode cX1_placeArguments 95 = .ok (.getfield 25, 3) := by decide +kernel
theorem dX1_placeArguments_98 : decode cX1_placeArguments 98 = .ok (.iload 6, 2) := by decide +kernel
theorem dX1_placeArguments_100 : decode cX1_placeArguments 100 = .ok (.iload 8, 2) := by decide +kernel
theorem dX1_placeArguments_102 : decode cX1_placeArguments 102 = .ok (.iload 4, 2) := by decide +kernel
theorem dX1_placeArguments_104 : decode cX1_placeArguments 104 = .ok (.if_icmp .ne 8, 3) := by decide +kernel
theorem dX1_placeArguments_107 : decode cX1_placeArguments 107 = .ok (.iload 5, 2) := by decide +kernel
theorem dX1_placeArguments_109 : decode cX1_placeArguments 109 = .ok (.goto 4, 3) := by decide +kernel
theorem dX1_placeArguments_112 : decode cX1_placeArguments 112 = .ok (.iconst 1, 1) := by decide +kernel
theorem dX1_placeArguments_113 : decode cX1_placeArguments 113 = .ok (.iastore, 1) := by decide +kernel
theorem dX1_placeArguments_114 : decode cX1_placeArguments 114 = .ok (.aload_n 0, 1) := by decide +kernel
theorem dX1_placeArguments_115 : decode cX1_placeArguments 115 = .ok (.getfield 18, 3) := by decide +kernel
theorem dX1_placeArguments_118 : decode cX1_placeArguments 118 = .ok (.iload 7, 2) := by decide +kernel
theorem dX1_placeArguments_120 : decode cX1_placeArguments 120 = .ok (.iconst 1, 1) := by decide +kernel
theorem dX1_placeArguments_121 : decode cX1_placeArguments 121 = .ok (.isub, 1) := by decide +kernel
theorem dX1_placeArguments_122 : decode cX1_placeArguments 122 = .ok (.aload_n 0, 1) := by decide +kernel
theorem dX1_placeArguments_123 : decode cX1_placeArguments 123 = .ok (.getfield 25, 3) := by decide +kernel
theorem dX1_placeArguments_126 : decode cX1_placeArguments 126 = .ok (.iload 6, 2) := by decide +kernel
theorem dX1_placeArguments_128 : decode cX1_placeArguments 128 = .ok (.iaload, 1) := by decide +kernel
theorem dX1_placeArguments_129 : decode cX1_placeArguments 129 = .ok (.invokevirtual 52, 3) := by decide +kernel
theorem dX1_placeArguments_132 : decode cX1_placeArguments 132 = .ok (.istore 7, 2) := by decide +kernel
theorem dX1_placeArguments_134 : decode cX1_placeArguments 134 = .ok (.iload 6, 2) := by decide +kernel
theorem dX1_placeArguments_136 : decode cX1_placeArguments 136 = .ok (.aload_n 0, 1) := by decide +kernel
theorem dX1_placeArguments_137 : decode cX1_placeArguments 137 = .ok (.getfield 12, 3) := by decide +kernel
theorem dX1_placeArguments_140 : decode cX1_placeArguments 140 = .ok (.iload 6, 2) := by decide +kernel
theorem dX1_placeArguments_142 : decode cX1_placeArguments 142 = .ok (.invokevirtual 60, 3) := by decide +kernel
theorem dX1_placeArguments_145 : decode cX1_placeArguments 145 = .ok (.iadd, 1) := by decide +kernel
theorem dX1_placeArguments_146 : decode cX1_placeArguments 146 = .ok (.istore 6, 2) := by decide +kernel
theorem dX1_placeArguments_148 : decode cX1_placeArguments 148 = .ok (.iinc 8 1, 3) := by decide +kernel
theorem dX1_placeArguments_151 : decode cX1_placeArguments 151 = .ok (.goto (-79), 3) := by decide +kernel
theorem dX1_placeArguments_154 : decode cX1_placeArguments 154 = .ok (.iconst 1, 1) := by decide +kernel
theorem dX1_placeArguments_155 : decode cX1_placeArguments 155 = .ok (.ireturn, 1) := by decide +kernel
theorem dX1_fill_0 : decode cX1_fill 0 = .ok (.aload_n 0, 1) := by decide +kernel
theorem dX1_fill_1 : decode cX1_fill 1 = .ok (.getfield 12, 3) := by decide +kernel
theorem dX1_fill_4 : decode cX1_fill 4 = .ok (.iload_n 1, 1) := by decide +kernel
theorem dX1_fill_5 : decode cX1_fill 5 = .ok (.invokevirtual 75, 3) := by decide +kernel
theorem dX1_fill_8 : decode cX1_fill 8 = .ok (.istore 4, 2) := by decide +kernel
theorem dX1_fill_10 : decode cX1_fill 10 = .ok (.iload 4, 2) := by decide +kernel
theorem dX1_fill_12 : decode cX1_fill 12 = .ok (.bipush 9, 2) := by decide +kernel
theorem dX1_fill_14 : decode cX1_fill 14 = .ok (.invokestatic 78, 3) := by decide +kernel
theorem dX1_fill_17 : decode cX1_fill 17 = .ok (.ifCond .eq 5, 3) := by decide +kernel
theorem dX1_fill_20 : decode cX1_fill 20 = .ok (.iconst 0, 1) := by decide +kernel
theorem dX1_fill_21 : decode cX1_fill 21 = .ok (.ireturn, 1) := by decide +kernel
theorem dX1_fill_22 : decode cX1_fill 22 = .ok (.aload_n 0, 1) := by decide +kernel
theorem dX1_fill_23 : decode cX1_fill 23 = .ok (.getfield 28, 3) := by decide +kernel
theorem dX1_fill_26 : decode cX1_fill 26 = .ok (.iload 4, 2) := by decide +kernel
theorem dX1_fill_28 : decode cX1_fill 28 = .ok (.iaload, 1) := by decide +kernel
theorem dX1_fill_29 : decode cX1_fill 29 = .ok (.iconst (-1), 1) := by decide +kernel
theorem dX1_fill_30 : decode cX1_fill 30 = .ok (.if_icmp .ne 49, 3) := by decide +kernel
theorem dX1_fill_33 : decode cX1_fill 33 = .ok (.aload_n 0, 1) := by decide +kernel
theorem dX1_fill_34 : decode cX1_fill 34 = .ok (.getfield 28, 3) := by decide +kernel
theorem dX1_fill_37 : decode cX1_fill 37 = .ok (.iload 4, 2) := by decide +kernel
theorem dX1_fill_39 : decode cX1_fill 39 = .ok (.aload_n 0, 1) := by decide +kernel
theorem dX1_fill_40 : decode cX1_fill 40 = .ok (.getfield 12, 3) := by decide +kernel
theorem dX1_fill_43 : decode cX1_fill 43 = .ok (.iload_n 1, 1) := by decide +kernel
theorem dX1_fill_44 : decode cX1_fill 44 = .ok (.invokevirtual 48, 3) := by decide +kernel
theorem dX1_fill_47 : decode cX1_fill 47 = .ok (.iastore, 1) := by decide +kernel
theorem dX1_fill_48 : decode cX1_fill 48 = .ok (.aload_n 0, 1) := by decide +kernel
theorem dX1_fill_49 : decode cX1_fill 49 = .ok (.getfield 31, 3) := by decide +kernel
theorem dX1_fill_52 : decode cX1_fill 52 = .ok (.iload 4, 2) := by decide +kernel
theorem dX1_fill_54 : decode cX1_fill 54 = .ok (.iload_n 2, 1) := by decide +kernel
theorem dX1_fill_55 : decode cX1_fill 55 = .ok (.iastore, 1) := by decide +kernel
theorem dX1_fill_56 : decode cX1_fill 56 = .ok (.aload_n 0, 1) := by decide +kernel
theorem dX1_fill_57 : decode cX1_fill 57 = .ok (.getfield 34, 3) := by decide +kernel
theorem dX1_fill_60 : decode cX1_fill 60 = .ok (.iload 4, 2) := by decide +kernel
theorem dX1_fill_62 : decode cX1_fill 62 = .ok (.iload_n 3, 1) := by decide +kernel
theorem dX1_fill_63 : decode cX1_fill 63 = .ok (.iastore, 1) := by decide +kernel
theorem dX1_fill_64 : decode cX1_fill 64 = .ok (.aload_n 0, 1) := by decide +kernel
theorem dX1_fill_65 : decode cX1_fill 65 = .ok (.getfield 37, 3) := by decide +kernel
theorem dX1_fill_68 : decode cX1_fill 68 = .ok (.iload 4, 2) := by decide +kernel
theorem dX1_fill_70 : decode cX1_fill 70 = .ok (.aload_n 0, 1) := by decide +kernel
theorem dX1_fill_71 : decode cX1_fill 71 = .ok (.getfield 25, 3) := by decide +kernel
theorem dX1_fill_74 : decode cX1_fill 74 = .ok (.iload_n 1, 1) := by decide +kernel
theorem dX1_fill_75 : decode cX1_fill 75 = .ok (.iaload, 1) := by decide +kernel
theorem dX1_fill_76 : decode cX1_fill 76 = .ok (.iastore, 1) := by decide +kernel
theorem dX1_fill_77 : decode cX1_fill 77 = .ok (.iconst 1, 1) := by decide +kernel
theorem dX1_fill_78 : decode cX1_fill 78 = .ok (.ireturn, 1) := by decide +kernel
theorem dX1_fill_79 : decode cX1_fill 79 = .ok (.aload_n 0, 1) := by decide +kernel
theorem dX1_fill_80 : decode cX1_fill 80 = .ok (.getfield 28, 3) := by decide +kernel
theorem dX1_fill_83 : decode cX1_fill 83 = .ok (.iload 4, 2) := by decide +kernel
theorem dX1_fill_85 : decode cX1_fill 85 = .ok (.iaload, 1) := by decide +kernel
theorem dX1_fill_86 : decode cX1_fill 86 = .ok (.iconst 2, 1) := by decide +kernel
theorem dX1_fill_87 : decode cX1_fill 87 = .ok (.if_icmp .ne 34, 3) := by decide +kernel
theorem dX1_fill_90 : decode cX1_fill 90 = .ok (.aload_n 0, 1) := by decide +kernel
theorem dX1_fill_91 : decode cX1_fill 91 = .ok (.getfield 18, 3) := by decide +kernel
theorem dX1_fill_94 : decode cX1_fill 94 = .ok (.aload_n 0, 1) := by decide +kernel
theorem dX1_fill_95 : decode cX1_fill 95 = .ok (.getfield 31, 3) := by decide +kernel
theorem dX1_fill_98 : decode cX1_fill 98 = .ok (.iload 4, 2) := by decide +kernel
theorem dX1_fill_100 : decode cX1_fill 100 = .ok (.iaload, 1) := by decide +kernel
theorem dX1_fill_101 : decode cX1_fill 101 = .ok (.invokevirtual 66, 3) := by decide +kernel
theorem dX1_fill_104 : decode cX1_fill 104 = .ok (.aload_n 0, 1) := by decide +kernel
theorem dX1_fill_105 : decode cX1_fill 105 = .ok (.getfield 18, 3) := by decide +kernel
theorem dX1_fill_108 : decode cX1_fill 108 = .ok (.iload_n 2, 1) := by decide +kernel
theorem dX1_fill_109 : decode cX1_fill 109 = .ok (.invokevirtual 66, 3) := by decide +kernel
theorem dX1_fill_112 : decode cX1_fill 112 = .ok (.if_icmp .ne 7, 3) := by decide +kernel
theorem dX1_fill_115 : decode cX1_fill 115 = .ok (.iconst 1, 1) := by decide +kernel
theorem dX1_fill_116 : decode cX1_fill 116 = .ok (.goto 4, 3) := by decide +kernel
theorem dX1_fill_119 : decode cX1_fill 119 = .ok (.iconst 0, 1) := by decide +kernel
theorem dX1_fill_120 : decode cX1_fill 120 = .ok (.ireturn, 1) := by decide +kernel
theorem dX1_fill_121 : decode cX1_fill 121 = .ok (.aload_n 0, 1) := by decide +kernel
theorem dX1_fill_122 : decode cX1_fill 122 = .ok (.getfield 34, 3) := by decide +kernel
theorem dX1_fill_125 : decode cX1_fill 125 = .ok (.iload 4, 2) := by decide +kernel
theorem dX1_fill_127 : decode cX1_fill 127 = .ok (.iaload, 1) := by decide +kernel
theorem dX1_fill_128 : decode cX1_fill 128 = .ok (.iload_n 3, 1) := by decide +kernel
theorem dX1_fill_129 : decode cX1_fill 129 = .ok (.if_icmp .ne 30, 3) := by decide +kernel
theorem dX1_fill_132 : decode cX1_fill 132 = .ok (.aload_n 0, 1) := by decide +kernel
theorem dX1_fill_133 : decode cX1_fill 133 = .ok (.getfield 18, 3) := by decide +kernel
theorem dX1_fill_136 : decode cX1_fill 136 = .ok (.aload_n 0, 1) := by decide +kernel
theorem dX1_fill_137 : decode cX1_fill 137 = .ok (.getfield 31, 3) := by decide +kernel
theorem dX1_fill_140 : decode cX1_fill 140 = .ok (.iload 4, 2) := by decide +kernel
theorem dX1_fill_142 : decode cX1_fill 142 = .ok (.iaload, 1) := by decide +kernel
theorem dX1_fill_143 : decode cX1_fill 143 = .ok (.aload_n 0, 1) := by decide +kernel
theorem dX1_fill_144 : decode cX1_fill 144 = .ok (.getfield 18, 3) := by decide +kernel
theorem dX1_fill_147 : decode cX1_fill 147 = .ok (.iload_n 2, 1) := by decide +kernel
theorem dX1_fill_148 : decode cX1_fill 148 = .ok (.iload_n 3, 1) := by decide +kernel
theorem dX1_fill_149 : decode cX1_fill 149 = .ok (.invokevirtual 81, 3) := by decide +kernel
theorem dX1_fill_152 : decode cX1_fill 152 = .ok (.ifCond .ne 7, 3) := by decide +kernel
theorem dX1_fill_155 : decode cX1_fill 155 = .ok (.iconst 1, 1) := by decide +kernel
theorem dX1_fill_156 : decode cX1_fill 156 = .ok (.goto 4, 3) := by decide +kernel
theorem dX1_fill_159 : decode cX1_fill 159 = .ok (.iconst 0, 1) := by decide +kernel
theorem dX1_fill_160 : decode cX1_fill 160 = .ok (.ireturn, 1) := by decide +kernel
theorem dX1_filling_0 : decode cX1_filling 0 = .ok (.iload_n 1, 1) := by decide +kernel
theorem dX1_filling_1 : decode cX1_filling 1 = .ok (.bipush 9, 2) := by decide +kernel
theorem dX1_filling_3 : decode cX1_filling 3 = .ok (.invokestatic 78, 3) := by decide +kernel
theorem dX1_filling_6 : decode cX1_filling 6 = .ok (.ifCond .ne 13, 3) := by decide +kernel
theorem dX1_filling_9 : decode cX1_filling 9 = .ok (.aload_n 0, 1) := by decide +kernel
theorem dX1_filling_10 : decode cX1_filling 10 = .ok (.getfield 28, 3) := by decide +kernel
theorem dX1_filling_13 : decode cX1_filling 13 = .ok (.iload_n 1, 1) := by decide +kernel
theorem dX1_filling_14 : decode cX1_filling 14 = .ok (.iaload, 1) := by decide +kernel
theorem dX1_filling_15 : decode cX1_filling 15 = .ok (.iconst (-1), 1) := by decide +kernel
theorem dX1_filling_16 : decode cX1_filling 16 = .ok (.if_icmp .ne 6, 3) := by decide +kernel
theorem dX1_filling_19 : decode cX1_filling 19 = .ok (.bipush (-9), 2) := by decide +kernel
theorem dX1_filling_21 : decode cX1_filling 21 = .ok (.ireturn, 1) := by decide +kernel
theorem dX1_filling_22 : decode cX1_filling 22 = .ok (.iload_n 2, 1) := by decide +kernel
theorem dX1_filling_23 : decode cX1_filling 23 = .ok (.lookupswitch 53 #[(0, 25), (1, 46)], 25) := by decide +kernel
theorem dX1_filling_48 : decode cX1_filling 48 = .ok (.aload_n 0, 1) := by decide +kernel
theorem dX1_filling_49 : decode cX1_filling 49 = .ok (.getfield 34, 3) := by decide +kernel
theorem dX1_filling_52 : decode cX1_filling 52 = .ok (.iload_n 1, 1) := by decide +kernel
theorem dX1_filling_53 : decode cX1_filling 53 = .ok (.iaload, 1) := by decide +kernel
theorem dX1_filling_54 : decode cX1_filling 54 = .ok (.ifCond .ne 8, 3) := by decide +kernel
theorem dX1_filling_57 : decode cX1_filling 57 = .ok (.bipush (-9), 2) := by decide +kernel
theorem dX1_filling_59 : decode cX1_filling 59 = .ok (.goto 9, 3) := by decide +kernel
theorem dX1_filling_62 : decode cX1_filling 62 = .ok (.aload_n 0, 1) := by decide +kernel
theorem dX1_filling_63 : decode cX1_filling 63 = .ok (.getfield 31, 3) := by decide +kernel
theorem dX1_filling_66 : decode cX1_filling 66 = .ok (.iload_n 1, 1) := by decide +kernel
theorem dX1_filling_67 : decode cX1_filling 67 = .ok (.iaload, 1) := by decide +kernel
theorem dX1_filling_68 : decode cX1_filling 68 = .ok (.ireturn, 1) := by decide +kernel
theorem dX1_filling_69 : decode cX1_filling 69 = .ok (.aload_n 0, 1) := by decide +kernel
theorem dX1_filling_70 : decode cX1_filling 70 = .ok (.getfield 34, 3) := by decide +kernel
theorem dX1_filling_73 : decode cX1_filling 73 = .ok (.iload_n 1, 1) := by decide +kernel
theorem dX1_filling_74 : decode cX1_filling 74 = .ok (.iaload, 1) := by decide +kernel
theorem dX1_filling_75 : decode cX1_filling 75 = .ok (.ireturn, 1) := by decide +kernel
theorem dX1_filling_76 : decode cX1_filling 76 = .ok (.aload_n 0, 1) := by decide +kernel
theorem dX1_filling_77 : decode cX1_filling 77 = .ok (.getfield 37, 3) := by decide +kernel
theorem dX1_filling_80 : decode cX1_filling 80 = .ok (.iload_n 1, 1) := by decide +kernel
theorem dX1_filling_81 : decode cX1_filling 81 = .ok (.iaload, 1) := by decide +kernel
theorem dX1_filling_82 : decode cX1_filling 82 = .ok (.ireturn, 1) := by decide +kernel
theorem dX1_canNarrow_0 : decode cX1_canNarrow 0 = .ok (.iload_n 1, 1) := by decide +kernel
theorem dX1_canNarrow_1 : decode cX1_canNarrow 1 = .ok (.bipush 9, 2) := by decide +kernel
theorem dX1_canNarrow_3 : decode cX1_canNarrow 3 = .ok (.invokestatic 78, 3) := by decide +kernel
theorem dX1_canNarrow_6 : decode cX1_canNarrow 6 = .ok (.ifCond .eq 5, 3) := by decide +kernel
theorem dX1_canNarrow_9 : decode cX1_canNarrow 9 = .ok (.iconst 0, 1) := by decide +kernel
theorem dX1_canNarrow_10 : decode cX1_canNarrow 10 = .ok (.ireturn, 1) := by decide +kernel
theorem dX1_canNarrow_11 : decode cX1_canNarrow 11 = .ok (.aload_n 0, 1) := by decide +kernel
theorem dX1_canNarrow_12 : decode cX1_canNarrow 12 = .ok (.getfield 31, 3) := by decide +kernel
theorem dX1_canNarrow_15 : decode cX1_canNarrow 15 = .ok (.iload_n 1, 1) := by decide +kernel
theorem dX1_canNarrow_16 : decode cX1_canNarrow 16 = .ok (.iaload, 1) := by decide +kernel
theorem dX1_canNarrow_17 : decode cX1_canNarrow 17 = .ok (.istore_n 3, 1) := by decide +kernel
theorem dX1_canNarrow_18 : decode cX1_canNarrow 18 = .ok (.aload_n 2, 1) := by decide +kernel
theorem dX1_canNarrow_19 : decode cX1_canNarrow 19 = .ok (.getfield 31, 3) := by decide +kernel
theorem dX1_canNarrow_22 : decode cX1_canNarrow 22 = .ok (.iload_n 1, 1) := by decide +kernel
theorem dX1_canNarrow_23 : decode cX1_canNarrow 23 = .ok (.iaload, 1) := by decide +kernel
theorem dX1_canNarrow_24 : decode cX1_canNarrow 24 = .ok (.istore 4, 2) := by decide +kernel
theorem dX1_canNarrow_26 : decode cX1_canNarrow 26 = .ok (.aload_n 0, 1) := by decide +kernel
theorem dX1_canNarrow_27 : decode cX1_canNarrow 27 = .ok (.getfield 28, 3) := by decide +kernel
theorem dX1_canNarrow_30 : decode cX1_canNarrow 30 = .ok (.iload_n 1, 1) := by decide +kernel
theorem dX1_canNarrow_31 : decode cX1_canNarrow 31 = .ok (.iaload, 1) := by decide +kernel
theorem dX1_canNarrow_32 : decode cX1_canNarrow 32 = .ok (.tableswitch 153 1 3 #[28, 88, 97], 28) := by decide +kernel
theorem dX1_canNarrow_60 : decode cX1_canNarrow 60 = .ok (.aload_n 0, 1) := by decide +kernel
theorem dX1_canNarrow_61 : decode cX1_canNarrow 61 = .ok (.iload_n 3, 1) := by decide +kernel
theorem dX1_canNarrow_62 : decode cX1_canNarrow 62 = .ok (.aload_n 2, 1) := by decide +kernel
theorem dX1_canNarrow_63 : decode cX1_canNarrow 63 = .ok (.iload 4, 2) := by decide +kernel
theorem dX1_canNarrow_65 : decode cX1_canNarrow 65 = .ok (.invokevirtual 85, 3) := by decide +kernel
theorem dX1_canNarrow_68 : decode cX1_canNarrow 68 = .ok (.ifCond .eq 50, 3) := by decide +kernel
theorem dX1_canNarrow_71 : decode cX1_canNarrow 71 = .ok (.aload_n 0, 1) := by decide +kernel
theorem dX1_canNarrow_72 : decode cX1_canNarrow 72 = .ok (.getfield 18, 3) := by decide +kernel
theorem dX1_canNarrow_75 : decode cX1_canNarrow 75 = .ok (.iload_n 3, 1) := by decide +kernel
theorem dX1_canNarrow_76 : decode cX1_canNarrow 76 = .ok (.invokevirtual 69, 3) := by decide +kernel
theorem dX1_canNarrow_79 : decode cX1_canNarrow 79 = .ok (.aload_n 2, 1) := by decide +kernel
theorem dX1_canNarrow_80 : decode cX1_canNarrow 80 = .ok (.getfield 18, 3) := by decide +kernel
theorem dX1_canNarrow_83 : decode cX1_canNarrow 83 = .ok (.iload 4, 2) := by decide +kernel
theorem dX1_canNarrow_85 : decode cX1_canNarrow 85 = .ok (.invokevirtual 69, 3) := by decide +kernel
theorem dX1_canNarrow_88 : decode cX1_canNarrow 88 = .ok (.if_icmp .ne 30, 3) := by decide +kernel
theorem dX1_canNarrow_91 : decode cX1_canNarrow 91 = .ok (.aload_n 0, 1) := by decide +kernel
theorem dX1_canNarrow_92 : decode cX1_canNarrow 92 = .ok (.getfield 18, 3) := by decide +kernel
theorem dX1_canNarrow_95 : decode cX1_canNarrow 95 = .ok (.iload_n 3, 1) := by decide +kernel
theorem dX1_canNarrow_96 : decode cX1_canNarrow 96 = .ok (.invokevirtual 72, 3) := by decide +kernel
theorem dX1_canNarrow_99 : decode cX1_canNarrow 99 = .ok (.ifCond .ge 19, 3) := by decide +kernel
theorem dX1_canNarrow_102 : decode cX1_canNarrow 102 = .ok (.aload_n 2, 1) := by decide +kernel
theorem dX1_canNarrow_103 : decode cX1_canNarrow 103 = .ok (.getfield 18, 3) := by decide +kernel
theorem dX1_canNarrow_106 : decode cX1_canNarrow 106 = .ok (.iload 4, 2) := by decide +kernel
theorem dX1_canNarrow_108 : decode cX1_canNarrow 108 = .ok (.invokevirtual 72, 3) := by decide +kernel
theorem dX1_canNarrow_111 : decode cX1_canNarrow 111 = .ok (.ifCond .ge 7, 3) := by decide +kernel
theorem dX1_canNarrow_114 : decode cX1_canNarrow 114 = .ok (.iconst 1, 1) := by decide +kernel
theorem dX1_canNarrow_115 : decode cX1_canNarrow 115 = .ok (.goto 4, 3) := by decide +kernel
theorem dX1_canNarrow_118 : decode cX1_canNarrow 118 = .ok (.iconst 0, 1) := by decide +kernel
theorem dX1_canNarrow_119 : decode cX1_canNarrow 119 = .ok (.ireturn, 1) := by decide +kernel
theorem dX1_canNarrow_120 : decode cX1_canNarrow 120 = .ok (.aload_n 0, 1) := by decide +kernel
theorem dX1_canNarrow_121 : decode cX1_canNarrow 121 = .ok (.iload_n 3, 1) := by decide +kernel
theorem dX1_canNarrow_122 : decode cX1_canNarrow 122 = .ok (.aload_n 2, 1) := by decide +kernel
theorem dX1_canNarrow_123 : decode cX1_canNarrow 123 = .ok (.iload 4, 2) := by decide +kernel
theorem dX1_canNarrow_125 : decode cX1_canNarrow 125 = .ok (.invokevirtual 85, 3) := by decide +kernel
theorem dX1_canNarrow_128 : decode cX1_canNarrow 128 = .ok (.ireturn, 1) := by decide +kernel
theorem dX1_canNarrow_129 : decode cX1_canNarrow 129 = .ok (.aload_n 0, 1) := by decide +kernel
theorem dX1_canNarrow_130 : decode cX1_canNarrow 130 = .ok (.getfield 37, 3) := by decide +kernel
theorem dX1_canNarrow_133 : decode cX1_canNarrow 133 = .ok (.iload_n 1, 1) := by decide +kernel
theorem dX1_canNarrow_134 : decode cX1_canNarrow 134 = .ok (.iaload, 1) := by decide +kernel
theorem dX1_canNarrow_135 : decode cX1_canNarrow 135 = .ok (.ifCond .ne 12, 3) := by decide +kernel
theorem dX1_canNarrow_138 : decode cX1_canNarrow 138 = .ok (.aload_n 2, 1) := by decide +kernel
theorem dX1_canNarrow_139 : decode cX1_canNarrow 139 = .ok (.getfield 37, 3) := by decide +kernel
theorem dX1_canNarrow_142 : decode cX1_canNarrow 142 = .ok (.iload_n 1, 1) := by decide +kernel
theorem dX1_canNarrow_143 : decode cX1_canNarrow 143 = .ok (.iaload, 1) := by decide +kernel
theorem dX1_canNarrow_144 : decode cX1_canNarrow 144 = .ok (.ifCond .eq 35, 3) := by decide +kernel
theorem dX1_canNarrow_147 : decode cX1_canNarrow 147 = .ok (.aload_n 0, 1) := by decide +kernel
theorem dX1_canNarrow_148 : decode cX1_canNarrow 148 = .ok (.iload_n 1, 1) := by decide +kernel
theorem dX1_canNarrow_149 : decode cX1_canNarrow 149 = .ok (.invokevirtual 89, 3) := by decide +kernel
theorem dX1_canNarrow_152 : decode cX1_canNarrow 152 = .ok (.ifCond .eq 11, 3) := by decide +kernel
theorem dX1_canNarrow_155 : decode cX1_canNarrow 155 = .ok (.aload_n 2, 1) := by decide +kernel
theorem dX1_canNarrow_156 : decode cX1_canNarrow 156 = .ok (.iload_n 1, 1) := by decide +kernel
theorem dX1_canNarrow_157 : decode cX1_canNarrow 157 = .ok (.invokevirtual 89, 3) := by decide +kernel
theorem dX1_canNarrow_160 : decode cX1_canNarrow 160 = .ok (.ifCond .ne 19, 3) := by decide +kernel
theorem dX1_canNarrow_163 : decode cX1_canNarrow 163 = .ok (.aload_n 0, 1) := by decide +kernel
theorem dX1_canNarrow_164 : decode cX1_canNarrow 164 = .ok (.iload_n 1, 1) := by decide +kernel
theorem dX1_canNarrow_165 : decode cX1_canNarrow 165 = .ok (.invokevirtual 93, 3) := by decide +kernel
theorem dX1_canNarrow_168 : decode cX1_canNarrow 168 = .ok (.ifCond .eq 15, 3) := by decide +kernel
theorem dX1_canNarrow_171 : decode cX1_canNarrow 171 = .ok (.aload_n 2, 1) := by decide +kernel
theorem dX1_canNarrow_172 : decode cX1_canNarrow 172 = .ok (.iload_n 1, 1) := by decide +kernel
theorem dX1_canNarrow_173 : decode cX1_canNarrow 173 = .ok (.invokevirtual 93, 3) := by decide +kernel
theorem dX1_canNarrow_176 : decode cX1_canNarrow 176 = .ok (.ifCond .eq 7, 3) := by decide +kernel
theorem dX1_canNarrow_179 : decode cX1_canNarrow 179 = .ok (.iconst 1, 1) := by decide +kernel
theorem dX1_canNarrow_180 : decode cX1_canNarrow 180 = .ok (.goto 4, 3) := by decide +kernel
theorem dX1_canNarrow_183 : decode cX1_canNarrow 183 = .ok (.iconst 0, 1) := by decide +kernel
theorem dX1_canNarrow_184 : decode cX1_canNarrow 184 = .ok (.ireturn, 1) := by decide +kernel
theorem dX1_canNarrow_185 : decode cX1_canNarrow 185 = .ok (.iconst 0, 1) := by decide +kernel
theorem dX1_canNarrow_186 : decode cX1_canNarrow 186 = .ok (.ireturn, 1) := by decide +kernel
theorem dX1_sameSymbol_0 : decode cX1_sameSymbol 0 = .ok (.aload_n 0, 1) := by decide +kernel
theorem dX1_sameSymbol_1 : decode cX1_sameSymbol 1 = .ok (.getfield 18, 3) := by decide +kernel
theorem dX1_sameSymbol_4 : decode cX1_sameSymbol 4 = .ok (.iload_n 1, 1) := by decide +kernel
theorem dX1_sameSymbol_5 : decode cX1_sameSymbol 5 = .ok (.invokevirtual 48, 3) := by decide +kernel
theorem dX1_sameSymbol_8 : decode cX1_sameSymbol 8 = .ok (.ifCond .ne 26, 3) := by decide +kernel
theorem dX1_sameSymbol_11 : decode cX1_sameSymbol 11 = .ok (.aload_n 0, 1) := by decide +kernel
theorem dX1_sameSymbol_12 : decode cX1_sameSymbol 12 = .ok (.getfield 18, 3) := by decide +kernel
theorem dX1_sameSymbol_15 : decode cX1_sameSymbol 15 = .ok (.iload_n 1, 1) := by decide +kernel
theorem dX1_sameSymbol_16 : decode cX1_sameSymbol 16 = .ok (.invokevirtual 66, 3) := by decide +kernel
theorem dX1_sameSymbol_19 : decode cX1_sameSymbol 19 = .ok (.aload_n 2, 1) := by decide +kernel
theorem dX1_sameSymbol_20 : decode cX1_sameSymbol 20 = .ok (.getfield 18, 3) := by decide +kernel
theorem dX1_sameSymbol_23 : decode cX1_sameSymbol 23 = .ok (.iload_n 3, 1) := by decide +kernel
theorem dX1_sameSymbol_24 : decode cX1_sameSymbol 24 = .ok (.invokevirtual 66, 3) := by decide +kernel
theorem dX1_sameSymbol_27 : decode cX1_sameSymbol 27 = .ok (.if_icmp .ne 7, 3) := by decide +kernel
theorem dX1_sameSymbol_30 : decode cX1_sameSymbol 30 = .ok (.iconst 1, 1) := by decide +kernel
theorem dX1_sameSymbol_31 : decode cX1_sameSymbol 31 = .ok (.goto 4, 3) := by decide +kernel
theorem dX1_sameSymbol_34 : decode cX1_sameSymbol 34 = .ok (.iconst 0, 1) := by decide +kernel
theorem dX1_sameSymbol_35 : decode cX1_sameSymbol 35 = .ok (.ireturn, 1) := by decide +kernel
theorem dX1_beginsWithTerm_0 : decode cX1_beginsWithTerm 0 = .ok (.aload_n 0, 1) := by decide +kernel
theorem dX1_beginsWithTerm_1 : decode cX1_beginsWithTerm 1 = .ok (.getfield 37, 3) := by decide +kernel
theorem dX1_beginsWithTerm_4 : decode cX1_beginsWithTerm 4 = .ok (.iload_n 1, 1) := by decide +kernel
theorem dX1_beginsWithTerm_5 : decode cX1_beginsWithTerm 5 = .ok (.iaload, 1) := by decide +kernel
theorem dX1_beginsWithTerm_6 : decode cX1_beginsWithTerm 6 = .ok (.ifCond .le 24, 3) := by decide +kernel
theorem dX1_beginsWithTerm_9 : decode cX1_beginsWithTerm 9 = .ok (.aload_n 0, 1) := by decide +kernel
theorem dX1_beginsWithTerm_10 : decode cX1_beginsWithTerm 10 = .ok (.getfield 18, 3) := by decide +kernel
theorem dX1_beginsWithTerm_13 : decode cX1_beginsWithTerm 13 = .ok (.aload_n 0, 1) := by decide +kernel
theorem dX1_beginsWithTerm_14 : decode cX1_beginsWithTerm 14 = .ok (.getfield 31, 3) := by decide +kernel
theorem dX1_beginsWithTerm_17 : decode cX1_beginsWithTerm 17 = .ok (.iload_n 1, 1) := by decide +kernel
theorem dX1_beginsWithTerm_18 : decode cX1_beginsWithTerm 18 = .ok (.iaload, 1) := by decide +kernel
theorem dX1_beginsWithTerm_19 : decode cX1_beginsWithTerm 19 = .ok (.invokevirtual 48, 3) := by decide +kernel
theorem dX1_beginsWithTerm_22 : decode cX1_beginsWithTerm 22 = .ok (.iconst 3, 1) := by decide +kernel
theorem dX1_beginsWithTerm_23 : decode cX1_beginsWithTerm 23 = .ok (.if_icmp .eq 7, 3) := by decide +kernel
theorem dX1_beginsWithTerm_26 : decode cX1_beginsWithTerm 26 = .ok (.iconst 1, 1) := by decide +kernel
theorem dX1_beginsWithTerm_27 : decode cX1_beginsWithTerm 27 = .ok (.goto 4, 3) := by decide +kernel
theorem dX1_beginsWithTerm_30 : decode cX1_beginsWithTerm 30 = .ok (.iconst 0, 1) := by decide +kernel
theorem dX1_beginsWithTerm_31 : decode cX1_beginsWithTerm 31 = .ok (.ireturn, 1) := by decide +kernel
theorem dX1_endsWithTerm_0 : decode cX1_endsWithTerm 0 = .ok (.aload_n 0, 1) := by decide +kernel
theorem dX1_endsWithTerm_1 : decode cX1_endsWithTerm 1 = .ok (.getfield 18, 3) := by decide +kernel
theorem dX1_endsWithTerm_4 : decode cX1_endsWithTerm 4 = .ok (.aload_n 0, 1) := by decide +kernel
theorem dX1_endsWithTerm_5 : decode cX1_endsWithTerm 5 = .ok (.getfield 31, 3) := by decide +kernel
theorem dX1_endsWithTerm_8 : decode cX1_endsWithTerm 8 = .ok (.iload_n 1, 1) := by decide +kernel
theorem dX1_endsWithTerm_9 : decode cX1_endsWithTerm 9 = .ok (.iaload, 1) := by decide +kernel
theorem dX1_endsWithTerm_10 : decode cX1_endsWithTerm 10 = .ok (.iconst 1, 1) := by decide +kernel
theorem dX1_endsWithTerm_11 : decode cX1_endsWithTerm 11 = .ok (.isub, 1) := by decide +kernel
theorem dX1_endsWithTerm_12 : decode cX1_endsWithTerm 12 = .ok (.aload_n 0, 1) := by decide +kernel
theorem dX1_endsWithTerm_13 : decode cX1_endsWithTerm 13 = .ok (.getfield 37, 3) := by decide +kernel
theorem dX1_endsWithTerm_16 : decode cX1_endsWithTerm 16 = .ok (.iload_n 1, 1) := by decide +kernel
theorem dX1_endsWithTerm_17 : decode cX1_endsWithTerm 17 = .ok (.iaload, 1) := by decide +kernel
theorem dX1_endsWithTerm_18 : decode cX1_endsWithTerm 18 = .ok (.iconst 1, 1) := by decide +kernel
theorem dX1_endsWithTerm_19 : decode cX1_endsWithTerm 19 = .ok (.isub, 1) := by decide +kernel
theorem dX1_endsWithTerm_20 : decode cX1_endsWithTerm 20 = .ok (.invokevirtual 52, 3) := by decide +kernel
theorem dX1_endsWithTerm_23 : decode cX1_endsWithTerm 23 = .ok (.istore_n 2, 1) := by decide +kernel
theorem dX1_endsWithTerm_24 : decode cX1_endsWithTerm 24 = .ok (.aload_n 0, 1) := by decide +kernel
theorem dX1_endsWithTerm_25 : decode cX1_endsWithTerm 25 = .ok (.getfield 37, 3) := by decide +kernel
theorem dX1_endsWithTerm_28 : decode cX1_endsWithTerm 28 = .ok (.iload_n 1, 1) := by decide +kernel
theorem dX1_endsWithTerm_29 : decode cX1_endsWithTerm 29 = .ok (.iaload, 1) := by decide +kernel
theorem dX1_endsWithTerm_30 : decode cX1_endsWithTerm 30 = .ok (.ifCond .le 19, 3) := by decide +kernel
theorem dX1_endsWithTerm_33 : decode cX1_endsWithTerm 33 = .ok (.aload_n 0, 1) := by decide +kernel
theorem dX1_endsWithTerm_34 : decode cX1_endsWithTerm 34 = .ok (.getfield 18, 3) := by decide +kernel
theorem dX1_endsWithTerm_37 : decode cX1_endsWithTerm 37 = .ok (.iload_n 2, 1) := by decide +kernel
theorem dX1_endsWithTerm_38 : decode cX1_endsWithTerm 38 = .ok (.invokevirtual 48, 3) := by decide +kernel
theorem dX1_endsWithTerm_41 : decode cX1_endsWithTerm 41 = .ok (.iconst 3, 1) := by decide +kernel
theorem dX1_endsWithTerm_42 : decode cX1_endsWithTerm 42 = .ok (.if_icmp .eq 7, 3) := by decide +kernel
theorem dX1_endsWithTerm_45 : decode cX1_endsWithTerm 45 = .ok (.iconst 1, 1) := by decide +kernel
theorem dX1_endsWithTerm_46 : decode cX1_endsWithTerm 46 = .ok (.goto 4, 3) := by decide +kernel
theorem dX1_endsWithTerm_49 : decode cX1_endsWithTerm 49 = .ok (.iconst 0, 1) := by decide +kernel
theorem dX1_endsWithTerm_50 : decode cX1_endsWithTerm 50 = .ok (.ireturn, 1) := by decide +kernel
theorem dX1_canMerge_0 : decode cX1_canMerge 0 = .ok (.iconst 0, 1) := by decide +kernel
theorem dX1_canMerge_1 : decode cX1_canMerge 1 = .ok (.istore_n 3, 1) := by decide +kernel
theorem dX1_canMerge_2 : decode cX1_canMerge 2 = .ok (.iload_n 3, 1) := by decide +kernel
theorem dX1_canMerge_3 : decode cX1_canMerge 3 = .ok (.iload_n 1, 1) := by decide +kernel
theorem dX1_canMerge_4 : decode cX1_canMerge 4 = .ok (.if_icmp .ge 35, 3) := by decide +kernel
theorem dX1_canMerge_7 : decode cX1_canMerge 7 = .ok (.iload_n 3, 1) := by decide +kernel
theorem dX1_canMerge_8 : decode cX1_canMerge 8 = .ok (.bipush 10, 2) := by decide +kernel
theorem dX1_canMerge_10 : decode cX1_canMerge 10 = .ok (.if_icmp .ge 29, 3) := by decide +kernel
theorem dX1_canMerge_13 : decode cX1_canMerge 13 = .ok (.aload_n 0, 1) := by decide +kernel
theorem dX1_canMerge_14 : decode cX1_canMerge 14 = .ok (.iload_n 3, 1) := by decide +kernel
theorem dX1_canMerge_15 : decode cX1_canMerge 15 = .ok (.iload_n 1, 1) := by decide +kernel
theorem dX1_canMerge_16 : decode cX1_canMerge 16 = .ok (.invokevirtual 96, 3) := by decide +kernel
theorem dX1_canMerge_19 : decode cX1_canMerge 19 = .ok (.ifCond .eq 14, 3) := by decide +kernel
theorem dX1_canMerge_22 : decode cX1_canMerge 22 = .ok (.aload_n 2, 1) := by decide +kernel
theorem dX1_canMerge_23 : decode cX1_canMerge 23 = .ok (.iload_n 3, 1) := by decide +kernel
theorem dX1_canMerge_24 : decode cX1_canMerge 24 = .ok (.iload_n 1, 1) := by decide +kernel
theorem dX1_canMerge_25 : decode cX1_canMerge 25 = .ok (.invokevirtual 96, 3) := by decide +kernel
theorem dX1_canMerge_28 : decode cX1_canMerge 28 = .ok (.ifCond .eq 5, 3) := by decide +kernel
theorem dX1_canMerge_31 : decode cX1_canMerge 31 = .ok (.iconst 1, 1) := by decide +kernel
theorem dX1_canMerge_32 : decode cX1_canMerge 32 = .ok (.ireturn, 1) := by decide +kernel
theorem dX1_canMerge_33 : decode cX1_canMerge 33 = .ok (.iinc 3 1, 3) := by decide +kernel
theorem dX1_canMerge_36 : decode cX1_canMerge 36 = .ok (.goto (-34), 3) := by decide +kernel
theorem dX1_canMerge_39 : decode cX1_canMerge 39 = .ok (.iconst 0, 1) := by decide +kernel
theorem dX1_canMerge_40 : decode cX1_canMerge 40 = .ok (.ireturn, 1) := by decide +kernel
theorem dX1_sameFilling_0 : decode cX1_sameFilling 0 = .ok (.iload_n 1, 1) := by decide +kernel
theorem dX1_sameFilling_1 : decode cX1_sameFilling 1 = .ok (.bipush 9, 2) := by decide +kernel
theorem dX1_sameFilling_3 : decode cX1_sameFilling 3 = .ok (.invokestatic 78, 3) := by decide +kernel
theorem dX1_sameFilling_6 : decode cX1_sameFilling 6 = .ok (.ifCond .ne 52, 3) := by decide +kernel
theorem dX1_sameFilling_9 : decode cX1_sameFilling 9 = .ok (.iload_n 2, 1) := by decide +kernel
theorem dX1_sameFilling_10 : decode cX1_sameFilling 10 = .ok (.bipush 9, 2) := by decide +kernel
theorem dX1_sameFilling_12 : decode cX1_sameFilling 12 = .ok (.invokestatic 78, 3) := by decide +kernel
theorem dX1_sameFilling_15 : decode cX1_sameFilling 15 = .ok (.ifCond .ne 43, 3) := by decide +kernel
theorem dX1_sameFilling_18 : decode cX1_sameFilling 18 = .ok (.aload_n 0, 1) := by decide +kernel
theorem dX1_sameFilling_19 : decode cX1_sameFilling 19 = .ok (.getfield 28, 3) := by decide +kernel
theorem dX1_sameFilling_22 : decode cX1_sameFilling 22 = .ok (.iload_n 1, 1) := by decide +kernel
theorem dX1_sameFilling_23 : decode cX1_sameFilling 23 = .ok (.iaload, 1) := by decide +kernel
theorem dX1_sameFilling_24 : decode cX1_sameFilling 24 = .ok (.iconst (-1), 1) := by decide +kernel
theorem dX1_sameFilling_25 : decode cX1_sameFilling 25 = .ok (.if_icmp .eq 33, 3) := by decide +kernel
theorem dX1_sameFilling_28 : decode cX1_sameFilling 28 = .ok (.aload_n 0, 1) := by decide +kernel
theorem dX1_sameFilling_29 : decode cX1_sameFilling 29 = .ok (.getfield 28, 3) := by decide +kernel
theorem dX1_sameFilling_32 : decode cX1_sameFilling 32 = .ok (.iload_n 1, 1) := by decide +kernel
theorem dX1_sameFilling_33 : decode cX1_sameFilling 33 = .ok (.iaload, 1) := by decide +kernel
theorem dX1_sameFilling_34 : decode cX1_sameFilling 34 = .ok (.aload_n 0, 1) := by decide +kernel
theorem dX1_sameFilling_35 : decode cX1_sameFilling 35 = .ok (.getfield 28, 3) := by decide +kernel
theorem dX1_sameFilling_38 : decode cX1_sameFilling 38 = .ok (.iload_n 2, 1) := by decide +kernel
theorem dX1_sameFilling_39 : decode cX1_sameFilling 39 = .ok (.iaload, 1) := by decide +kernel
theorem dX1_sameFilling_40 : decode cX1_sameFilling 40 = .ok (.if_icmp .ne 18, 3) := by decide +kernel
theorem dX1_sameFilling_43 : decode cX1_sameFilling 43 = .ok (.aload_n 0, 1) := by decide +kernel
theorem dX1_sameFilling_44 : decode cX1_sameFilling 44 = .ok (.getfield 34, 3) := by decide +kernel
theorem dX1_sameFilling_47 : decode cX1_sameFilling 47 = .ok (.iload_n 1, 1) := by decide +kernel
theorem dX1_sameFilling_48 : decode cX1_sameFilling 48 = .ok (.iaload, 1) := by decide +kernel
theorem dX1_sameFilling_49 : decode cX1_sameFilling 49 = .ok (.aload_n 0, 1) := by decide +kernel
theorem dX1_sameFilling_50 : decode cX1_sameFilling 50 = .ok (.getfield 34, 3) := by decide +kernel
theorem dX1_sameFilling_53 : decode cX1_sameFilling 53 = .ok (.iload_n 2, 1) := by decide +kernel
theorem dX1_sameFilling_54 : decode cX1_sameFilling 54 = .ok (.iaload, 1) := by decide +kernel
theorem dX1_sameFilling_55 : decode cX1_sameFilling 55 = .ok (.if_icmp .eq 5, 3) := by decide +kernel
theorem dX1_sameFilling_58 : decode cX1_sameFilling 58 = .ok (.iconst 0, 1) := by decide +kernel
theorem dX1_sameFilling_59 : decode cX1_sameFilling 59 = .ok (.ireturn, 1) := by decide +kernel
theorem dX1_sameFilling_60 : decode cX1_sameFilling 60 = .ok (.aload_n 0, 1) := by decide +kernel
theorem dX1_sameFilling_61 : decode cX1_sameFilling 61 = .ok (.getfield 28, 3) := by decide +kernel
theorem dX1_sameFilling_64 : decode cX1_sameFilling 64 = .ok (.iload_n 1, 1) := by decide +kernel
theorem dX1_sameFilling_65 : decode cX1_sameFilling 65 = .ok (.iaload, 1) := by decide +kernel
theorem dX1_sameFilling_66 : decode cX1_sameFilling 66 = .ok (.iconst 2, 1) := by decide +kernel
theorem dX1_sameFilling_67 : decode cX1_sameFilling 67 = .ok (.if_icmp .ne 38, 3) := by decide +kernel
theorem dX1_sameFilling_70 : decode cX1_sameFilling 70 = .ok (.aload_n 0, 1) := by decide +kernel
theorem dX1_sameFilling_71 : decode cX1_sameFilling 71 = .ok (.getfield 18, 3) := by decide +kernel
theorem dX1_sameFilling_74 : decode cX1_sameFilling 74 = .ok (.aload_n 0, 1) := by decide +kernel
theorem dX1_sameFilling_75 : decode cX1_sameFilling 75 = .ok (.getfield 31, 3) := by decide +kernel
theorem dX1_sameFilling_78 : decode cX1_sameFilling 78 = .ok (.iload_n 1, 1) := by decide +kernel
theorem dX1_sameFilling_79 : decode cX1_sameFilling 79 = .ok (.iaload, 1) := by decide +kernel
theorem dX1_sameFilling_80 : decode cX1_sameFilling 80 = .ok (.invokevirtual 66, 3) := by decide +kernel
theorem dX1_sameFilling_83 : decode cX1_sameFilling 83 = .ok (.aload_n 0, 1) := by decide +kernel
theorem dX1_sameFilling_84 : decode cX1_sameFilling 84 = .ok (.getfield 18, 3) := by decide +kernel
theorem dX1_sameFilling_87 : decode cX1_sameFilling 87 = .ok (.aload_n 0, 1) := by decide +kernel
theorem dX1_sameFilling_88 : decode cX1_sameFilling 88 = .ok (.getfield 31, 3) := by decide +kernel
theorem dX1_sameFilling_91 : decode cX1_sameFilling 91 = .ok (.iload_n 2, 1) := by decide +kernel
theorem dX1_sameFilling_92 : decode cX1_sameFilling 92 = .ok (.iaload, 1) := by decide +kernel
theorem dX1_sameFilling_93 : decode cX1_sameFilling 93 = .ok (.invokevirtual 66, 3) := by decide +kernel
theorem dX1_sameFilling_96 : decode cX1_sameFilling 96 = .ok (.if_icmp .ne 7, 3) := by decide +kernel
theorem dX1_sameFilling_99 : decode cX1_sameFilling 99 = .ok (.iconst 1, 1) := by decide +kernel
theorem dX1_sameFilling_100 : decode cX1_sameFilling 100 = .ok (.goto 4, 3) := by decide +kernel
theorem dX1_sameFilling_103 : decode cX1_sameFilling 103 = .ok (.iconst 0, 1) := by decide +kernel
theorem dX1_sameFilling_104 : decode cX1_sameFilling 104 = .ok (.ireturn, 1) := by decide +kernel
theorem dX1_sameFilling_105 : decode cX1_sameFilling 105 = .ok (.aload_n 0, 1) := by decide +kernel
theorem dX1_sameFilling_106 : decode cX1_sameFilling 106 = .ok (.getfield 18, 3) := by decide +kernel
theorem dX1_sameFilling_109 : decode cX1_sameFilling 109 = .ok (.aload_n 0, 1) := by decide +kernel
theorem dX1_sameFilling_110 : decode cX1_sameFilling 110 = .ok (.getfield 31, 3) := by decide +kernel
theorem dX1_sameFilling_113 : decode cX1_sameFilling 113 = .ok (.iload_n 1, 1) := by decide +kernel
theorem dX1_sameFilling_114 : decode cX1_sameFilling 114 = .ok (.iaload, 1) := by decide +kernel
theorem dX1_sameFilling_115 : decode cX1_sameFilling 115 = .ok (.aload_n 0, 1) := by decide +kernel
theorem dX1_sameFilling_116 : decode cX1_sameFilling 116 = .ok (.getfield 18, 3) := by decide +kernel
theorem dX1_sameFilling_119 : decode cX1_sameFilling 119 = .ok (.aload_n 0, 1) := by decide +kernel
theorem dX1_sameFilling_120 : decode cX1_sameFilling 120 = .ok (.getfield 31, 3) := by decide +kernel
theorem dX1_sameFilling_123 : decode cX1_sameFilling 123 = .ok (.iload_n 2, 1) := by decide +kernel
theorem dX1_sameFilling_124 : decode cX1_sameFilling 124 = .ok (.iaload, 1) := by decide +kernel
theorem dX1_sameFilling_125 : decode cX1_sameFilling 125 = .ok (.aload_n 0, 1) := by decide +kernel
theorem dX1_sameFilling_126 : decode cX1_sameFilling 126 = .ok (.getfield 34, 3) := by decide +kernel
theorem dX1_sameFilling_129 : decode cX1_sameFilling 129 = .ok (.iload_n 1, 1) := by decide +kernel
theorem dX1_sameFilling_130 : decode cX1_sameFilling 130 = .ok (.iaload, 1) := by decide +kernel
theorem dX1_sameFilling_131 : decode cX1_sameFilling 131 = .ok (.invokevirtual 81, 3) := by decide +kernel
theorem dX1_sameFilling_134 : decode cX1_sameFilling 134 = .ok (.ifCond .ne 7, 3) := by decide +kernel
theorem dX1_sameFilling_137 : decode cX1_sameFilling 137 = .ok (.iconst 1, 1) := by decide +kernel
theorem dX1_sameFilling_138 : decode cX1_sameFilling 138 = .ok (.goto 4, 3) := by decide +kernel
theorem dX1_sameFilling_141 : decode cX1_sameFilling 141 = .ok (.iconst 0, 1) := by decide +kernel
theorem dX1_sameFilling_142 : decode cX1_sameFilling 142 = .ok (.ireturn, 1) := by decide +kernel
theorem dX1_canFill_0 : decode cX1_canFill 0 = .ok (.iconst 0, 1) := by decide +kernel
theorem dX1_canFill_1 : decode cX1_canFill 1 = .ok (.istore_n 2, 1) := by decide +kernel
theorem dX1_canFill_2 : decode cX1_canFill 2 = .ok (.iload_n 2, 1) := by decide +kernel
theorem dX1_canFill_3 : decode cX1_canFill 3 = .ok (.aload_n 1, 1) := by decide +kernel
theorem dX1_canFill_4 : decode cX1_canFill 4 = .ok (.getfield 40, 3) := by decide +kernel
theorem dX1_canFill_7 : decode cX1_canFill 7 = .ok (.if_icmp .ge 86, 3) := by decide +kernel
theorem dX1_canFill_10 : decode cX1_canFill 10 = .ok (.aload_n 1, 1) := by decide +kernel
theorem dX1_canFill_11 : decode cX1_canFill 11 = .ok (.iload_n 2, 1) := by decide +kernel
theorem dX1_canFill_12 : decode cX1_canFill 12 = .ok (.invokevirtual 48, 3) := by decide +kernel
theorem dX1_canFill_15 : decode cX1_canFill 15 = .ok (.istore_n 3, 1) := by decide +kernel
theorem dX1_canFill_16 : decode cX1_canFill 16 = .ok (.aload_n 1, 1) := by decide +kernel
theorem dX1_canFill_17 : decode cX1_canFill 17 = .ok (.iload_n 2, 1) := by decide +kernel
theorem dX1_canFill_18 : decode cX1_canFill 18 = .ok (.invokevirtual 75, 3) := by decide +kernel
theorem dX1_canFill_21 : decode cX1_canFill 21 = .ok (.istore 4, 2) := by decide +kernel
theorem dX1_canFill_23 : decode cX1_canFill 23 = .ok (.iload_n 3, 1) := by decide +kernel
theorem dX1_canFill_24 : decode cX1_canFill 24 = .ok (.ifCond .ne 6, 3) := by decide +kernel
theorem dX1_canFill_27 : decode cX1_canFill 27 = .ok (.goto 60, 3) := by decide +kernel
theorem dX1_canFill_30 : decode cX1_canFill 30 = .ok (.iload 4, 2) := by decide +kernel
theorem dX1_canFill_32 : decode cX1_canFill 32 = .ok (.bipush 9, 2) := by decide +kernel
theorem dX1_canFill_34 : decode cX1_canFill 34 = .ok (.invokestatic 78, 3) := by decide +kernel
theorem dX1_canFill_37 : decode cX1_canFill 37 = .ok (.ifCond .ne 14, 3) := by decide +kernel
theorem dX1_canFill_40 : decode cX1_canFill 40 = .ok (.aload_n 0, 1) := by decide +kernel
theorem dX1_canFill_41 : decode cX1_canFill 41 = .ok (.getfield 28, 3) := by decide +kernel
theorem dX1_canFill_44 : decode cX1_canFill 44 = .ok (.iload 4, 2) := by decide +kernel
theorem dX1_canFill_46 : decode cX1_canFill 46 = .ok (.iaload, 1) := by decide +kernel
theorem dX1_canFill_47 : decode cX1_canFill 47 = .ok (.iload_n 3, 1) := by decide +kernel
theorem dX1_canFill_48 : decode cX1_canFill 48 = .ok (.if_icmp .eq 5, 3) := by decide +kernel
theorem dX1_canFill_51 : decode cX1_canFill 51 = .ok (.iconst 0, 1) := by decide +kernel
theorem dX1_canFill_52 : decode cX1_canFill 52 = .ok (.ireturn, 1) := by decide +kernel
theorem dX1_canFill_53 : decode cX1_canFill 53 = .ok (.iload_n 3, 1) := by decide +kernel
theorem dX1_canFill_54 : decode cX1_canFill 54 = .ok (.iconst 2, 1) := by decide +kernel
theorem dX1_canFill_55 : decode cX1_canFill 55 = .ok (.if_icmp .ne 32, 3) := by decide +kernel
theorem dX1_canFill_58 : decode cX1_canFill 58 = .ok (.aload_n 0, 1) := by decide +kernel
theorem dX1_canFill_59 : decode cX1_canFill 59 = .ok (.getfield 18, 3) := by decide +kernel
theorem dX1_canFill_62 : decode cX1_canFill 62 = .ok (.aload_n 0, 1) := by decide +kernel
theorem dX1_canFill_63 : decode cX1_canFill 63 = .ok (.getfield 31, 3) := by decide +kernel
theorem dX1_canFill_66 : decode cX1_canFill 66 = .ok (.iload 4, 2) := by decide +kernel
theorem dX1_canFill_68 : decode cX1_canFill 68 = .ok (.iaload, 1) := by decide +kernel
theorem dX1_canFill_69 : decode cX1_canFill 69 = .ok (.invokevirtual 48, 3) := by decide +kernel
theorem dX1_canFill_72 : decode cX1_canFill 72 = .ok (.iconst 2, 1) := by decide +kernel
theorem dX1_canFill_73 : decode cX1_canFill 73 = .ok (.if_icmp .ne 14, 3) := by decide +kernel
theorem dX1_canFill_76 : decode cX1_canFill 76 = .ok (.aload_n 0, 1) := by decide +kernel
theorem dX1_canFill_77 : decode cX1_canFill 77 = .ok (.aload_n 1, 1) := by decide +kernel
theorem dX1_canFill_78 : decode cX1_canFill 78 = .ok (.iload_n 2, 1) := by decide +kernel
theorem dX1_canFill_79 : decode cX1_canFill 79 = .ok (.invokevirtual 99, 3) := by decide +kernel
theorem dX1_canFill_82 : decode cX1_canFill 82 = .ok (.ifCond .ne 5, 3) := by decide +kernel
theorem dX1_canFill_85 : decode cX1_canFill 85 = .ok (.iconst 0, 1) := by decide +kernel
theorem dX1_canFill_86 : decode cX1_canFill 86 = .ok (.ireturn, 1) := by decide +kernel
theorem dX1_canFill_87 : decode cX1_canFill 87 = .ok (.iinc 2 1, 3) := by decide +kernel
theorem dX1_canFill_90 : decode cX1_canFill 90 = .ok (.goto (-88), 3) := by decide +kernel
theorem dX1_canFill_93 : decode cX1_canFill 93 = .ok (.iconst 1, 1) := by decide +kernel
theorem dX1_canFill_94 : decode cX1_canFill 94 = .ok (.ireturn, 1) := by decide +kernel
theorem dX1_argumentsWhenFilled_0 : decode cX1_argumentsWhenFilled 0 = .ok (.aload_n 1, 1) := by decide +kernel
theorem dX1_argumentsWhenFilled_1 : decode cX1_argumentsWhenFilled 1 = .ok (.iload_n 2, 1) := by decide +kernel
theorem dX1_argumentsWhenFilled_2 : decode cX1_argumentsWhenFilled 2 = .ok (.invokevirtual 69, 3) := by decide +kernel
theorem dX1_argumentsWhenFilled_5 : decode cX1_argumentsWhenFilled 5 = .ok (.istore_n 3, 1) := by decide +kernel
theorem dX1_argumentsWhenFilled_6 : decode cX1_argumentsWhenFilled 6 = .ok (.aload_n 1, 1) := by decide +kernel
theorem dX1_argumentsWhenFilled_7 : decode cX1_argumentsWhenFilled 7 = .ok (.iload_n 2, 1) := by decide +kernel
theorem dX1_argumentsWhenFilled_8 : decode cX1_argumentsWhenFilled 8 = .ok (.invokevirtual 72, 3) := by decide +kernel
theorem dX1_argumentsWhenFilled_11 : decode cX1_argumentsWhenFilled 11 = .ok (.istore 4, 2) := by decide +kernel
theorem dX1_argumentsWhenFilled_13 : decode cX1_argumentsWhenFilled 13 = .ok (.iload 4, 2) := by decide +kernel
theorem dX1_argumentsWhenFilled_15 : decode cX1_argumentsWhenFilled 15 = .ok (.ifCond .ge 5, 3) := by decide +kernel
theorem dX1_argumentsWhenFilled_18 : decode cX1_argumentsWhenFilled 18 = .ok (.iload_n 3, 1) := by decide +kernel
theorem dX1_argumentsWhenFilled_19 : decode cX1_argumentsWhenFilled 19 = .ok (.ireturn, 1) := by decide +kernel
theorem dX1_argumentsWhenFilled_20 : decode cX1_argumentsWhenFilled 20 = .ok (.aload_n 1, 1) := by decide +kernel
theorem dX1_argumentsWhenFilled_21 : decode cX1_argumentsWhenFilled 21 = .ok (.aload_n 1, 1) := by decide +kernel
theorem dX1_argumentsWhenFilled_22 : decode cX1_argumentsWhenFilled 22 = .ok (.iload_n 2, 1) := by decide +kernel
theorem dX1_argumentsWhenFilled_23 : decode cX1_argumentsWhenFilled 23 = .ok (.iload 4, 2) := by decide +kernel
theorem dX1_argumentsWhenFilled_25 : decode cX1_argumentsWhenFilled 25 = .ok (.invokevirtual 52, 3) := by decide +kernel
theorem dX1_argumentsWhenFilled_28 : decode cX1_argumentsWhenFilled 28 = .ok (.invokevirtual 75, 3) := by decide +kernel
theorem dX1_argumentsWhenFilled_31 : decode cX1_argumentsWhenFilled 31 = .ok (.istore 5, 2) := by decide +kernel
theorem dX1_argumentsWhenFilled_33 : decode cX1_argumentsWhenFilled 33 = .ok (.iload_n 3, 1) := by decide +kernel
theorem dX1_argumentsWhenFilled_34 : decode cX1_argumentsWhenFilled 34 = .ok (.iconst 1, 1) := by decide +kernel
theorem dX1_argumentsWhenFilled_35 : decode cX1_argumentsWhenFilled 35 = .ok (.isub, 1) := by decide +kernel
theorem dX1_argumentsWhenFilled_36 : decode cX1_argumentsWhenFilled 36 = .ok (.iload 5, 2) := by decide +kernel
theorem dX1_argumentsWhenFilled_38 : decode cX1_argumentsWhenFilled 38 = .ok (.bipush 9, 2) := by decide +kernel
theorem dX1_argumentsWhenFilled_40 : decode cX1_argumentsWhenFilled 40 = .ok (.invokestatic 78, 3) := by decide +kernel
theorem dX1_argumentsWhenFilled_43 : decode cX1_argumentsWhenFilled 43 = .ok (.ifCond .ne 13, 3) := by decide +kernel
theorem dX1_argumentsWhenFilled_46 : decode cX1_argumentsWhenFilled 46 = .ok (.aload_n 0, 1) := by decide +kernel
theorem dX1_argumentsWhenFilled_47 : decode cX1_argumentsWhenFilled 47 = .ok (.getfield 37, 3) := by decide +kernel
theorem dX1_argumentsWhenFilled_50 : decode cX1_argumentsWhenFilled 50 = .ok (.iload 5, 2) := by decide +kernel
theorem dX1_argumentsWhenFilled_52 : decode cX1_argumentsWhenFilled 52 = .ok (.iaload, 1) := by decide +kernel
theorem dX1_argumentsWhenFilled_53 : decode cX1_argumentsWhenFilled 53 = .ok (.goto 4, 3) := by decide +kernel
theorem dX1_argumentsWhenFilled_56 : decode cX1_argumentsWhenFilled 56 = .ok (.iconst 0, 1) := by decide +kernel
theorem dX1_argumentsWhenFilled_57 : decode cX1_argumentsWhenFilled 57 = .ok (.iadd, 1) := by decide +kernel
theorem dX1_argumentsWhenFilled_58 : decode cX1_argumentsWhenFilled 58 = .ok (.ireturn, 1) := by decide +kernel
theorem dX1_rewritten_0 : decode cX1_rewritten 0 = .ok (.new 9, 3) := by decide +kernel
theorem dX1_rewritten_3 : decode cX1_rewritten 3 = .ok (.dup, 1) := by decide +kernel
theorem dX1_rewritten_4 : decode cX1_rewritten 4 = .ok (.invokespecial 11, 3) := by decide +kernel
theorem dX1_rewritten_7 : decode cX1_rewritten 7 = .ok (.astore_n 2, 1) := by decide +kernel
theorem dX1_rewritten_8 : decode cX1_rewritten 8 = .ok (.iconst 0, 1) := by decide +kernel
theorem dX1_rewritten_9 : decode cX1_rewritten 9 = .ok (.istore_n 3, 1) := by decide +kernel
theorem dX1_rewritten_10 : decode cX1_rewritten 10 = .ok (.iload_n 3, 1) := by decide +kernel
theorem dX1_rewritten_11 : decode cX1_rewritten 11 = .ok (.aload_n 1, 1) := by decide +kernel
theorem dX1_rewritten_12 : decode cX1_rewritten 12 = .ok (.getfield 40, 3) := by decide +kernel
theorem dX1_rewritten_15 : decode cX1_rewritten 15 = .ok (.if_icmp .ge 128, 3) := by decide +kernel
theorem dX1_rewritten_18 : decode cX1_rewritten 18 = .ok (.aload_n 1, 1) := by decide +kernel
theorem dX1_rewritten_19 : decode cX1_rewritten 19 = .ok (.iload_n 3, 1) := by decide +kernel
theorem dX1_rewritten_20 : decode cX1_rewritten 20 = .ok (.invokevirtual 75, 3) := by decide +kernel
theorem dX1_rewritten_23 : decode cX1_rewritten 23 = .ok (.istore 4, 2) := by decide +kernel
theorem dX1_rewritten_25 : decode cX1_rewritten 25 = .ok (.iconst 0, 1) := by decide +kernel
theorem dX1_rewritten_26 : decode cX1_rewritten 26 = .ok (.istore 5, 2) := by decide +kernel
theorem dX1_rewritten_28 : decode cX1_rewritten 28 = .ok (.aload_n 1, 1) := by decide +kernel
theorem dX1_rewritten_29 : decode cX1_rewritten 29 = .ok (.iload_n 3, 1) := by decide +kernel
theorem dX1_rewritten_30 : decode cX1_rewritten 30 = .ok (.invokevirtual 48, 3) := by decide +kernel
theorem dX1_rewritten_33 : decode cX1_rewritten 33 = .ok (.ifCond .ne 23, 3) := by decide +kernel
theorem dX1_rewritten_36 : decode cX1_rewritten 36 = .ok (.aload_n 2, 1) := by decide +kernel
theorem dX1_rewritten_37 : decode cX1_rewritten 37 = .ok (.aload_n 1, 1) := by decide +kernel
theorem dX1_rewritten_38 : decode cX1_rewritten 38 = .ok (.iload_n 3, 1) := by decide +kernel
theorem dX1_rewritten_39 : decode cX1_rewritten 39 = .ok (.invokevirtual 66, 3) := by decide +kernel
theorem dX1_rewritten_42 : decode cX1_rewritten 42 = .ok (.aload_n 0, 1) := by decide +kernel
theorem dX1_rewritten_43 : decode cX1_rewritten 43 = .ok (.aload_n 1, 1) := by decide +kernel
theorem dX1_rewritten_44 : decode cX1_rewritten 44 = .ok (.iload_n 3, 1) := by decide +kernel
theorem dX1_rewritten_45 : decode cX1_rewritten 45 = .ok (.invokevirtual 99, 3) := by decide +kernel
theorem dX1_rewritten_48 : decode cX1_rewritten 48 = .ok (.invokevirtual 103, 3) := by decide +kernel
theorem dX1_rewritten_51 : decode cX1_rewritten 51 = .ok (.istore 5, 2) := by decide +kernel
theorem dX1_rewritten_53 : decode cX1_rewritten 53 = .ok (.goto 77, 3) := by decide +kernel
theorem dX1_rewritten_56 : decode cX1_rewritten 56 = .ok (.iload 4, 2) := by decide +kernel
theorem dX1_rewritten_58 : decode cX1_rewritten 58 = .ok (.bipush 9, 2) := by decide +kernel
theorem dX1_rewritten_60 : decode cX1_rewritten 60 = .ok (.invokestatic 78, 3) := by decide +kernel
theorem dX1_rewritten_63 : decode cX1_rewritten 63 = .ok (.ifCond .eq 5, 3) := by decide +kernel
theorem dX1_rewritten_66 : decode cX1_rewritten 66 = .ok (.aconst_null, 1) := by decide +kernel
theorem dX1_rewritten_67 : decode cX1_rewritten 67 = .ok (.areturn, 1) := by decide +kernel
theorem dX1_rewritten_68 : decode cX1_rewritten 68 = .ok (.aload_n 1, 1) := by decide +kernel
theorem dX1_rewritten_69 : decode cX1_rewritten 69 = .ok (.iload_n 3, 1) := by decide +kernel
theorem dX1_rewritten_70 : decode cX1_rewritten 70 = .ok (.invokevirtual 48, 3) := by decide +kernel
theorem dX1_rewritten_73 : decode cX1_rewritten 73 = .ok (.iconst 2, 1) := by decide +kernel
theorem dX1_rewritten_74 : decode cX1_rewritten 74 = .ok (.if_icmp .ne 32, 3) := by decide +kernel
theorem dX1_rewritten_77 : decode cX1_rewritten 77 = .ok (.aload_n 2, 1) := by decide +kernel
theorem dX1_rewritten_78 : decode cX1_rewritten 78 = .ok (.aload_n 0, 1) := by decide +kernel
theorem dX1_rewritten_79 : decode cX1_rewritten 79 = .ok (.getfield 18, 3) := by decide +kernel
theorem dX1_rewritten_82 : decode cX1_rewritten 82 = .ok (.aload_n 0, 1) := by decide +kernel
theorem dX1_rewritten_83 : decode cX1_rewritten 83 = .ok (.getfield 31, 3) := by decide +kernel
theorem dX1_rewritten_86 : decode cX1_rewritten 86 = .ok (.iload 4, 2) := by decide +kernel
theorem dX1_rewritten_88 : decode cX1_rewritten 88 = .ok (.iaload, 1) := by decide +kernel
theorem dX1_rewritten_89 : decode cX1_rewritten 89 = .ok (.invokevirtual 66, 3) := by decide +kernel
theorem dX1_rewritten_92 : decode cX1_rewritten 92 = .ok (.aload_n 0, 1) := by decide +kernel
theorem dX1_rewritten_93 : decode cX1_rewritten 93 = .ok (.aload_n 1, 1) := by decide +kernel
theorem dX1_rewritten_94 : decode cX1_rewritten 94 = .ok (.iload_n 3, 1) := by decide +kernel
theorem dX1_rewritten_95 : decode cX1_rewritten 95 = .ok (.invokevirtual 99, 3) := by decide +kernel
theorem dX1_rewritten_98 : decode cX1_rewritten 98 = .ok (.invokevirtual 103, 3) := by decide +kernel
theorem dX1_rewritten_101 : decode cX1_rewritten 101 = .ok (.istore 5, 2) := by decide +kernel
theorem dX1_rewritten_103 : decode cX1_rewritten 103 = .ok (.goto 27, 3) := by decide +kernel
theorem dX1_rewritten_106 : decode cX1_rewritten 106 = .ok (.aload_n 2, 1) := by decide +kernel
theorem dX1_rewritten_107 : decode cX1_rewritten 107 = .ok (.aload_n 0, 1) := by decide +kernel
theorem dX1_rewritten_108 : decode cX1_rewritten 108 = .ok (.getfield 18, 3) := by decide +kernel
theorem dX1_rewritten_111 : decode cX1_rewritten 111 = .ok (.aload_n 0, 1) := by decide +kernel
theorem dX1_rewritten_112 : decode cX1_rewritten 112 = .ok (.getfield 31, 3) := by decide +kernel
theorem dX1_rewritten_115 : decode cX1_rewritten 115 = .ok (.iload 4, 2) := by decide +kernel
theorem dX1_rewritten_117 : decode cX1_rewritten 117 = .ok (.iaload, 1) := by decide +kernel
theorem dX1_rewritten_118 : decode cX1_rewritten 118 = .ok (.aload_n 0, 1) := by decide +kernel
theorem dX1_rewritten_119 : decode cX1_rewritten 119 = .ok (.getfield 34, 3) := by decide +kernel
theorem dX1_rewritten_122 : decode cX1_rewritten 122 = .ok (.iload 4, 2) := by decide +kernel
theorem dX1_rewritten_124 : decode cX1_rewritten 124 = .ok (.iaload, 1) := by decide +kernel
theorem dX1_rewritten_125 : decode cX1_rewritten 125 = .ok (.invokevirtual 106, 3) := by decide +kernel
theorem dX1_rewritten_128 : decode cX1_rewritten 128 = .ok (.istore 5, 2) := by decide +kernel
theorem dX1_rewritten_130 : decode cX1_rewritten 130 = .ok (.iload 5, 2) := by decide +kernel
theorem dX1_rewritten_132 : decode cX1_rewritten 132 = .ok (.ifCond .ne 5, 3) := by decide +kernel
theorem dX1_rewritten_135 : decode cX1_rewritten 135 = .ok (.aconst_null, 1) := by decide +kernel
theorem dX1_rewritten_136 : decode cX1_rewritten 136 = .ok (.areturn, 1) := by decide +kernel
theorem dX1_rewritten_137 : decode cX1_rewritten 137 = .ok (.iinc 3 1, 3) := by decide +kernel
theorem dX1_rewritten_140 : decode cX1_rewritten 140 = .ok (.goto (-130), 3) := by decide +kernel
theorem dX1_rewritten_143 : decode cX1_rewritten 143 = .ok (.aload_n 2, 1) := by decide +kernel
theorem dX1_rewritten_144 : decode cX1_rewritten 144 = .ok (.invokevirtual 110, 3) := by decide +kernel
theorem dX1_rewritten_147 : decode cX1_rewritten 147 = .ok (.aload_n 2, 1) := by decide +kernel
theorem dX1_rewritten_148 : decode cX1_rewritten 148 = .ok (.invokevirtual 113, 3) := by decide +kernel
theorem dX1_rewritten_151 : decode cX1_rewritten 151 = .ok (.bipush 7, 2) := by decide +kernel
theorem dX1_rewritten_153 : decode cX1_rewritten 153 = .ok (.if_icmp .gt 7, 3) := by decide +kernel
theorem dX1_rewritten_156 : decode cX1_rewritten 156 = .ok (.aload_n 2, 1) := by decide +kernel
theorem dX1_rewritten_157 : decode cX1_rewritten 157 = .ok (.goto 4, 3) := by decide +kernel
theorem dX1_rewritten_160 : decode cX1_rewritten 160 = .ok (.aconst_null, 1) := by decide +kernel
theorem dX1_rewritten_161 : decode cX1_rewritten 161 = .ok (.areturn, 1) := by decide +kernel
theorem dX2_init_0 : decode cX2_init 0 = .ok (.aload_n 0, 1) := by decide +kernel
theorem dX2_init_1 : decode cX2_init 1 = .ok (.invokespecial 3, 3) := by decide +kernel
theorem dX2_init_4 : decode cX2_init 4 = .ok (.aload_n 0, 1) := by decide +kernel
theorem dX2_init_5 : decode cX2_init 5 = .ok (.iconst 0, 1) := by decide +kernel
theorem dX2_init_6 : decode cX2_init 6 = .ok (.newarray .int, 2) := by decide +kernel
theorem dX2_init_8 : decode cX2_init 8 = .ok (.putfield 9, 3) := by decide +kernel
theorem dX2_init_11 : decode cX2_init 11 = .ok (.aload_n 0, 1) := by decide +kernel
theorem dX2_init_12 : decode cX2_init 12 = .ok (.iconst 0, 1) := by decide +kernel
theorem dX2_init_13 : decode cX2_init 13 = .ok (.putfield 15, 3) := by decide +kernel
theorem dX2_init_16 : decode cX2_init 16 = .ok (.aload_n 0, 1) := by decide +kernel
theorem dX2_init_17 : decode cX2_init 17 = .ok (.iconst 0, 1) := by decide +kernel
theorem dX2_init_18 : decode cX2_init 18 = .ok (.putfield 19, 3) := by decide +kernel
theorem dX2_init_21 : decode cX2_init 21 = .ok (.aload_n 0, 1) := by decide +kernel
theorem dX2_init_22 : decode cX2_init 22 = .ok (.bipush (-9), 2) := by decide +kernel
theorem dX2_init_24 : decode cX2_init 24 = .ok (.putfield 22, 3) := by decide +kernel
theorem dX2_init_27 : decode cX2_init 27 = .ok (.aload_n 0, 1) := by decide +kernel
theorem dX2_init_28 : decode cX2_init 28 = .ok (.new 25, 3) := by decide +kernel
theorem dX2_init_31 : decode cX2_init 31 = .ok (.dup, 1) := by decide +kernel
theorem dX2_init_32 : decode cX2_init 32 = .ok (.invokespecial 27, 3) := by decide +kernel
theorem dX2_init_35 : decode cX2_init 35 = .ok (.putfield 28, 3) := by decide +kernel
theorem dX2_init_38 : decode cX2_init 38 = .ok (.aload_n 0, 1) := by decide +kernel
theorem dX2_init_39 : decode cX2_init 39 = .ok (.iconst 0, 1) := by decide +kernel
theorem dX2_init_40 : decode cX2_init 40 = .ok (.putfield 32, 3) := by decide +kernel
theorem dX2_init_43 : decode cX2_init 43 = .ok (.aload_n 0, 1) := by decide +kernel
theorem dX2_init_44 : decode cX2_init 44 = .ok (.bipush 8, 2) := by decide +kernel
theorem dX2_init_46 : decode cX2_init 46 = .ok (.newarray .int, 2) := by decide +kernel
theorem dX2_init_48 : decode cX2_init 48 = .ok (.putfield 35, 3) := by decide +kernel
theorem dX2_init_51 : decode cX2_init 51 = .ok (.aload_n 0, 1) := by decide +kernel
theorem dX2_init_52 : decode cX2_init 52 = .ok (.bipush 8, 2) := by decide +kernel
theorem dX2_init_54 : decode cX2_init 54 = .ok (.newarray .boolean, 2) := by decide +kernel
theorem dX2_init_56 : decode cX2_init 56 = .ok (.putfield 38, 3) := by decide +kernel
theorem dX2_init_59 : decode cX2_init 59 = .ok (.aload_n 0, 1) := by decide +kernel
theorem dX2_init_60 : decode cX2_init 60 = .ok (.bipush 10, 2) := by decide +kernel
theorem dX2_init_62 : decode cX2_init 62 = .ok (.newarray .int, 2) := by decide +kernel
theorem dX2_init_64 : decode cX2_init 64 = .ok (.putfield 42, 3) := by decide +kernel
theorem dX2_init_67 : decode cX2_init 67 = .ok (.return_, 1) := by decide +kernel
theorem dX2_read_0 : decode cX2_read 0 = .ok (.aload_n 0, 1) := by decide +kernel
theorem dX2_read_1 : decode cX2_read 1 = .ok (.aload_n 1, 1) := by decide +kernel
theorem dX2_read_2 : decode cX2_read 2 = .ok (.putfield 9, 3) := by decide +kernel
theorem dX2_read_5 : decode cX2_read 5 = .ok (.aload_n 0, 1) := by decide +kernel
theorem dX2_read_6 : decode cX2_read 6 = .ok (.iload_n 2, 1) := by decide +kernel
theorem dX2_read_7 : decode cX2_read 7 = .ok (.putfield 15, 3) := by decide +kernel
theorem dX2_read_10 : decode cX2_read 10 = .ok (.aload_n 0, 1) := by decide +kernel
theorem dX2_read_11 : decode cX2_read 11 = .ok (.iconst 0, 1) := by decide +kernel
theorem dX2_read_12 : decode cX2_read 12 = .ok (.putfield 19, 3) := by decide +kernel
theorem dX2_read_15 : decode cX2_read 15 = .ok (.aload_n 0, 1) := by decide +kernel
theorem dX2_read_16 : decode cX2_read 16 = .ok (.bipush (-9), 2) := by decide +kernel
theorem dX2_read_18 : decode cX2_read 18 = .ok (.putfield 22, 3) := by decide +kernel
theorem dX2_read_21 : decode cX2_read 21 = .ok (.aload_n 0, 1) := by decide +kernel
theorem dX2_read_22 : decode cX2_read 22 = .ok (.iconst 0, 1) := by decide +kernel
theorem dX2_read_23 : decode cX2_read 23 = .ok (.putfield 32, 3) := by decide +kernel
theorem dX2_read_26 : decode cX2_read 26 = .ok (.aload_n 0, 1) := by decide +kernel
theorem dX2_read_27 : decode cX2_read 27 = .ok (.new 25, 3) := by decide +kernel
theorem dX2_read_30 : decode cX2_read 30 = .ok (.dup, 1) := by decide +kernel
theorem dX2_read_31 : decode cX2_read 31 = .ok (.invokespecial 27, 3) := by decide +kernel
theorem dX2_read_34 : decode cX2_read 34 = .ok (.putfield 28, 3) := by decide +kernel
theorem dX2_read_37 : decode cX2_read 37 = .ok (.iconst 0, 1) := by decide +kernel
theorem dX2_read_38 : decode cX2_read 38 = .ok (.istore_n 3, 1) := by decide +kernel
theorem dX2_read_39 : decode cX2_read 39 = .ok (.iload_n 3, 1) := by decide +kernel
theorem dX2_read_40 : decode cX2_read 40 = .ok (.aload_n 0, 1) := by decide +kernel
theorem dX2_read_41 : decode cX2_read 41 = .ok (.getfield 42, 3) := by decide +kernel
theorem dX2_read_44 : decode cX2_read 44 = .ok (.arraylength, 1) := by decide +kernel
theorem dX2_read_45 : decode cX2_read 45 = .ok (.if_icmp .ge 16, 3) := by decide +kernel
theorem dX2_read_48 : decode cX2_read 48 = .ok (.aload_n 0, 1) := by decide +kernel
theorem dX2_read_49 : decode cX2_read 49 = .ok (.getfield 42, 3) := by decide +kernel
theorem dX2_read_52 : decode cX2_read 52 = .ok (.iload_n 3, 1) := by decide +kernel
theorem dX2_read_53 : decode cX2_read 53 = .ok (.iconst (-1), 1) := by decide +kernel
theorem dX2_read_54 : decode cX2_read 54 = .ok (.iastore, 1) := by decide +kernel
theorem dX2_read_55 : decode cX2_read 55 = .ok (.iinc 3 1, 3) := by decide +kernel
theorem dX2_read_58 : decode cX2_read 58 = .ok (.goto (-19), 3) := by decide +kernel
theorem dX2_read_61 : decode cX2_read 61 = .ok (.iconst 0, 1) := by decide +kernel
theorem dX2_read_62 : decode cX2_read 62 = .ok (.istore_n 3, 1) := by decide +kernel
theorem dX2_read_63 : decode cX2_read 63 = .ok (.iload_n 3, 1) := by decide +kernel
theorem dX2_read_64 : decode cX2_read 64 = .ok (.iload_n 2, 1) := by decide +kernel
theorem dX2_read_65 : decode cX2_read 65 = .ok (.if_icmp .gt 64, 3) := by decide +kernel
theorem dX2_read_68 : decode cX2_read 68 = .ok (.aload_n 0, 1) := by decide +kernel
theorem dX2_read_69 : decode cX2_read 69 = .ok (.invokevirtual 45, 3) := by decide +kernel
theorem dX2_read_72 : decode cX2_read 72 = .ok (.ifCond .ne 5, 3) := by decide +kernel
theorem dX2_read_75 : decode cX2_read 75 = .ok (.aconst_null, 1) := by decide +kernel
theorem dX2_read_76 : decode cX2_read 76 = .ok (.areturn, 1) := by decide +kernel
theorem dX2_read_77 : decode cX2_read 77 = .ok (.aload_n 0, 1) := by decide +kernel
theorem dX2_read_78 : decode cX2_read 78 = .ok (.invokevirtual 49, 3) := by decide +kernel
theorem dX2_read_81 : decode cX2_read 81 = .ok (.ifCond .eq 6, 3) := by decide +kernel
theorem dX2_read_84 : decode cX2_read 84 = .ok (.goto 39, 3) := by decide +kernel
theorem dX2_read_87 : decode cX2_read 87 = .ok (.aload_n 0, 1) := by decide +kernel
theorem dX2_read_88 : decode cX2_read 88 = .ok (.invokevirtual 52, 3) := by decide +kernel
theorem dX2_read_91 : decode cX2_read 91 = .ok (.aload_n 0, 1) := by decide +kernel
theorem dX2_read_92 : decode cX2_read 92 = .ok (.getfield 32, 3) := by decide +kernel
theorem dX2_read_95 : decode cX2_read 95 = .ok (.ifCond .ne 19, 3) := by decide +kernel
theorem dX2_read_98 : decode cX2_read 98 = .ok (.aload_n 0, 1) := by decide +kernel
theorem dX2_read_99 : decode cX2_read 99 = .ok (.invokevirtual 55, 3) := by decide +kernel
theorem dX2_read_102 : decode cX2_read 102 = .ok (.ifCond .eq 10, 3) := by decide +kernel
theorem dX2_read_105 : decode cX2_read 105 = .ok (.aload_n 0, 1) := by decide +kernel
theorem dX2_read_106 : decode cX2_read 106 = .ok (.getfield 28, 3) := by decide +kernel
theorem dX2_read_109 : decode cX2_read 109 = .ok (.goto 4, 3) := by decide +kernel
theorem dX2_read_112 : decode cX2_read 112 = .ok (.aconst_null, 1) := by decide +kernel
theorem dX2_read_113 : decode cX2_read 113 = .ok (.areturn, 1) := by decide +kernel
theorem dX2_read_114 : decode cX2_read 114 = .ok (.aload_n 0, 1) := by decide +kernel
theorem dX2_read_115 : decode cX2_read 115 = .ok (.invokevirtual 58, 3) := by decide +kernel
theorem dX2_read_118 : decode cX2_read 118 = .ok (.ifCond .ne 5, 3) := by decide +kernel
theorem dX2_read_121 : decode cX2_read 121 = .ok (.aconst_null, 1) := by decide +kernel
theorem dX2_read_122 : decode cX2_read 122 = .ok (.areturn, 1) := by decide +kernel
theorem dX2_read_123 : decode cX2_read 123 = .ok (.iinc 3 1, 3) := by decide +kernel
theorem dX2_read_126 : decode cX2_read 126 = .ok (.goto (-63), 3) := by decide +kernel
theorem dX2_read_129 : decode cX2_read 129 = .ok (.aconst_null, 1) := by decide +kernel
theorem dX2_read_130 : decode cX2_read 130 = .ok (.areturn, 1) := by decide +kernel
theorem dX2_byteAt_0 : decode cX2_byteAt 0 = .ok (.iload_n 1, 1) := by decide +kernel
theorem dX2_byteAt_1 : decode cX2_byteAt 1 = .ok (.ifCond .lt 29, 3) := by decide +kernel
theorem dX2_byteAt_4 : decode cX2_byteAt 4 = .ok (.iload_n 1, 1) := by decide +kernel
theorem dX2_byteAt_5 : decode cX2_byteAt 5 = .ok (.aload_n 0, 1) := by decide +kernel
theorem dX2_byteAt_6 : decode cX2_byteAt 6 = .ok (.getfield 15, 3) := by decide +kernel
theorem dX2_byteAt_9 : decode cX2_byteAt 9 = .ok (.if_icmp .ge 21, 3) := by decide +kernel
theorem dX2_byteAt_12 : decode cX2_byteAt 12 = .ok (.iload_n 1, 1) := by decide +kernel
theorem dX2_byteAt_13 : decode cX2_byteAt 13 = .ok (.aload_n 0, 1) := by decide +kernel
theorem dX2_byteAt_14 : decode cX2_byteAt 14 = .ok (.getfield 9, 3) := by decide +kernel
theorem dX2_byteAt_17 : decode cX2_byteAt 17 = .ok (.arraylength, 1) := by decide +kernel
theorem dX2_byteAt_18 : decode cX2_byteAt 18 = .ok (.if_icmp .ge 12, 3) := by decide +kernel
theorem dX2_byteAt_21 : decode cX2_byteAt 21 = .ok (.aload_n 0, 1) := by decide +kernel
theorem dX2_byteAt_22 : decode cX2_byteAt 22 = .ok (.getfield 9, 3) := by decide +kernel
theorem dX2_byteAt_25 : decode cX2_byteAt 25 = .ok (.iload_n 1, 1) := by decide +kernel
theorem dX2_byteAt_26 : decode cX2_byteAt 26 = .ok (.iaload, 1) := by decide +kernel
theorem dX2_byteAt_27 : decode cX2_byteAt 27 = .ok (.goto 4, 3) := by decide +kernel
theorem dX2_byteAt_30 : decode cX2_byteAt 30 = .ok (.iconst 0, 1) := by decide +kernel
theorem dX2_byteAt_31 : decode cX2_byteAt 31 = .ok (.ireturn, 1) := by decide +kernel
theorem dX2_faulty_0 : decode cX2_faulty 0 = .ok (.aload_n 0, 1) := by decide +kernel
theorem dX2_faulty_1 : decode cX2_faulty 1 = .ok (.iload_n 1, 1) := by decide +kernel
theorem dX2_faulty_2 : decode cX2_faulty 2 = .ok (.putfield 22, 3) := by decide +kernel
theorem dX2_faulty_5 : decode cX2_faulty 5 = .ok (.iconst 0, 1) := by decide +kernel
theorem dX2_faulty_6 : decode cX2_faulty 6 = .ok (.ireturn, 1) := by decide +kernel
theorem dX2_readHead_0 : decode cX2_readHead 0 = .ok (.aload_n 0, 1) := by decide +kernel
theorem dX2_readHead_1 : decode cX2_readHead 1 = .ok (.aload_n 0, 1) := by decide +kernel
theorem dX2_readHead_2 : decode cX2_readHead 2 = .ok (.getfield 19, 3) := by decide +kernel
theorem dX2_readHead_5 : decode cX2_readHead 5 = .ok (.invokevirtual 61, 3) := by decide +kernel
theorem dX2_readHead_8 : decode cX2_readHead 8 = .ok (.istore_n 1, 1) := by decide +kernel
theorem dX2_readHead_9 : decode cX2_readHead 9 = .ok (.iload_n 1, 1) := by decide +kernel
theorem dX2_readHead_10 : decode cX2_readHead 10 = .ok (.bipush 97, 2) := by decide +kernel
theorem dX2_readHead_12 : decode cX2_readHead 12 = .ok (.if_icmp .lt 13, 3) := by decide +kernel
theorem dX2_readHead_15 : decode cX2_readHead 15 = .ok (.iload_n 1, 1) := by decide +kernel
theorem dX2_readHead_16 : decode cX2_readHead 16 = .ok (.bipush 110, 2) := by decide +kernel
theorem dX2_readHead_18 : decode cX2_readHead 18 = .ok (.if_icmp .ge 7, 3) := by decide +kernel
theorem dX2_readHead_21 : decode cX2_readHead 21 = .ok (.iconst 1, 1) := by decide +kernel
theorem dX2_readHead_22 : decode cX2_readHead 22 = .ok (.goto 4, 3) := by decide +kernel
theorem dX2_readHead_25 : decode cX2_readHead 25 = .ok (.iconst 0, 1) := by decide +kernel
theorem dX2_readHead_26 : decode cX2_readHead 26 = .ok (.istore_n 2, 1) := by decide +kernel
theorem dX2_readHead_27 : decode cX2_readHead 27 = .ok (.iload_n 1, 1) := by decide +kernel
theorem dX2_readHead_28 : decode cX2_readHead 28 = .ok (.bipush 48, 2) := by decide +kernel
theorem dX2_readHead_30 : decode cX2_readHead 30 = .ok (.if_icmp .lt 13, 3) := by decide +kernel
theorem dX2_readHead_33 : decode cX2_readHead 33 = .ok (.iload_n 1, 1) := by decide +kernel
theorem dX2_readHead_34 : decode cX2_readHead 34 = .ok (.bipush 57, 2) := by decide +kernel
theorem dX2_readHead_36 : decode cX2_readHead 36 = .ok (.if_icmp .gt 7, 3) := by decide +kernel
theorem dX2_readHead_39 : decode cX2_readHead 39 = .ok (.iconst 1, 1) := by decide +kernel
theorem dX2_readHead_40 : decode cX2_readHead 40 = .ok (.goto 4, 3) := by decide +kernel
theorem dX2_readHead_43 : decode cX2_readHead 43 = .ok (.iconst 0, 1) := by decide +kernel
theorem dX2_readHead_44 : decode cX2_readHead 44 = .ok (.istore_n 3, 1) := by decide +kernel
theorem dX2_readHead_45 : decode cX2_readHead 45 = .ok (.iload_n 2, 1) := by decide +kernel
theorem dX2_readHead_46 : decode cX2_readHead 46 = .ok (.ifCond .ne 13, 3) := by decide +kernel
theorem dX2_readHead_49 : decode cX2_readHead 49 = .ok (.iload_n 3, 1) := by decide +kernel
theorem dX2_readHead_50 : decode cX2_readHead 50 = .ok (.ifCond .ne 9, 3) := by decide +kernel
theorem dX2_readHead_53 : decode cX2_readHead 53 = .ok (.aload_n 0, 1) := by decide +kernel
theorem dX2_readHead_54 : decode cX2_readHead 54 = .ok (.iconst 1, 1) := by decide +kernel
theorem dX2_readHead_55 : decode cX2_readHead 55 = .ok (.invokevirtual 65, 3) := by decide +kernel
theorem dX2_readHead_58 : decode cX2_readHead 58 = .ok (.ireturn, 1) := by decide +kernel
theorem dX2_readHead_59 : decode cX2_readHead 59 = .ok (.aload_n 0, 1) := by decide +kernel
theorem dX2_readHead_60 : decode cX2_readHead 60 = .ok (.getfield 32, 3) := by decide +kernel
theorem dX2_readHead_63 : decode cX2_readHead 63 = .ok (.ifCond .le 29, 3) := by decide +kernel
theorem dX2_readHead_66 : decode cX2_readHead 66 = .ok (.aload_n 0, 1) := by decide +kernel
theorem dX2_readHead_67 : decode cX2_readHead 67 = .ok (.getfield 32, 3) := by decide +kernel
theorem dX2_readHead_70 : decode cX2_readHead 70 = .ok (.aload_n 0, 1) := by decide +kernel
theorem dX2_readHead_71 : decode cX2_readHead 71 = .ok (.getfield 35, 3) := by decide +kernel
theorem dX2_readHead_74 : decode cX2_readHead 74 = .ok (.arraylength, 1) := by decide +kernel
theorem dX2_readHead_75 : decode cX2_readHead 75 = .ok (.if_icmp .gt 17, 3) := by decide +kernel
theorem dX2_readHead_78 : decode cX2_readHead 78 = .ok (.aload_n 0, 1) := by decide +kernel
theorem dX2_readHead_79 : decode cX2_readHead 79 = .ok (.getfield 35, 3) := by decide +kernel
theorem dX2_readHead_82 : decode cX2_readHead 82 = .ok (.aload_n 0, 1) := by decide +kernel
theorem dX2_readHead_83 : decode cX2_readHead 83 = .ok (.getfield 32, 3) := by decide +kernel
theorem dX2_readHead_86 : decode cX2_readHead 86 = .ok (.iconst 1, 1) := by decide +kernel
theorem dX2_readHead_87 : decode cX2_readHead 87 = .ok (.isub, 1) := by decide +kernel
theorem dX2_readHead_88 : decode cX2_readHead 88 = .ok (.iaload, 1) := by decide +kernel
theorem dX2_readHead_89 : decode cX2_readHead 89 = .ok (.goto 4, 3) := by decide +kernel
theorem dX2_readHead_92 : decode cX2_readHead 92 = .ok (.iconst (-1), 1) := by decide +kernel
theorem dX2_readHead_93 : decode cX2_readHead 93 = .ok (.istore 4, 2) := by decide +kernel
theorem dX2_readHead_95 : decode cX2_readHead 95 = .ok (.iload 4, 2) := by decide +kernel
theorem dX2_readHead_97 : decode cX2_readHead 97 = .ok (.ifCond .lt 23, 3) := by decide +kernel
theorem dX2_readHead_100 : decode cX2_readHead 100 = .ok (.aload_n 0, 1) := by decide +kernel
theorem dX2_readHead_101 : decode cX2_readHead 101 = .ok (.getfield 28, 3) := by decide +kernel
theorem dX2_readHead_104 : decode cX2_readHead 104 = .ok (.iload 4, 2) := by decide +kernel
theorem dX2_readHead_106 : decode cX2_readHead 106 = .ok (.invokevirtual 69, 3) := by decide +kernel
theorem dX2_readHead_109 : decode cX2_readHead 109 = .ok (.bipush 8, 2) := by decide +kernel
theorem dX2_readHead_111 : decode cX2_readHead 111 = .ok (.if_icmp .lt 9, 3) := by decide +kernel
theorem dX2_readHead_114 : decode cX2_readHead 114 = .ok (.aload_n 0, 1) := by decide +kernel
theorem dX2_readHead_115 : decode cX2_readHead 115 = .ok (.iconst 2, 1) := by decide +kernel
theorem dX2_readHead_116 : decode cX2_readHead 116 = .ok (.invokevirtual 65, 3) := by decide +kernel
theorem dX2_readHead_119 : decode cX2_readHead 119 = .ok (.ireturn, 1) := by decide +kernel
theorem dX2_readHead_120 : decode cX2_readHead 120 = .ok (.aload_n 0, 1) := by decide +kernel
theorem dX2_readHead_121 : decode cX2_readHead 121 = .ok (.getfield 28, 3) := by decide +kernel
theorem dX2_readHead_124 : decode cX2_readHead 124 = .ok (.getfield 72, 3) := by decide +kernel
theorem dX2_readHead_127 : decode cX2_readHead 127 = .ok (.bipush 32, 2) := by decide +kernel
theorem dX2_readHead_129 : decode cX2_readHead 129 = .ok (.if_icmp .ge 12, 3) := by decide +kernel
theorem dX2_readHead_132 : decode cX2_readHead 132 = .ok (.aload_n 0, 1) := by decide +kernel
theorem dX2_readHead_133 : decode cX2_readHead 133 = .ok (.getfield 32, 3) := by decide +kernel
theorem dX2_readHead_136 : decode cX2_readHead 136 = .ok (.bipush 7, 2) := by decide +kernel
theorem dX2_readHead_138 : decode cX2_readHead 138 = .ok (.if_icmp .le 9, 3) := by decide +kernel
theorem dX2_readHead_141 : decode cX2_readHead 141 = .ok (.aload_n 0, 1) := by decide +kernel
theorem dX2_readHead_142 : decode cX2_readHead 142 = .ok (.iconst 3, 1) := by decide +kernel
theorem dX2_readHead_143 : decode cX2_readHead 143 = .ok (.invokevirtual 65, 3) := by decide +kernel
theorem dX2_readHead_146 : decode cX2_readHead 146 = .ok (.ireturn, 1) := by decide +kernel
theorem dX2_readHead_147 : decode cX2_readHead 147 = .ok (.iload_n 2, 1) := by decide +kernel
theorem dX2_readHead_148 : decode cX2_readHead 148 = .ok (.ifCond .eq 10, 3) := by decide +kernel
theorem dX2_readHead_151 : decode cX2_readHead 151 = .ok (.iload_n 1, 1) := by decide +kernel
theorem dX2_readHead_152 : decode cX2_readHead 152 = .ok (.bipush 97, 2) := by decide +kernel
theorem dX2_readHead_154 : decode cX2_readHead 154 = .ok (.isub, 1) := by decide +kernel
theorem dX2_readHead_155 : decode cX2_readHead 155 = .ok (.goto 7, 3) := by decide +kernel
theorem dX2_readHead_158 : decode cX2_readHead 158 = .ok (.iload_n 1, 1) := by decide +kernel
theorem dX2_readHead_159 : decode cX2_readHead 159 = .ok (.bipush 48, 2) := by decide +kernel
theorem dX2_readHead_161 : decode cX2_readHead 161 = .ok (.isub, 1) := by decide +kernel
theorem dX2_readHead_162 : decode cX2_readHead 162 = .ok (.istore 5, 2) := by decide +kernel
theorem dX2_readHead_164 : decode cX2_readHead 164 = .ok (.iload_n 2, 1) := by decide +kernel
theorem dX2_readHead_165 : decode cX2_readHead 165 = .ok (.ifCond .eq 7, 3) := by decide +kernel
theorem dX2_readHead_168 : decode cX2_readHead 168 = .ok (.iconst 0, 1) := by decide +kernel
theorem dX2_readHead_169 : decode cX2_readHead 169 = .ok (.goto 17, 3) := by decide +kernel
theorem dX2_readHead_172 : decode cX2_readHead 172 = .ok (.aload_n 0, 1) := by decide +kernel
theorem dX2_readHead_173 : decode cX2_readHead 173 = .ok (.aload_n 0, 1) := by decide +kernel
theorem dX2_readHead_174 : decode cX2_readHead 174 = .ok (.aload_n 0, 1) := by decide +kernel
theorem dX2_readHead_175 : decode cX2_readHead 175 = .ok (.getfield 19, 3) := by decide +kernel
theorem dX2_readHead_178 : decode cX2_readHead 178 = .ok (.iconst 1, 1) := by decide +kernel
theorem dX2_readHead_179 : decode cX2_readHead 179 = .ok (.iadd, 1) := by decide +kernel
theorem dX2_readHead_180 : decode cX2_readHead 180 = .ok (.invokevirtual 61, 3) := by decide +kernel
theorem dX2_readHead_183 : decode cX2_readHead 183 = .ok (.invokevirtual 75, 3) := by decide +kernel
theorem dX2_readHead_186 : decode cX2_readHead 186 = .ok (.istore 6, 2) := by decide +kernel
theorem dX2_readHead_188 : decode cX2_readHead 188 = .ok (.iload_n 3, 1) := by decide +kernel
theorem dX2_readHead_189 : decode cX2_readHead 189 = .ok (.ifCond .eq 20, 3) := by decide +kernel
theorem dX2_readHead_192 : decode cX2_readHead 192 = .ok (.aload_n 0, 1) := by decide +kernel
theorem dX2_readHead_193 : decode cX2_readHead 193 = .ok (.iload 5, 2) := by decide +kernel
theorem dX2_readHead_195 : decode cX2_readHead 195 = .ok (.iload 6, 2) := by decide +kernel
theorem dX2_readHead_197 : decode cX2_readHead 197 = .ok (.invokevirtual 78, 3) := by decide +kernel
theorem dX2_readHead_200 : decode cX2_readHead 200 = .ok (.ifCond .ne 9, 3) := by decide +kernel
theorem dX2_readHead_203 : decode cX2_readHead 203 = .ok (.aload_n 0, 1) := by decide +kernel
theorem dX2_readHead_204 : decode cX2_readHead 204 = .ok (.iconst 4, 1) := by decide +kernel
theorem dX2_readHead_205 : decode cX2_readHead 205 = .ok (.invokevirtual 65, 3) := by decide +kernel
theorem dX2_readHead_208 : decode cX2_readHead 208 = .ok (.ireturn, 1) := by decide +kernel
theorem dX2_readHead_209 : decode cX2_readHead 209 = .ok (.aload_n 0, 1) := by decide +kernel
theorem dX2_readHead_210 : decode cX2_readHead 210 = .ok (.getfield 28, 3) := by decide +kernel
theorem dX2_readHead_213 : decode cX2_readHead 213 = .ok (.iload 4, 2) := by decide +kernel
theorem dX2_readHead_215 : decode cX2_readHead 215 = .ok (.invokevirtual 82, 3) := by decide +kernel
theorem dX2_readHead_218 : decode cX2_readHead 218 = .ok (.aload_n 0, 1) := by decide +kernel
theorem dX2_readHead_219 : decode cX2_readHead 219 = .ok (.getfield 28, 3) := by decide +kernel
theorem dX2_readHead_222 : decode cX2_readHead 222 = .ok (.iload 6, 2) := by decide +kernel
theorem dX2_readHead_224 : decode cX2_readHead 224 = .ok (.iconst 4, 1) := by decide +kernel
theorem dX2_readHead_225 : decode cX2_readHead 225 = .ok (.ishl, 1) := by decide +kernel
theorem dX2_readHead_226 : decode cX2_readHead 226 = .ok (.iload 5, 2) := by decide +kernel
theorem dX2_readHead_228 : decode cX2_readHead 228 = .ok (.ior, 1) := by decide +kernel
theorem dX2_readHead_229 : decode cX2_readHead 229 = .ok (.iconst 0, 1) := by decide +kernel
theorem dX2_readHead_230 : decode cX2_readHead 230 = .ok (.invokevirtual 86, 3) := by decide +kernel
theorem dX2_readHead_233 : decode cX2_readHead 233 = .ok (.pop, 1) := by decide +kernel
theorem dX2_readHead_234 : decode cX2_readHead 234 = .ok (.aload_n 0, 1) := by decide +kernel
theorem dX2_readHead_235 : decode cX2_readHead 235 = .ok (.dup, 1) := by decide +kernel
theorem dX2_readHead_236 : decode cX2_readHead 236 = .ok (.getfield 19, 3) := by decide +kernel
theorem dX2_readHead_239 : decode cX2_readHead 239 = .ok (.iload 6, 2) := by decide +kernel
theorem dX2_readHead_241 : decode cX2_readHead 241 = .ok (.iconst 3, 1) := by decide +kernel
theorem dX2_readHead_242 : decode cX2_readHead 242 = .ok (.if_icmp .ne 7, 3) := by decide +kernel
theorem dX2_readHead_245 : decode cX2_readHead 245 = .ok (.iconst 2, 1) := by decide +kernel
theorem dX2_readHead_246 : decode cX2_readHead 246 = .ok (.goto 4, 3) := by decide +kernel
theorem dX2_readHead_249 : decode cX2_readHead 249 = .ok (.iconst 1, 1) := by decide +kernel
theorem dX2_readHead_250 : decode cX2_readHead 250 = .ok (.iadd, 1) := by decide +kernel
theorem dX2_readHead_251 : decode cX2_readHead 251 = .ok (.putfield 19, 3) := by decide +kernel
theorem dX2_readHead_254 : decode cX2_readHead 254 = .ok (.iconst 1, 1) := by decide +kernel
theorem dX2_readHead_255 : decode cX2_readHead 255 = .ok (.ireturn, 1) := by decide +kernel
theorem dX2_holeSort_0 : decode cX2_holeSort 0 = .ok (.iload_n 1, 1) := by decide +kernel
theorem dX2_holeSort_1 : decode cX2_holeSort 1 = .ok (.bipush 40, 2) := by decide +kernel
theorem dX2_holeSort_3 : decode cX2_holeSort 3 = .ok (.if_icmp .ne 5, 3) := by decide +kernel
theorem dX2_holeSort_6 : decode cX2_holeSort 6 = .ok (.iconst 2, 1) := by decide +kernel
theorem dX2_holeSort_7 : decode cX2_holeSort 7 = .ok (.ireturn, 1) := by decide +kernel
theorem dX2_holeSort_8 : decode cX2_holeSort 8 = .ok (.iload_n 1, 1) := by decide +kernel
theorem dX2_holeSort_9 : decode cX2_holeSort 9 = .ok (.bipush 42, 2) := by decide +kernel
theorem dX2_holeSort_11 : decode cX2_holeSort 11 = .ok (.if_icmp .ne 14, 3) := by decide +kernel
theorem dX2_holeSort_14 : decode cX2_holeSort 14 = .ok (.aload_n 0, 1) := by decide +kernel
theorem dX2_holeSort_15 : decode cX2_holeSort 15 = .ok (.getfield 32, 3) := by decide +kernel
theorem dX2_holeSort_18 : decode cX2_holeSort 18 = .ok (.ifCond .le 7, 3) := by decide +kernel
theorem dX2_holeSort_21 : decode cX2_holeSort 21 = .ok (.iconst 3, 1) := by decide +kernel
theorem dX2_holeSort_22 : decode cX2_holeSort 22 = .ok (.goto 4, 3) := by decide +kernel
theorem dX2_holeSort_25 : decode cX2_holeSort 25 = .ok (.iconst 1, 1) := by decide +kernel
theorem dX2_holeSort_26 : decode cX2_holeSort 26 = .ok (.ireturn, 1) := by decide +kernel
theorem dX2_takeHole_0 : decode cX2_takeHole 0 = .ok (.iload_n 1, 1) := by decide +kernel
theorem dX2_takeHole_1 : decode cX2_takeHole 1 = .ok (.aload_n 0, 1) := by decide +kernel
theorem dX2_takeHole_2 : decode cX2_takeHole 2 = .ok (.getfield 42, 3) := by decide +kernel
theorem dX2_takeHole_5 : decode cX2_takeHole 5 = .ok (.arraylength, 1) := by decide +kernel
theorem dX2_takeHole_6 : decode cX2_takeHole 6 = .ok (.iconst 1, 1) := by decide +kernel
theorem dX2_takeHole_7 : decode cX2_takeHole 7 = .ok (.isub, 1) := by decide +kernel
theorem dX2_takeHole_8 : decode cX2_takeHole 8 = .ok (.invokestatic 89, 3) := by decide +kernel
theorem dX2_takeHole_11 : decode cX2_takeHole 11 = .ok (.ifCond .eq 5, 3) := by decide +kernel
theorem dX2_takeHole_14 : decode cX2_takeHole 14 = .ok (.iconst 0, 1) := by decide +kernel
theorem dX2_takeHole_15 : decode cX2_takeHole 15 = .ok (.ireturn, 1) := by decide +kernel
theorem dX2_takeHole_16 : decode cX2_takeHole 16 = .ok (.aload_n 0, 1) := by decide +kernel
theorem dX2_takeHole_17 : decode cX2_takeHole 17 = .ok (.getfield 42, 3) := by decide +kernel
theorem dX2_takeHole_20 : decode cX2_takeHole 20 = .ok (.iload_n 1, 1) := by decide +kernel
theorem dX2_takeHole_21 : decode cX2_takeHole 21 = .ok (.iaload, 1) := by decide +kernel
theorem dX2_takeHole_22 : decode cX2_takeHole 22 = .ok (.iconst (-1), 1) := by decide +kernel
theorem dX2_takeHole_23 : decode cX2_takeHole 23 = .ok (.if_icmp .eq 15, 3) := by decide +kernel
theorem dX2_takeHole_26 : decode cX2_takeHole 26 = .ok (.aload_n 0, 1) := by decide +kernel
theorem dX2_takeHole_27 : decode cX2_takeHole 27 = .ok (.getfield 42, 3) := by decide +kernel
theorem dX2_takeHole_30 : decode cX2_takeHole 30 = .ok (.iload_n 1, 1) := by decide +kernel
theorem dX2_takeHole_31 : decode cX2_takeHole 31 = .ok (.iaload, 1) := by decide +kernel
theorem dX2_takeHole_32 : decode cX2_takeHole 32 = .ok (.iload_n 2, 1) := by decide +kernel
theorem dX2_takeHole_33 : decode cX2_takeHole 33 = .ok (.if_icmp .eq 5, 3) := by decide +kernel
theorem dX2_takeHole_36 : decode cX2_takeHole 36 = .ok (.iconst 0, 1) := by decide +kernel
theorem dX2_takeHole_37 : decode cX2_takeHole 37 = .ok (.ireturn, 1) := by decide +kernel
theorem dX2_takeHole_38 : decode cX2_takeHole 38 = .ok (.iload_n 2, 1) := by decide +kernel
theorem dX2_takeHole_39 : decode cX2_takeHole 39 = .ok (.iconst 3, 1) := by decide +kernel
theorem dX2_takeHole_40 : decode cX2_takeHole 40 = .ok (.if_icmp .ne 50, 3) := by decide +kernel
theorem dX2_takeHole_43 : decode cX2_takeHole 43 = .ok (.aload_n 0, 1) := by decide +kernel
theorem dX2_takeHole_44 : decode cX2_takeHole 44 = .ok (.getfield 32, 3) := by decide +kernel
theorem dX2_takeHole_47 : decode cX2_takeHole 47 = .ok (.ifCond .le 43, 3) := by decide +kernel
theorem dX2_takeHole_50 : decode cX2_takeHole 50 = .ok (.aload_n 0, 1) := by decide +kernel
theorem dX2_takeHole_51 : decode cX2_takeHole 51 = .ok (.getfield 32, 3) := by decide +kernel
theorem dX2_takeHole_54 : decode cX2_takeHole 54 = .ok (.aload_n 0, 1) := by decide +kernel
theorem dX2_takeHole_55 : decode cX2_takeHole 55 = .ok (.getfield 38, 3) := by decide +kernel
theorem dX2_takeHole_58 : decode cX2_takeHole 58 = .ok (.arraylength, 1) := by decide +kernel
theorem dX2_takeHole_59 : decode cX2_takeHole 59 = .ok (.if_icmp .gt 31, 3) := by decide +kernel
theorem dX2_takeHole_62 : decode cX2_takeHole 62 = .ok (.aload_n 0, 1) := by decide +kernel
theorem dX2_takeHole_63 : decode cX2_takeHole 63 = .ok (.getfield 38, 3) := by decide +kernel
theorem dX2_takeHole_66 : decode cX2_takeHole 66 = .ok (.aload_n 0, 1) := by decide +kernel
theorem dX2_takeHole_67 : decode cX2_takeHole 67 = .ok (.getfield 32, 3) := by decide +kernel
theorem dX2_takeHole_70 : decode cX2_takeHole 70 = .ok (.iconst 1, 1) := by decide +kernel
theorem dX2_takeHole_71 : decode cX2_takeHole 71 = .ok (.isub, 1) := by decide +kernel
theorem dX2_takeHole_72 : decode cX2_takeHole 72 = .ok (.baload, 1) := by decide +kernel
theorem dX2_takeHole_73 : decode cX2_takeHole 73 = .ok (.ifCond .eq 5, 3) := by decide +kernel
theorem dX2_takeHole_76 : decode cX2_takeHole 76 = .ok (.iconst 0, 1) := by decide +kernel
theorem dX2_takeHole_77 : decode cX2_takeHole 77 = .ok (.ireturn, 1) := by decide +kernel
theorem dX2_takeHole_78 : decode cX2_takeHole 78 = .ok (.aload_n 0, 1) := by decide +kernel
theorem dX2_takeHole_79 : decode cX2_takeHole 79 = .ok (.getfield 38, 3) := by decide +kernel
theorem dX2_takeHole_82 : decode cX2_takeHole 82 = .ok (.aload_n 0, 1) := by decide +kernel
theorem dX2_takeHole_83 : decode cX2_takeHole 83 = .ok (.getfield 32, 3) := by decide +kernel
theorem dX2_takeHole_86 : decode cX2_takeHole 86 = .ok (.iconst 1, 1) := by decide +kernel
theorem dX2_takeHole_87 : decode cX2_takeHole 87 = .ok (.isub, 1) := by decide +kernel
theorem dX2_takeHole_88 : decode cX2_takeHole 88 = .ok (.iconst 1, 1) := by decide +kernel
theorem dX2_takeHole_89 : decode cX2_takeHole 89 = .ok (.bastore, 1) := by decide +kernel
theorem dX2_takeHole_90 : decode cX2_takeHole 90 = .ok (.aload_n 0, 1) := by decide +kernel
theorem dX2_takeHole_91 : decode cX2_takeHole 91 = .ok (.getfield 42, 3) := by decide +kernel
theorem dX2_takeHole_94 : decode cX2_takeHole 94 = .ok (.iload_n 1, 1) := by decide +kernel
theorem dX2_takeHole_95 : decode cX2_takeHole 95 = .ok (.iload_n 2, 1) := by decide +kernel
theorem dX2_takeHole_96 : decode cX2_takeHole 96 = .ok (.iastore, 1) := by decide +kernel
theorem dX2_takeHole_97 : decode cX2_takeHole 97 = .ok (.iconst 1, 1) := by decide +kernel
theorem dX2_takeHole_98 : decode cX2_takeHole 98 = .ok (.ireturn, 1) := by decide +kernel
theorem dX2_opens_0 : decode cX2_opens 0 = .ok (.aload_n 0, 1) := by decide +kernel
theorem dX2_opens_1 : decode cX2_opens 1 = .ok (.aload_n 0, 1) := by decide +kernel
theorem dX2_opens_2 : decode cX2_opens 2 = .ok (.getfield 19, 3) := by decide +kernel
theorem dX2_opens_5 : decode cX2_opens 5 = .ok (.invokevirtual 61, 3) := by decide +kernel
theorem dX2_opens_8 : decode cX2_opens 8 = .ok (.bipush 40, 2) := by decide +kernel
theorem dX2_opens_10 : decode cX2_opens 10 = .ok (.if_icmp .ne 54, 3) := by decide +kernel
theorem dX2_opens_13 : decode cX2_opens 13 = .ok (.aload_n 0, 1) := by decide +kernel
theorem dX2_opens_14 : decode cX2_opens 14 = .ok (.getfield 32, 3) := by decide +kernel
theorem dX2_opens_17 : decode cX2_opens 17 = .ok (.ifCond .lt 47, 3) := by decide +kernel
theorem dX2_opens_20 : decode cX2_opens 20 = .ok (.aload_n 0, 1) := by decide +kernel
theorem dX2_opens_21 : decode cX2_opens 21 = .ok (.getfield 32, 3) := by decide +kernel
theorem dX2_opens_24 : decode cX2_opens 24 = .ok (.aload_n 0, 1) := by decide +kernel
theorem dX2_opens_25 : decode cX2_opens 25 = .ok (.getfield 35, 3) := by decide +kernel
theorem dX2_opens_28 : decode cX2_opens 28 = .ok (.arraylength, 1) := by decide +kernel
theorem dX2_opens_29 : decode cX2_opens 29 = .ok (.if_icmp .ge 35, 3) := by decide +kernel
theorem dX2_opens_32 : decode cX2_opens 32 = .ok (.aload_n 0, 1) := by decide +kernel
theorem dX2_opens_33 : decode cX2_opens 33 = .ok (.getfield 32, 3) := by decide +kernel
theorem dX2_opens_36 : decode cX2_opens 36 = .ok (.aload_n 0, 1) := by decide +kernel
theorem dX2_opens_37 : decode cX2_opens 37 = .ok (.getfield 38, 3) := by decide +kernel
theorem dX2_opens_40 : decode cX2_opens 40 = .ok (.arraylength, 1) := by decide +kernel
theorem dX2_opens_41 : decode cX2_opens 41 = .ok (.if_icmp .ge 23, 3) := by decide +kernel
theorem dX2_opens_44 : decode cX2_opens 44 = .ok (.aload_n 0, 1) := by decide +kernel
theorem dX2_opens_45 : decode cX2_opens 45 = .ok (.getfield 28, 3) := by decide +kernel
theorem dX2_opens_48 : decode cX2_opens 48 = .ok (.aload_n 0, 1) := by decide +kernel
theorem dX2_opens_49 : decode cX2_opens 49 = .ok (.getfield 28, 3) := by decide +kernel
theorem dX2_opens_52 : decode cX2_opens 52 = .ok (.getfield 72, 3) := by decide +kernel
theorem dX2_opens_55 : decode cX2_opens 55 = .ok (.iconst 1, 1) := by decide +kernel
theorem dX2_opens_56 : decode cX2_opens 56 = .ok (.isub, 1) := by decide +kernel
theorem dX2_opens_57 : decode cX2_opens 57 = .ok (.invokevirtual 92, 3) := by decide +kernel
theorem dX2_opens_60 : decode cX2_opens 60 = .ok (.iconst 3, 1) := by decide +kernel
theorem dX2_opens_61 : decode cX2_opens 61 = .ok (.if_icmp .ne 5, 3) := by decide +kernel
theorem dX2_opens_64 : decode cX2_opens 64 = .ok (.iconst 0, 1) := by decide +kernel
theorem dX2_opens_65 : decode cX2_opens 65 = .ok (.ireturn, 1) := by decide +kernel
theorem dX2_opens_66 : decode cX2_opens 66 = .ok (.aload_n 0, 1) := by decide +kernel
theorem dX2_opens_67 : decode cX2_opens 67 = .ok (.getfield 35, 3) := by decide +kernel
theorem dX2_opens_70 : decode cX2_opens 70 = .ok (.aload_n 0, 1) := by decide +kernel
theorem dX2_opens_71 : decode cX2_opens 71 = .ok (.getfield 32, 3) := by decide +kernel
theorem dX2_opens_74 : decode cX2_opens 74 = .ok (.aload_n 0, 1) := by decide +kernel
theorem dX2_opens_75 : decode cX2_opens 75 = .ok (.getfield 28, 3) := by decide +kernel
theorem dX2_opens_78 : decode cX2_opens 78 = .ok (.getfield 72, 3) := by decide +kernel
theorem dX2_opens_81 : decode cX2_opens 81 = .ok (.iconst 1, 1) := by decide +kernel
theorem dX2_opens_82 : decode cX2_opens 82 = .ok (.isub, 1) := by decide +kernel
theorem dX2_opens_83 : decode cX2_opens 83 = .ok (.iastore, 1) := by decide +kernel
theorem dX2_opens_84 : decode cX2_opens 84 = .ok (.aload_n 0, 1) := by decide +kernel
theorem dX2_opens_85 : decode cX2_opens 85 = .ok (.getfield 38, 3) := by decide +kernel
theorem dX2_opens_88 : decode cX2_opens 88 = .ok (.aload_n 0, 1) := by decide +kernel
theorem dX2_opens_89 : decode cX2_opens 89 = .ok (.getfield 32, 3) := by decide +kernel
theorem dX2_opens_92 : decode cX2_opens 92 = .ok (.iconst 0, 1) := by decide +kernel
theorem dX2_opens_93 : decode cX2_opens 93 = .ok (.bastore, 1) := by decide +kernel
theorem dX2_opens_94 : decode cX2_opens 94 = .ok (.aload_n 0, 1) := by decide +kernel
theorem dX2_opens_95 : decode cX2_opens 95 = .ok (.dup, 1) := by decide +kernel
theorem dX2_opens_96 : decode cX2_opens 96 = .ok (.getfield 32, 3) := by decide +kernel
theorem dX2_opens_99 : decode cX2_opens 99 = .ok (.iconst 1, 1) := by decide +kernel
theorem dX2_opens_100 : decode cX2_opens 100 = .ok (.iadd, 1) := by decide +kernel
theorem dX2_opens_101 : decode cX2_opens 101 = .ok (.putfield 32, 3) := by decide +kernel
theorem dX2_opens_104 : decode cX2_opens 104 = .ok (.aload_n 0, 1) := by decide +kernel
theorem dX2_opens_105 : decode cX2_opens 105 = .ok (.dup, 1) := by decide +kernel
theorem dX2_opens_106 : decode cX2_opens 106 = .ok (.getfield 19, 3) := by decide +kernel
theorem dX2_opens_109 : decode cX2_opens 109 = .ok (.iconst 1, 1) := by decide +kernel
theorem dX2_opens_110 : decode cX2_opens 110 = .ok (.iadd, 1) := by decide +kernel
theorem dX2_opens_111 : decode cX2_opens 111 = .ok (.putfield 19, 3) := by decide +kernel
theorem dX2_opens_114 : decode cX2_opens 114 = .ok (.iconst 1, 1) := by decide +kernel
theorem dX2_opens_115 : decode cX2_opens 115 = .ok (.ireturn, 1) := by decide +kernel
theorem dX2_closeNodes_0 : decode cX2_closeNodes 0 = .ok (.aload_n 0, 1) := by decide +kernel
theorem dX2_closeNodes_1 : decode cX2_closeNodes 1 = .ok (.getfield 32, 3) := by decide +kernel
theorem dX2_closeNodes_4 : decode cX2_closeNodes 4 = .ok (.ifCond .le 39, 3) := by decide +kernel
theorem dX2_closeNodes_7 : decode cX2_closeNodes 7 = .ok (.aload_n 0, 1) := by decide +kernel
theorem dX2_closeNodes_8 : decode cX2_closeNodes 8 = .ok (.aload_n 0, 1) := by decide +kernel
theorem dX2_closeNodes_9 : decode cX2_closeNodes 9 = .ok (.getfield 19, 3) := by decide +kernel
theorem dX2_closeNodes_12 : decode cX2_closeNodes 12 = .ok (.invokevirtual 61, 3) := by decide +kernel
theorem dX2_closeNodes_15 : decode cX2_closeNodes 15 = .ok (.bipush 41, 2) := by decide +kernel
theorem dX2_closeNodes_17 : decode cX2_closeNodes 17 = .ok (.if_icmp .ne 26, 3) := by decide +kernel
theorem dX2_closeNodes_20 : decode cX2_closeNodes 20 = .ok (.aload_n 0, 1) := by decide +kernel
theorem dX2_closeNodes_21 : decode cX2_closeNodes 21 = .ok (.dup, 1) := by decide +kernel
theorem dX2_closeNodes_22 : decode cX2_closeNodes 22 = .ok (.getfield 32, 3) := by decide +kernel
theorem dX2_closeNodes_25 : decode cX2_closeNodes 25 = .ok (.iconst 1, 1) := by decide +kernel
theorem dX2_closeNodes_26 : decode cX2_closeNodes 26 = .ok (.isub, 1) := by decide +kernel
theorem dX2_closeNodes_27 : decode cX2_closeNodes 27 = .ok (.putfield 32, 3) := by decide +kernel
theorem dX2_closeNodes_30 : decode cX2_closeNodes 30 = .ok (.aload_n 0, 1) := by decide +kernel
theorem dX2_closeNodes_31 : decode cX2_closeNodes 31 = .ok (.dup, 1) := by decide +kernel
theorem dX2_closeNodes_32 : decode cX2_closeNodes 32 = .ok (.getfield 19, 3) := by decide +kernel
theorem dX2_closeNodes_35 : decode cX2_closeNodes 35 = .ok (.iconst 1, 1) := by decide +kernel
theorem dX2_closeNodes_36 : decode cX2_closeNodes 36 = .ok (.iadd, 1) := by decide +kernel
theorem dX2_closeNodes_37 : decode cX2_closeNodes 37 = .ok (.putfield 19, 3) := by decide +kernel
theorem dX2_closeNodes_40 : decode cX2_closeNodes 40 = .ok (.goto (-40), 3) := by decide +kernel
theorem dX2_closeNodes_43 : decode cX2_closeNodes 43 = .ok (.return_, 1) := by decide +kernel
theorem dX2_ends_0 : decode cX2_ends 0 = .ok (.aload_n 0, 1) := by decide +kernel
theorem dX2_ends_1 : decode cX2_ends 1 = .ok (.getfield 19, 3) := by decide +kernel
theorem dX2_ends_4 : decode cX2_ends 4 = .ok (.aload_n 0, 1) := by decide +kernel
theorem dX2_ends_5 : decode cX2_ends 5 = .ok (.getfield 15, 3) := by decide +kernel
theorem dX2_ends_8 : decode cX2_ends 8 = .ok (.if_icmp .ge 9, 3) := by decide +kernel
theorem dX2_ends_11 : decode cX2_ends 11 = .ok (.aload_n 0, 1) := by decide +kernel
theorem dX2_ends_12 : decode cX2_ends 12 = .ok (.iconst 1, 1) := by decide +kernel
theorem dX2_ends_13 : decode cX2_ends 13 = .ok (.invokevirtual 65, 3) := by decide +kernel
theorem dX2_ends_16 : decode cX2_ends 16 = .ok (.ireturn, 1) := by decide +kernel
theorem dX2_ends_17 : decode cX2_ends 17 = .ok (.aload_n 0, 1) := by decide +kernel
theorem dX2_ends_18 : decode cX2_ends 18 = .ok (.getfield 28, 3) := by decide +kernel
theorem dX2_ends_21 : decode cX2_ends 21 = .ok (.invokevirtual 95, 3) := by decide +kernel
theorem dX2_ends_24 : decode cX2_ends 24 = .ok (.iconst 1, 1) := by decide +kernel
theorem dX2_ends_25 : decode cX2_ends 25 = .ok (.ireturn, 1) := by decide +kernel
theorem dX2_readComma_0 : decode cX2_readComma 0 = .ok (.aload_n 0, 1) := by decide +kernel
theorem dX2_readComma_1 : decode cX2_readComma 1 = .ok (.aload_n 0, 1) := by decide +kernel
theorem dX2_readComma_2 : decode cX2_readComma 2 = .ok (.getfield 19, 3) := by decide +kernel
theorem dX2_readComma_5 : decode cX2_readComma 5 = .ok (.invokevirtual 61, 3) := by decide +kernel
theorem dX2_readComma_8 : decode cX2_readComma 8 = .ok (.bipush 44, 2) := by decide +kernel
theorem dX2_readComma_10 : decode cX2_readComma 10 = .ok (.if_icmp .eq 9, 3) := by decide +kernel
theorem dX2_readComma_13 : decode cX2_readComma 13 = .ok (.aload_n 0, 1) := by decide +kernel
theorem dX2_readComma_14 : decode cX2_readComma 14 = .ok (.iconst 1, 1) := by decide +kernel
theorem dX2_readComma_15 : decode cX2_readComma 15 = .ok (.invokevirtual 65, 3) := by decide +kernel
theorem dX2_readComma_18 : decode cX2_readComma 18 = .ok (.ireturn, 1) := by decide +kernel
theorem dX2_readComma_19 : decode cX2_readComma 19 = .ok (.aload_n 0, 1) := by decide +kernel
theorem dX2_readComma_20 : decode cX2_readComma 20 = .ok (.dup, 1) := by decide +kernel
theorem dX2_readComma_21 : decode cX2_readComma 21 = .ok (.getfield 19, 3) := by decide +kernel
theorem dX2_readComma_24 : decode cX2_readComma 24 = .ok (.iconst 1, 1) := by decide +kernel
theorem dX2_readComma_25 : decode cX2_readComma 25 = .ok (.iadd, 1) := by decide +kernel
theorem dX2_readComma_26 : decode cX2_readComma 26 = .ok (.putfield 19, 3) := by decide +kernel
theorem dX2_readComma_29 : decode cX2_readComma 29 = .ok (.iconst 1, 1) := by decide +kernel
theorem dX2_readComma_30 : decode cX2_readComma 30 = .ok (.ireturn, 1) := by decide +kernel
theorem dX3_init_0 : decode cX3_init 0 = .ok (.aload_n 0, 1) := by decide +kernel
theorem dX3_init_1 : decode cX3_init 1 = .ok (.invokespecial 3, 3) := by decide +kernel
theorem dX3_init_4 : decode cX3_init 4 = .ok (.aload_n 0, 1) := by decide +kernel
theorem dX3_init_5 : decode cX3_init 5 = .ok (.bipush 32, 2) := by decide +kernel
theorem dX3_init_7 : decode cX3_init 7 = .ok (.newarray .boolean, 2) := by decide +kernel
theorem dX3_init_9 : decode cX3_init 9 = .ok (.putfield 9, 3) := by decide +kernel
theorem dX3_init_12 : decode cX3_init 12 = .ok (.aload_n 0, 1) := by decide +kernel
theorem dX3_init_13 : decode cX3_init 13 = .ok (.bipush 32, 2) := by decide +kernel
theorem dX3_init_15 : decode cX3_init 15 = .ok (.newarray .int, 2) := by decide +kernel
theorem dX3_init_17 : decode cX3_init 17 = .ok (.putfield 15, 3) := by decide +kernel
theorem dX3_init_20 : decode cX3_init 20 = .ok (.aload_n 0, 1) := by decide +kernel
theorem dX3_init_21 : decode cX3_init 21 = .ok (.bipush 32, 2) := by decide +kernel
theorem dX3_init_23 : decode cX3_init 23 = .ok (.newarray .int, 2) := by decide +kernel
theorem dX3_init_25 : decode cX3_init 25 = .ok (.putfield 19, 3) := by decide +kernel
theorem dX3_init_28 : decode cX3_init 28 = .ok (.aload_n 0, 1) := by decide +kernel
theorem dX3_init_29 : decode cX3_init 29 = .ok (.bipush 8, 2) := by decide +kernel
theorem dX3_init_31 : decode cX3_init 31 = .ok (.newarray .int, 2) := by decide +kernel
theorem dX3_init_33 : decode cX3_init 33 = .ok (.putfield 22, 3) := by decide +kernel
theorem dX3_init_36 : decode cX3_init 36 = .ok (.aload_n 0, 1) := by decide +kernel
theorem dX3_init_37 : decode cX3_init 37 = .ok (.bipush 32, 2) := by decide +kernel
theorem dX3_init_39 : decode cX3_init 39 = .ok (.newarray .int, 2) := by decide +kernel
theorem dX3_init_41 : decode cX3_init 41 = .ok (.putfield 25, 3) := by decide +kernel
theorem dX3_init_44 : decode cX3_init 44 = .ok (.return_, 1) := by decide +kernel
theorem dX3_flattened_0 : decode cX3_flattened 0 = .ok (.iconst 0, 1) := by decide +kernel
theorem dX3_flattened_1 : decode cX3_flattened 1 = .ok (.istore_n 3, 1) := by decide +kernel
theorem dX3_flattened_2 : decode cX3_flattened 2 = .ok (.iload_n 3, 1) := by decide +kernel
theorem dX3_flattened_3 : decode cX3_flattened 3 = .ok (.bipush 32, 2) := by decide +kernel
theorem dX3_flattened_5 : decode cX3_flattened 5 = .ok (.if_icmp .ge 16, 3) := by decide +kernel
theorem dX3_flattened_8 : decode cX3_flattened 8 = .ok (.aload_n 0, 1) := by decide +kernel
theorem dX3_flattened_9 : decode cX3_flattened 9 = .ok (.getfield 9, 3) := by decide +kernel
theorem dX3_flattened_12 : decode cX3_flattened 12 = .ok (.iload_n 3, 1) := by decide +kernel
theorem dX3_flattened_13 : decode cX3_flattened 13 = .ok (.iconst 0, 1) := by decide +kernel
theorem dX3_flattened_14 : decode cX3_flattened 14 = .ok (.bastore, 1) := by decide +kernel
theorem dX3_flattened_15 : decode cX3_flattened 15 = .ok (.iinc 3 1, 3) := by decide +kernel
theorem dX3_flattened_18 : decode cX3_flattened 18 = .ok (.goto (-16), 3) := by decide +kernel
theorem dX3_flattened_21 : decode cX3_flattened 21 = .ok (.aload_n 1, 1) := by decide +kernel
theorem dX3_flattened_22 : decode cX3_flattened 22 = .ok (.getfield 28, 3) := by decide +kernel
theorem dX3_flattened_25 : decode cX3_flattened 25 = .ok (.iconst 1, 1) := by decide +kernel
theorem dX3_flattened_26 : decode cX3_flattened 26 = .ok (.isub, 1) := by decide +kernel
theorem dX3_flattened_27 : decode cX3_flattened 27 = .ok (.istore_n 3, 1) := by decide +kernel
theorem dX3_flattened_28 : decode cX3_flattened 28 = .ok (.iload_n 3, 1) := by decide +kernel
theorem dX3_flattened_29 : decode cX3_flattened 29 = .ok (.ifCond .lt 21, 3) := by decide +kernel
theorem dX3_flattened_32 : decode cX3_flattened 32 = .ok (.aload_n 0, 1) := by decide +kernel
theorem dX3_flattened_33 : decode cX3_flattened 33 = .ok (.aload_n 1, 1) := by decide +kernel
theorem dX3_flattened_34 : decode cX3_flattened 34 = .ok (.iload_n 3, 1) := by decide +kernel
theorem dX3_flattened_35 : decode cX3_flattened 35 = .ok (.iload_n 2, 1) := by decide +kernel
theorem dX3_flattened_36 : decode cX3_flattened 36 = .ok (.invokevirtual 34, 3) := by decide +kernel
theorem dX3_flattened_39 : decode cX3_flattened 39 = .ok (.ifCond .ne 5, 3) := by decide +kernel
theorem dX3_flattened_42 : decode cX3_flattened 42 = .ok (.aconst_null, 1) := by decide +kernel
theorem dX3_flattened_43 : decode cX3_flattened 43 = .ok (.areturn, 1) := by decide +kernel
theorem dX3_flattened_44 : decode cX3_flattened 44 = .ok (.iinc 3 (-1), 3) := by decide +kernel
theorem dX3_flattened_47 : decode cX3_flattened 47 = .ok (.goto (-19), 3) := by decide +kernel
theorem dX3_flattened_50 : decode cX3_flattened 50 = .ok (.new 29, 3) := by decide +kernel
theorem dX3_flattened_53 : decode cX3_flattened 53 = .ok (.dup, 1) := by decide +kernel
theorem dX3_flattened_54 : decode cX3_flattened 54 = .ok (.invokespecial 38, 3) := by decide +kernel
theorem dX3_flattened_57 : decode cX3_flattened 57 = .ok (.astore_n 3, 1) := by decide +kernel
theorem dX3_flattened_58 : decode cX3_flattened 58 = .ok (.iconst 0, 1) := by decide +kernel
theorem dX3_flattened_59 : decode cX3_flattened 59 = .ok (.istore 4, 2) := by decide +kernel
theorem dX3_flattened_61 : decode cX3_flattened 61 = .ok (.iload 4, 2) := by decide +kernel
theorem dX3_flattened_63 : decode cX3_flattened 63 = .ok (.aload_n 1, 1) := by decide +kernel
theorem dX3_flattened_64 : decode cX3_flattened 64 = .ok (.getfield 28, 3) := by decide +kernel
theorem dX3_flattened_67 : decode cX3_flattened 67 = .ok (.if_icmp .ge 44, 3) := by decide +kernel
theorem dX3_flattened_70 : decode cX3_flattened 70 = .ok (.iload 4, 2) := by decide +kernel
theorem dX3_flattened_72 : decode cX3_flattened 72 = .ok (.bipush 32, 2) := by decide +kernel
theorem dX3_flattened_74 : decode cX3_flattened 74 = .ok (.if_icmp .ge 37, 3) := by decide +kernel
theorem dX3_flattened_77 : decode cX3_flattened 77 = .ok (.aload_n 0, 1) := by decide +kernel
theorem dX3_flattened_78 : decode cX3_flattened 78 = .ok (.getfield 9, 3) := by decide +kernel
theorem dX3_flattened_81 : decode cX3_flattened 81 = .ok (.iload 4, 2) := by decide +kernel
theorem dX3_flattened_83 : decode cX3_flattened 83 = .ok (.baload, 1) := by decide +kernel
theorem dX3_flattened_84 : decode cX3_flattened 84 = .ok (.ifCond .ne 21, 3) := by decide +kernel
theorem dX3_flattened_87 : decode cX3_flattened 87 = .ok (.aload_n 3, 1) := by decide +kernel
theorem dX3_flattened_88 : decode cX3_flattened 88 = .ok (.aload_n 1, 1) := by decide +kernel
theorem dX3_flattened_89 : decode cX3_flattened 89 = .ok (.iload 4, 2) := by decide +kernel
theorem dX3_flattened_91 : decode cX3_flattened 91 = .ok (.invokevirtual 39, 3) := by decide +kernel
theorem dX3_flattened_94 : decode cX3_flattened 94 = .ok (.aload_n 0, 1) := by decide +kernel
theorem dX3_flattened_95 : decode cX3_flattened 95 = .ok (.getfield 15, 3) := by decide +kernel
theorem dX3_flattened_98 : decode cX3_flattened 98 = .ok (.iload 4, 2) := by decide +kernel
theorem dX3_flattened_100 : decode cX3_flattened 100 = .ok (.iaload, 1) := by decide +kernel
theorem dX3_flattened_101 : decode cX3_flattened 101 = .ok (.invokevirtual 43, 3) := by decide +kernel
theorem dX3_flattened_104 : decode cX3_flattened 104 = .ok (.pop, 1) := by decide +kernel
theorem dX3_flattened_105 : decode cX3_flattened 105 = .ok (.iinc 4 1, 3) := by decide +kernel
theorem dX3_flattened_108 : decode cX3_flattened 108 = .ok (.goto (-47), 3) := by decide +kernel
theorem dX3_flattened_111 : decode cX3_flattened 111 = .ok (.aload_n 3, 1) := by decide +kernel
theorem dX3_flattened_112 : decode cX3_flattened 112 = .ok (.invokevirtual 47, 3) := by decide +kernel
theorem dX3_flattened_115 : decode cX3_flattened 115 = .ok (.aload_n 3, 1) := by decide +kernel
theorem dX3_flattened_116 : decode cX3_flattened 116 = .ok (.areturn, 1) := by decide +kernel
theorem dX3_countArguments_0 : decode cX3_countArguments 0 = .ok (.iload_n 2, 1) := by decide +kernel
theorem dX3_countArguments_1 : decode cX3_countArguments 1 = .ok (.bipush 31, 2) := by decide +kernel
theorem dX3_countArguments_3 : decode cX3_countArguments 3 = .ok (.invokestatic 50, 3) := by decide +kernel
theorem dX3_countArguments_6 : decode cX3_countArguments 6 = .ok (.ifCond .eq 5, 3) := by decide +kernel
theorem dX3_countArguments_9 : decode cX3_countArguments 9 = .ok (.iconst 0, 1) := by decide +kernel
theorem dX3_countArguments_10 : decode cX3_countArguments 10 = .ok (.ireturn, 1) := by decide +kernel
theorem dX3_countArguments_11 : decode cX3_countArguments 11 = .ok (.aload_n 1, 1) := by decide +kernel
theorem dX3_countArguments_12 : decode cX3_countArguments 12 = .ok (.iload_n 2, 1) := by decide +kernel
theorem dX3_countArguments_13 : decode cX3_countArguments 13 = .ok (.invokevirtual 53, 3) := by decide +kernel
theorem dX3_countArguments_16 : decode cX3_countArguments 16 = .ok (.ifCond .ne 20, 3) := by decide +kernel
theorem dX3_countArguments_19 : decode cX3_countArguments 19 = .ok (.iload_n 3, 1) := by decide +kernel
theorem dX3_countArguments_20 : decode cX3_countArguments 20 = .ok (.aload_n 1, 1) := by decide +kernel
theorem dX3_countArguments_21 : decode cX3_countArguments 21 = .ok (.iload_n 2, 1) := by decide +kernel
theorem dX3_countArguments_22 : decode cX3_countArguments 22 = .ok (.invokevirtual 56, 3) := by decide +kernel
theorem dX3_countArguments_25 : decode cX3_countArguments 25 = .ok (.ishr, 1) := by decide +kernel
theorem dX3_countArguments_26 : decode cX3_countArguments 26 = .ok (.iconst 1, 1) := by decide +kernel
theorem dX3_countArguments_27 : decode cX3_countArguments 27 = .ok (.iand, 1) := by decide +kernel
theorem dX3_countArguments_28 : decode cX3_countArguments 28 = .ok (.iconst 1, 1) := by decide +kernel
theorem dX3_countArguments_29 : decode cX3_countArguments 29 = .ok (.if_icmp .ne 7, 3) := by decide +kernel
theorem dX3_countArguments_32 : decode cX3_countArguments 32 = .ok (.iconst 1, 1) := by decide +kernel
theorem dX3_countArguments_33 : decode cX3_countArguments 33 = .ok (.goto 4, 3) := by decide +kernel
theorem dX3_countArguments_36 : decode cX3_countArguments 36 = .ok (.iconst 0, 1) := by decide +kernel
theorem dX3_countArguments_37 : decode cX3_countArguments 37 = .ok (.istore 4, 2) := by decide +kernel
theorem dX3_countArguments_39 : decode cX3_countArguments 39 = .ok (.iconst 0, 1) := by decide +kernel
theorem dX3_countArguments_40 : decode cX3_countArguments 40 = .ok (.istore 5, 2) := by decide +kernel
theorem dX3_countArguments_42 : decode cX3_countArguments 42 = .ok (.iconst 0, 1) := by decide +kernel
theorem dX3_countArguments_43 : decode cX3_countArguments 43 = .ok (.istore 6, 2) := by decide +kernel
theorem dX3_countArguments_45 : decode cX3_countArguments 45 = .ok (.iload_n 2, 1) := by decide +kernel
theorem dX3_countArguments_46 : decode cX3_countArguments 46 = .ok (.iconst 1, 1) := by decide +kernel
theorem dX3_countArguments_47 : decode cX3_countArguments 47 = .ok (.iadd, 1) := by decide +kernel
theorem dX3_countArguments_48 : decode cX3_countArguments 48 = .ok (.istore 7, 2) := by decide +kernel
theorem dX3_countArguments_50 : decode cX3_countArguments 50 = .ok (.aload_n 1, 1) := by decide +kernel
theorem dX3_countArguments_51 : decode cX3_countArguments 51 = .ok (.iload_n 2, 1) := by decide +kernel
theorem dX3_countArguments_52 : decode cX3_countArguments 52 = .ok (.invokevirtual 59, 3) := by decide +kernel
theorem dX3_countArguments_55 : decode cX3_countArguments 55 = .ok (.istore 8, 2) := by decide +kernel
theorem dX3_countArguments_57 : decode cX3_countArguments 57 = .ok (.iload 8, 2) := by decide +kernel
theorem dX3_countArguments_59 : decode cX3_countArguments 59 = .ok (.ifCond .le 113, 3) := by decide +kernel
theorem dX3_countArguments_62 : decode cX3_countArguments 62 = .ok (.iload 7, 2) := by decide +kernel
theorem dX3_countArguments_64 : decode cX3_countArguments 64 = .ok (.bipush 32, 2) := by decide +kernel
theorem dX3_countArguments_66 : decode cX3_countArguments 66 = .ok (.if_icmp .ge 106, 3) := by decide +kernel
theorem dX3_countArguments_69 : decode cX3_countArguments 69 = .ok (.iload 4, 2) := by decide +kernel
theorem dX3_countArguments_71 : decode cX3_countArguments 71 = .ok (.ifCond .eq 61, 3) := by decide +kernel
theorem dX3_countArguments_74 : decode cX3_countArguments 74 = .ok (.aload_n 1, 1) := by decide +kernel
theorem dX3_countArguments_75 : decode cX3_countArguments 75 = .ok (.iload 7, 2) := by decide +kernel
theorem dX3_countArguments_77 : decode cX3_countArguments 77 = .ok (.invokevirtual 39, 3) := by decide +kernel
theorem dX3_countArguments_80 : decode cX3_countArguments 80 = .ok (.aload_n 1, 1) := by decide +kernel
theorem dX3_countArguments_81 : decode cX3_countArguments 81 = .ok (.iload_n 2, 1) := by decide +kernel
theorem dX3_countArguments_82 : decode cX3_countArguments 82 = .ok (.invokevirtual 39, 3) := by decide +kernel
theorem dX3_countArguments_85 : decode cX3_countArguments 85 = .ok (.if_icmp .ne 47, 3) := by decide +kernel
theorem dX3_countArguments_88 : decode cX3_countArguments 88 = .ok (.aload_n 1, 1) := by decide +kernel
theorem dX3_countArguments_89 : decode cX3_countArguments 89 = .ok (.iload 7, 2) := by decide +kernel
theorem dX3_countArguments_91 : decode cX3_countArguments 91 = .ok (.invokevirtual 59, 3) := by decide +kernel
theorem dX3_countArguments_94 : decode cX3_countArguments 94 = .ok (.ifCond .le 38, 3) := by decide +kernel
theorem dX3_countArguments_97 : decode cX3_countArguments 97 = .ok (.aload_n 0, 1) := by decide +kernel
theorem dX3_countArguments_98 : decode cX3_countArguments 98 = .ok (.getfield 9, 3) := by decide +kernel
theorem dX3_countArguments_101 : decode cX3_countArguments 101 = .ok (.iload 7, 2) := by decide +kernel
theorem dX3_countArguments_103 : decode cX3_countArguments 103 = .ok (.iconst 1, 1) := by decide +kernel
theorem dX3_countArguments_104 : decode cX3_countArguments 104 = .ok (.bastore, 1) := by decide +kernel
theorem dX3_countArguments_105 : decode cX3_countArguments 105 = .ok (.iload 5, 2) := by decide +kernel
theorem dX3_countArguments_107 : decode cX3_countArguments 107 = .ok (.aload_n 0, 1) := by decide +kernel
theorem dX3_countArguments_108 : decode cX3_countArguments 108 = .ok (.getfield 15, 3) := by decide +kernel
theorem dX3_countArguments_111 : decode cX3_countArguments 111 = .ok (.iload 7, 2) := by decide +kernel
theorem dX3_countArguments_113 : decode cX3_countArguments 113 = .ok (.iaload, 1) := by decide +kernel
theorem dX3_countArguments_114 : decode cX3_countArguments 114 = .ok (.iadd, 1) := by decide +kernel
theorem dX3_countArguments_115 : decode cX3_countArguments 115 = .ok (.istore 5, 2) := by decide +kernel
theorem dX3_countArguments_117 : decode cX3_countArguments 117 = .ok (.iload 6, 2) := by decide +kernel
theorem dX3_countArguments_119 : decode cX3_countArguments 119 = .ok (.aload_n 0, 1) := by decide +kernel
theorem dX3_countArguments_120 : decode cX3_countArguments 120 = .ok (.getfield 19, 3) := by decide +kernel
theorem dX3_countArguments_123 : decode cX3_countArguments 123 = .ok (.iload 7, 2) := by decide +kernel
theorem dX3_countArguments_125 : decode cX3_countArguments 125 = .ok (.iaload, 1) := by decide +kernel
theorem dX3_countArguments_126 : decode cX3_countArguments 126 = .ok (.iadd, 1) := by decide +kernel
theorem dX3_countArguments_127 : decode cX3_countArguments 127 = .ok (.istore 6, 2) := by decide +kernel
theorem dX3_countArguments_129 : decode cX3_countArguments 129 = .ok (.goto 26, 3) := by decide +kernel
theorem dX3_countArguments_132 : decode cX3_countArguments 132 = .ok (.iinc 5 1, 3) := by decide +kernel
theorem dX3_countArguments_135 : decode cX3_countArguments 135 = .ok (.iload 6, 2) := by decide +kernel
theorem dX3_countArguments_137 : decode cX3_countArguments 137 = .ok (.aload_n 1, 1) := by decide +kernel
theorem dX3_countArguments_138 : decode cX3_countArguments 138 = .ok (.iload 7, 2) := by decide +kernel
theorem dX3_countArguments_140 : decode cX3_countArguments 140 = .ok (.invokevirtual 53, 3) := by decide +kernel
theorem dX3_countArguments_143 : decode cX3_countArguments 143 = .ok (.iconst 3, 1) := by decide +kernel
theorem dX3_countArguments_144 : decode cX3_countArguments 144 = .ok (.if_icmp .ne 7, 3) := by decide +kernel
theorem dX3_countArguments_147 : decode cX3_countArguments 147 = .ok (.iconst 1, 1) := by decide +kernel
theorem dX3_countArguments_148 : decode cX3_countArguments 148 = .ok (.goto 4, 3) := by decide +kernel
theorem dX3_countArguments_151 : decode cX3_countArguments 151 = .ok (.iconst 0, 1) := by decide +kernel
theorem dX3_countArguments_152 : decode cX3_countArguments 152 = .ok (.iadd, 1) := by decide +kernel
theorem dX3_countArguments_153 : decode cX3_countArguments 153 = .ok (.istore 6, 2) := by decide +kernel
theorem dX3_countArguments_155 : decode cX3_countArguments 155 = .ok (.iload 7, 2) := by decide +kernel
theorem dX3_countArguments_157 : decode cX3_countArguments 157 = .ok (.aload_n 1, 1) := by decide +kernel
theorem dX3_countArguments_158 : decode cX3_countArguments 158 = .ok (.iload 7, 2) := by decide +kernel
theorem dX3_countArguments_160 : decode cX3_countArguments 160 = .ok (.invokevirtual 62, 3) := by decide +kernel
theorem dX3_countArguments_163 : decode cX3_countArguments 163 = .ok (.iadd, 1) := by decide +kernel
theorem dX3_countArguments_164 : decode cX3_countArguments 164 = .ok (.istore 7, 2) := by decide +kernel
theorem dX3_countArguments_166 : decode cX3_countArguments 166 = .ok (.iinc 8 (-1), 3) := by decide +kernel
theorem dX3_countArguments_169 : decode cX3_countArguments 169 = .ok (.goto (-112), 3) := by decide +kernel
theorem dX3_countArguments_172 : decode cX3_countArguments 172 = .ok (.aload_n 0, 1) := by decide +kernel
theorem dX3_countArguments_173 : decode cX3_countArguments 173 = .ok (.getfield 15, 3) := by decide +kernel
theorem dX3_countArguments_176 : decode cX3_countArguments 176 = .ok (.iload_n 2, 1) := by decide +kernel
theorem dX3_countArguments_177 : decode cX3_countArguments 177 = .ok (.iload 5, 2) := by decide +kernel
theorem dX3_countArguments_179 : decode cX3_countArguments 179 = .ok (.iastore, 1) := by decide +kernel
theorem dX3_countArguments_180 : decode cX3_countArguments 180 = .ok (.aload_n 0, 1) := by decide +kernel
theorem dX3_countArguments_181 : decode cX3_countArguments 181 = .ok (.getfield 19, 3) := by decide +kernel
theorem dX3_countArguments_184 : decode cX3_countArguments 184 = .ok (.iload_n 2, 1) := by decide +kernel
theorem dX3_countArguments_185 : decode cX3_countArguments 185 = .ok (.iload 6, 2) := by decide +kernel
theorem dX3_countArguments_187 : decode cX3_countArguments 187 = .ok (.iastore, 1) := by decide +kernel
theorem dX3_countArguments_188 : decode cX3_countArguments 188 = .ok (.iload 5, 2) := by decide +kernel
theorem dX3_countArguments_190 : decode cX3_countArguments 190 = .ok (.bipush 8, 2) := by decide +kernel
theorem dX3_countArguments_192 : decode cX3_countArguments 192 = .ok (.if_icmp .gt 13, 3) := by decide +kernel
theorem dX3_countArguments_195 : decode cX3_countArguments 195 = .ok (.iload 6, 2) := by decide +kernel
theorem dX3_countArguments_197 : decode cX3_countArguments 197 = .ok (.iconst 1, 1) := by decide +kernel
theorem dX3_countArguments_198 : decode cX3_countArguments 198 = .ok (.if_icmp .gt 7, 3) := by decide +kernel
theorem dX3_countArguments_201 : decode cX3_countArguments 201 = .ok (.iconst 1, 1) := by decide +kernel
theorem dX3_countArguments_202 : decode cX3_countArguments 202 = .ok (.goto 4, 3) := by decide +kernel
theorem dX3_countArguments_205 : decode cX3_countArguments 205 = .ok (.iconst 0, 1) := by decide +kernel
theorem dX3_countArguments_206 : decode cX3_countArguments 206 = .ok (.ireturn, 1) := by decide +kernel
theorem dX3_arrange_0 : decode cX3_arrange 0 = .ok (.aload_n 1, 1) := by decide +kernel
theorem dX3_arrange_1 : decode cX3_arrange 1 = .ok (.getfield 28, 3) := by decide +kernel
theorem dX3_arrange_4 : decode cX3_arrange 4 = .ok (.iconst 1, 1) := by decide +kernel
theorem dX3_arrange_5 : decode cX3_arrange 5 = .ok (.isub, 1) := by decide +kernel
theorem dX3_arrange_6 : decode cX3_arrange 6 = .ok (.istore_n 3, 1) := by decide +kernel
theorem dX3_arrange_7 : decode cX3_arrange 7 = .ok (.iload_n 3, 1) := by decide +kernel
theorem dX3_arrange_8 : decode cX3_arrange 8 = .ok (.ifCond .lt 59, 3) := by decide +kernel
theorem dX3_arrange_11 : decode cX3_arrange 11 = .ok (.aload_n 1, 1) := by decide +kernel
theorem dX3_arrange_12 : decode cX3_arrange 12 = .ok (.iload_n 3, 1) := by decide +kernel
theorem dX3_arrange_13 : decode cX3_arrange 13 = .ok (.invokevirtual 53, 3) := by decide +kernel
theorem dX3_arrange_16 : decode cX3_arrange 16 = .ok (.ifCond .ne 45, 3) := by decide +kernel
theorem dX3_arrange_19 : decode cX3_arrange 19 = .ok (.iload_n 2, 1) := by decide +kernel
theorem dX3_arrange_20 : decode cX3_arrange 20 = .ok (.aload_n 1, 1) := by decide +kernel
theorem dX3_arrange_21 : decode cX3_arrange 21 = .ok (.iload_n 3, 1) := by decide +kernel
theorem dX3_arrange_22 : decode cX3_arrange 22 = .ok (.invokevirtual 56, 3) := by decide +kernel
theorem dX3_arrange_25 : decode cX3_arrange 25 = .ok (.ishr, 1) := by decide +kernel
theorem dX3_arrange_26 : decode cX3_arrange 26 = .ok (.iconst 1, 1) := by decide +kernel
theorem dX3_arrange_27 : decode cX3_arrange 27 = .ok (.iand, 1) := by decide +kernel
theorem dX3_arrange_28 : decode cX3_arrange 28 = .ok (.iconst 1, 1) := by decide +kernel
theorem dX3_arrange_29 : decode cX3_arrange 29 = .ok (.if_icmp .ne 32, 3) := by decide +kernel
theorem dX3_arrange_32 : decode cX3_arrange 32 = .ok (.aload_n 1, 1) := by decide +kernel
theorem dX3_arrange_33 : decode cX3_arrange 33 = .ok (.iload_n 3, 1) := by decide +kernel
theorem dX3_arrange_34 : decode cX3_arrange 34 = .ok (.invokevirtual 59, 3) := by decide +kernel
theorem dX3_arrange_37 : decode cX3_arrange 37 = .ok (.iconst 1, 1) := by decide +kernel
theorem dX3_arrange_38 : decode cX3_arrange 38 = .ok (.if_icmp .le 23, 3) := by decide +kernel
theorem dX3_arrange_41 : decode cX3_arrange 41 = .ok (.aload_n 1, 1) := by decide +kernel
theorem dX3_arrange_42 : decode cX3_arrange 42 = .ok (.iload_n 3, 1) := by decide +kernel
theorem dX3_arrange_43 : decode cX3_arrange 43 = .ok (.invokevirtual 65, 3) := by decide +kernel
theorem dX3_arrange_46 : decode cX3_arrange 46 = .ok (.ifCond .ge 15, 3) := by decide +kernel
theorem dX3_arrange_49 : decode cX3_arrange 49 = .ok (.aload_n 0, 1) := by decide +kernel
theorem dX3_arrange_50 : decode cX3_arrange 50 = .ok (.aload_n 1, 1) := by decide +kernel
theorem dX3_arrange_51 : decode cX3_arrange 51 = .ok (.iload_n 3, 1) := by decide +kernel
theorem dX3_arrange_52 : decode cX3_arrange 52 = .ok (.invokevirtual 68, 3) := by decide +kernel
theorem dX3_arrange_55 : decode cX3_arrange 55 = .ok (.aload_n 0, 1) := by decide +kernel
theorem dX3_arrange_56 : decode cX3_arrange 56 = .ok (.aload_n 1, 1) := by decide +kernel
theorem dX3_arrange_57 : decode cX3_arrange 57 = .ok (.iload_n 3, 1) := by decide +kernel
theorem dX3_arrange_58 : decode cX3_arrange 58 = .ok (.invokevirtual 72, 3) := by decide +kernel
theorem dX3_arrange_61 : decode cX3_arrange 61 = .ok (.iinc 3 (-1), 3) := by decide +kernel
theorem dX3_arrange_64 : decode cX3_arrange 64 = .ok (.goto (-57), 3) := by decide +kernel
theorem dX3_arrange_67 : decode cX3_arrange 67 = .ok (.aload_n 1, 1) := by decide +kernel
theorem dX3_arrange_68 : decode cX3_arrange 68 = .ok (.invokevirtual 47, 3) := by decide +kernel
theorem dX3_arrange_71 : decode cX3_arrange 71 = .ok (.return_, 1) := by decide +kernel
theorem dX3_orderArguments_0 : decode cX3_orderArguments 0 = .ok (.iload_n 2, 1) := by decide +kernel
theorem dX3_orderArguments_1 : decode cX3_orderArguments 1 = .ok (.iconst 1, 1) := by decide +kernel
theorem dX3_orderArguments_2 : decode cX3_orderArguments 2 = .ok (.iadd, 1) := by decide +kernel
theorem dX3_orderArguments_3 : decode cX3_orderArguments 3 = .ok (.istore_n 3, 1) := by decide +kernel
theorem dX3_orderArguments_4 : decode cX3_orderArguments 4 = .ok (.aload_n 1, 1) := by decide +kernel
theorem dX3_orderArguments_5 : decode cX3_orderArguments 5 = .ok (.iload_n 2, 1) := by decide +kernel
theorem dX3_orderArguments_6 : decode cX3_orderArguments 6 = .ok (.invokevirtual 59, 3) := by decide +kernel
theorem dX3_orderArguments_9 : decode cX3_orderArguments 9 = .ok (.aload_n 0, 1) := by decide +kernel
theorem dX3_orderArguments_10 : decode cX3_orderArguments 10 = .ok (.getfield 22, 3) := by decide +kernel
theorem dX3_orderArguments_13 : decode cX3_orderArguments 13 = .ok (.arraylength, 1) := by decide +kernel
theorem dX3_orderArguments_14 : decode cX3_orderArguments 14 = .ok (.invokestatic 75, 3) := by decide +kernel
theorem dX3_orderArguments_17 : decode cX3_orderArguments 17 = .ok (.istore 4, 2) := by decide +kernel
theorem dX3_orderArguments_19 : decode cX3_orderArguments 19 = .ok (.iconst 0, 1) := by decide +kernel
theorem dX3_orderArguments_20 : decode cX3_orderArguments 20 = .ok (.istore 5, 2) := by decide +kernel
theorem dX3_orderArguments_22 : decode cX3_orderArguments 22 = .ok (.iload 5, 2) := by decide +kernel
theorem dX3_orderArguments_24 : decode cX3_orderArguments 24 = .ok (.iload 4, 2) := by decide +kernel
theorem dX3_orderArguments_26 : decode cX3_orderArguments 26 = .ok (.if_icmp .ge 73, 3) := by decide +kernel
theorem dX3_orderArguments_29 : decode cX3_orderArguments 29 = .ok (.iload 5, 2) := by decide +kernel
theorem dX3_orderArguments_31 : decode cX3_orderArguments 31 = .ok (.istore 6, 2) := by decide +kernel
theorem dX3_orderArguments_33 : decode cX3_orderArguments 33 = .ok (.iload 6, 2) := by decide +kernel
theorem dX3_orderArguments_35 : decode cX3_orderArguments 35 = .ok (.ifCond .le 42, 3) := by decide +kernel
theorem dX3_orderArguments_38 : decode cX3_orderArguments 38 = .ok (.aload_n 1, 1) := by decide +kernel
theorem dX3_orderArguments_39 : decode cX3_orderArguments 39 = .ok (.iload_n 3, 1) := by decide +kernel
theorem dX3_orderArguments_40 : decode cX3_orderArguments 40 = .ok (.aload_n 0, 1) := by decide +kernel
theorem dX3_orderArguments_41 : decode cX3_orderArguments 41 = .ok (.getfield 22, 3) := by decide +kernel
theorem dX3_orderArguments_44 : decode cX3_orderArguments 44 = .ok (.iload 6, 2) := by decide +kernel
theorem dX3_orderArguments_46 : decode cX3_orderArguments 46 = .ok (.iconst 1, 1) := by decide +kernel
theorem dX3_orderArguments_47 : decode cX3_orderArguments 47 = .ok (.isub, 1) := by decide +kernel
theorem dX3_orderArguments_48 : decode cX3_orderArguments 48 = .ok (.iaload, 1) := by decide +kernel
theorem dX3_orderArguments_49 : decode cX3_orderArguments 49 = .ok (.invokestatic 81, 3) := by decide +kernel
theorem dX3_orderArguments_52 : decode cX3_orderArguments 52 = .ok (.ifCond .eq 25, 3) := by decide +kernel
theorem dX3_orderArguments_55 : decode cX3_orderArguments 55 = .ok (.aload_n 0, 1) := by decide +kernel
theorem dX3_orderArguments_56 : decode cX3_orderArguments 56 = .ok (.getfield 22, 3) := by decide +kernel
theorem dX3_orderArguments_59 : decode cX3_orderArguments 59 = .ok (.iload 6, 2) := by decide +kernel
theorem dX3_orderArguments_61 : decode cX3_orderArguments 61 = .ok (.aload_n 0, 1) := by decide +kernel
theorem dX3_orderArguments_62 : decode cX3_orderArguments 62 = .ok (.getfield 22, 3) := by decide +kernel
theorem dX3_orderArguments_65 : decode cX3_orderArguments 65 = .ok (.iload 6, 2) := by decide +kernel
theorem dX3_orderArguments_67 : decode cX3_orderArguments 67 = .ok (.iconst 1, 1) := by decide +kernel
theorem dX3_orderArguments_68 : decode cX3_orderArguments 68 = .ok (.isub, 1) := by decide +kernel
theorem dX3_orderArguments_69 : decode cX3_orderArguments 69 = .ok (.iaload, 1) := by decide +kernel
theorem dX3_orderArguments_70 : decode cX3_orderArguments 70 = .ok (.iastore, 1) := by decide +kernel
theorem dX3_orderArguments_71 : decode cX3_orderArguments 71 = .ok (.iinc 6 (-1), 3) := by decide +kernel
theorem dX3_orderArguments_74 : decode cX3_orderArguments 74 = .ok (.goto (-41), 3) := by decide +kernel
theorem dX3_orderArguments_77 : decode cX3_orderArguments 77 = .ok (.aload_n 0, 1) := by decide +kernel
theorem dX3_orderArguments_78 : decode cX3_orderArguments 78 = .ok (.getfield 22, 3) := by decide +kernel
theorem dX3_orderArguments_81 : decode cX3_orderArguments 81 = .ok (.iload 6, 2) := by decide +kernel
theorem dX3_orderArguments_83 : decode cX3_orderArguments 83 = .ok (.iload_n 3, 1) := by decide +kernel
theorem dX3_orderArguments_84 : decode cX3_orderArguments 84 = .ok (.iastore, 1) := by decide +kernel
theorem dX3_orderArguments_85 : decode cX3_orderArguments 85 = .ok (.iload_n 3, 1) := by decide +kernel
theorem dX3_orderArguments_86 : decode cX3_orderArguments 86 = .ok (.aload_n 1, 1) := by decide +kernel
theorem dX3_orderArguments_87 : decode cX3_orderArguments 87 = .ok (.iload_n 3, 1) := by decide +kernel
theorem dX3_orderArguments_88 : decode cX3_orderArguments 88 = .ok (.invokevirtual 62, 3) := by decide +kernel
theorem dX3_orderArguments_91 : decode cX3_orderArguments 91 = .ok (.iadd, 1) := by decide +kernel
theorem dX3_orderArguments_92 : decode cX3_orderArguments 92 = .ok (.istore_n 3, 1) := by decide +kernel
theorem dX3_orderArguments_93 : decode cX3_orderArguments 93 = .ok (.iinc 5 1, 3) := by decide +kernel
theorem dX3_orderArguments_96 : decode cX3_orderArguments 96 = .ok (.goto (-74), 3) := by decide +kernel
theorem dX3_orderArguments_99 : decode cX3_orderArguments 99 = .ok (.return_, 1) := by decide +kernel
theorem dX3_precedes_0 : decode cX3_precedes 0 = .ok (.aload_n 0, 1) := by decide +kernel
theorem dX3_precedes_1 : decode cX3_precedes 1 = .ok (.iload_n 1, 1) := by decide +kernel
theorem dX3_precedes_2 : decode cX3_precedes 2 = .ok (.invokevirtual 62, 3) := by decide +kernel
theorem dX3_precedes_5 : decode cX3_precedes 5 = .ok (.istore_n 3, 1) := by decide +kernel
theorem dX3_precedes_6 : decode cX3_precedes 6 = .ok (.aload_n 0, 1) := by decide +kernel
theorem dX3_precedes_7 : decode cX3_precedes 7 = .ok (.iload_n 2, 1) := by decide +kernel
theorem dX3_precedes_8 : decode cX3_precedes 8 = .ok (.invokevirtual 62, 3) := by decide +kernel
theorem dX3_precedes_11 : decode cX3_precedes 11 = .ok (.istore 4, 2) := by decide +kernel
theorem dX3_precedes_13 : decode cX3_precedes 13 = .ok (.iload_n 3, 1) := by decide +kernel
theorem dX3_precedes_14 : decode cX3_precedes 14 = .ok (.iload 4, 2) := by decide +kernel
theorem dX3_precedes_16 : decode cX3_precedes 16 = .ok (.if_icmp .eq 17, 3) := by decide +kernel
theorem dX3_precedes_19 : decode cX3_precedes 19 = .ok (.iload_n 3, 1) := by decide +kernel
theorem dX3_precedes_20 : decode cX3_precedes 20 = .ok (.iload 4, 2) := by decide +kernel
theorem dX3_precedes_22 : decode cX3_precedes 22 = .ok (.if_icmp .ge 7, 3) := by decide +kernel
theorem dX3_precedes_25 : decode cX3_precedes 25 = .ok (.iconst 1, 1) := by decide +kernel
theorem dX3_precedes_26 : decode cX3_precedes 26 = .ok (.goto 23, 3) := by decide +kernel
theorem dX3_precedes_29 : decode cX3_precedes 29 = .ok (.iconst 0, 1) := by decide +kernel
theorem dX3_precedes_30 : decode cX3_precedes 30 = .ok (.goto 19, 3) := by decide +kernel
theorem dX3_precedes_33 : decode cX3_precedes 33 = .ok (.aload_n 0, 1) := by decide +kernel
theorem dX3_precedes_34 : decode cX3_precedes 34 = .ok (.iload_n 1, 1) := by decide +kernel
theorem dX3_precedes_35 : decode cX3_precedes 35 = .ok (.aload_n 0, 1) := by decide +kernel
theorem dX3_precedes_36 : decode cX3_precedes 36 = .ok (.iload_n 2, 1) := by decide +kernel
theorem dX3_precedes_37 : decode cX3_precedes 37 = .ok (.iload_n 3, 1) := by decide +kernel
theorem dX3_precedes_38 : decode cX3_precedes 38 = .ok (.invokevirtual 84, 3) := by decide +kernel
theorem dX3_precedes_41 : decode cX3_precedes 41 = .ok (.ifCond .ge 7, 3) := by decide +kernel
theorem dX3_precedes_44 : decode cX3_precedes 44 = .ok (.iconst 1, 1) := by decide +kernel
theorem dX3_precedes_45 : decode cX3_precedes 45 = .ok (.goto 4, 3) := by decide +kernel
theorem dX3_precedes_48 : decode cX3_precedes 48 = .ok (.iconst 0, 1) := by decide +kernel
theorem dX3_precedes_49 : decode cX3_precedes 49 = .ok (.ireturn, 1) := by decide +kernel
theorem dX3_moveArguments_0 : decode cX3_moveArguments 0 = .ok (.aload_n 1, 1) := by decide +kernel
theorem dX3_moveArguments_1 : decode cX3_moveArguments 1 = .ok (.iload_n 2, 1) := by decide +kernel
theorem dX3_moveArguments_2 : decode cX3_moveArguments 2 = .ok (.invokevirtual 59, 3) := by decide +kernel
theorem dX3_moveArguments_5 : decode cX3_moveArguments 5 = .ok (.aload_n 0, 1) := by decide +kernel
theorem dX3_moveArguments_6 : decode cX3_moveArguments 6 = .ok (.getfield 22, 3) := by decide +kernel
theorem dX3_moveArguments_9 : decode cX3_moveArguments 9 = .ok (.arraylength, 1) := by decide +kernel
theorem dX3_moveArguments_10 : decode cX3_moveArguments 10 = .ok (.invokestatic 75, 3) := by decide +kernel
theorem dX3_moveArguments_13 : decode cX3_moveArguments 13 = .ok (.istore_n 3, 1) := by decide +kernel
theorem dX3_moveArguments_14 : decode cX3_moveArguments 14 = .ok (.iconst 0, 1) := by decide +kernel
theorem dX3_moveArguments_15 : decode cX3_moveArguments 15 = .ok (.istore 4, 2) := by decide +kernel
theorem dX3_moveArguments_17 : decode cX3_moveArguments 17 = .ok (.iconst 0, 1) := by decide +kernel
theorem dX3_moveArguments_18 : decode cX3_moveArguments 18 = .ok (.istore 5, 2) := by decide +kernel
theorem dX3_moveArguments_20 : decode cX3_moveArguments 20 = .ok (.iload 5, 2) := by decide +kernel
theorem dX3_moveArguments_22 : decode cX3_moveArguments 22 = .ok (.iload_n 3, 1) := by decide +kernel
theorem dX3_moveArguments_23 : decode cX3_moveArguments 23 = .ok (.if_icmp .ge 79, 3) := by decide +kernel
theorem dX3_moveArguments_26 : decode cX3_moveArguments 26 = .ok (.aload_n 0, 1) := by decide +kernel
theorem dX3_moveArguments_27 : decode cX3_moveArguments 27 = .ok (.getfield 22, 3) := by decide +kernel
theorem dX3_moveArguments_30 : decode cX3_moveArguments 30 = .ok (.iload 5, 2) := by decide +kernel
theorem dX3_moveArguments_32 : decode cX3_moveArguments 32 = .ok (.iaload, 1) := by decide +kernel
theorem dX3_moveArguments_33 : decode cX3_moveArguments 33 = .ok (.istore 6, 2) := by decide +kernel
theorem dX3_moveArguments_35 : decode cX3_moveArguments 35 = .ok (.iload 6, 2) := by decide +kernel
theorem dX3_moveArguments_37 : decode cX3_moveArguments 37 = .ok (.aload_n 1, 1) := by decide +kernel
theorem dX3_moveArguments_38 : decode cX3_moveArguments 38 = .ok (.iload 6, 2) := by decide +kernel
theorem dX3_moveArguments_40 : decode cX3_moveArguments 40 = .ok (.invokevirtual 62, 3) := by decide +kernel
theorem dX3_moveArguments_43 : decode cX3_moveArguments 43 = .ok (.iadd, 1) := by decide +kernel
theorem dX3_moveArguments_44 : decode cX3_moveArguments 44 = .ok (.istore 7, 2) := by decide +kernel
theorem dX3_moveArguments_46 : decode cX3_moveArguments 46 = .ok (.iload 6, 2) := by decide +kernel
theorem dX3_moveArguments_48 : decode cX3_moveArguments 48 = .ok (.istore 8, 2) := by decide +kernel
theorem dX3_moveArguments_50 : decode cX3_moveArguments 50 = .ok (.iload 8, 2) := by decide +kernel
theorem dX3_moveArguments_52 : decode cX3_moveArguments 52 = .ok (.iload 7, 2) := by decide +kernel
theorem dX3_moveArguments_54 : decode cX3_moveArguments 54 = .ok (.if_icmp .ge 42, 3) := by decide +kernel
theorem dX3_moveArguments_57 : decode cX3_moveArguments 57 = .ok (.iload 8, 2) := by decide +kernel
theorem dX3_moveArguments_59 : decode cX3_moveArguments 59 = .ok (.aload_n 1, 1) := by decide +kernel
theorem dX3_moveArguments_60 : decode cX3_moveArguments 60 = .ok (.getfield 28, 3) := by decide +kernel
theorem dX3_moveArguments_63 : decode cX3_moveArguments 63 = .ok (.if_icmp .ge 33, 3) := by decide +kernel
theorem dX3_moveArguments_66 : decode cX3_moveArguments 66 = .ok (.iload 4, 2) := by decide +kernel
theorem dX3_moveArguments_68 : decode cX3_moveArguments 68 = .ok (.bipush 32, 2) := by decide +kernel
theorem dX3_moveArguments_70 : decode cX3_moveArguments 70 = .ok (.if_icmp .ge 26, 3) := by decide +kernel
theorem dX3_moveArguments_73 : decode cX3_moveArguments 73 = .ok (.aload_n 0, 1) := by decide +kernel
theorem dX3_moveArguments_74 : decode cX3_moveArguments 74 = .ok (.getfield 25, 3) := by decide +kernel
theorem dX3_moveArguments_77 : decode cX3_moveArguments 77 = .ok (.iload 4, 2) := by decide +kernel
theorem dX3_moveArguments_79 : decode cX3_moveArguments 79 = .ok (.aload_n 1, 1) := by decide +kernel
theorem dX3_moveArguments_80 : decode cX3_moveArguments 80 = .ok (.getfield 88, 3) := by decide +kernel
theorem dX3_moveArguments_83 : decode cX3_moveArguments 83 = .ok (.iload 8, 2) := by decide +kernel
theorem dX3_moveArguments_85 : decode cX3_moveArguments 85 = .ok (.iaload, 1) := by decide +kernel
theorem dX3_moveArguments_86 : decode cX3_moveArguments 86 = .ok (.iastore, 1) := by decide +kernel
theorem dX3_moveArguments_87 : decode cX3_moveArguments 87 = .ok (.iinc 4 1, 3) := by decide +kernel
theorem dX3_moveArguments_90 : decode cX3_moveArguments 90 = .ok (.iinc 8 1, 3) := by decide +kernel
theorem dX3_moveArguments_93 : decode cX3_moveArguments 93 = .ok (.goto (-43), 3) := by decide +kernel
theorem dX3_moveArguments_96 : decode cX3_moveArguments 96 = .ok (.iinc 5 1, 3) := by decide +kernel
theorem dX3_moveArguments_99 : decode cX3_moveArguments 99 = .ok (.goto (-79), 3) := by decide +kernel
theorem dX3_moveArguments_102 : decode cX3_moveArguments 102 = .ok (.iconst 0, 1) := by decide +kernel
theorem dX3_moveArguments_103 : decode cX3_moveArguments 103 = .ok (.istore 5, 2) := by decide +kernel
theorem dX3_moveArguments_105 : decode cX3_moveArguments 105 = .ok (.iload 5, 2) := by decide +kernel
theorem dX3_moveArguments_107 : decode cX3_moveArguments 107 = .ok (.iload 4, 2) := by decide +kernel
theorem dX3_moveArguments_109 : decode cX3_moveArguments 109 = .ok (.if_icmp .ge 40, 3) := by decide +kernel
theorem dX3_moveArguments_112 : decode cX3_moveArguments 112 = .ok (.iload_n 2, 1) := by decide +kernel
theorem dX3_moveArguments_113 : decode cX3_moveArguments 113 = .ok (.iconst 1, 1) := by decide +kernel
theorem dX3_moveArguments_114 : decode cX3_moveArguments 114 = .ok (.iadd, 1) := by decide +kernel
theorem dX3_moveArguments_115 : decode cX3_moveArguments 115 = .ok (.iload 5, 2) := by decide +kernel
theorem dX3_moveArguments_117 : decode cX3_moveArguments 117 = .ok (.iadd, 1) := by decide +kernel
theorem dX3_moveArguments_118 : decode cX3_moveArguments 118 = .ok (.aload_n 1, 1) := by decide +kernel
theorem dX3_moveArguments_119 : decode cX3_moveArguments 119 = .ok (.getfield 28, 3) := by decide +kernel
theorem dX3_moveArguments_122 : decode cX3_moveArguments 122 = .ok (.if_icmp .ge 27, 3) := by decide +kernel
theorem dX3_moveArguments_125 : decode cX3_moveArguments 125 = .ok (.aload_n 1, 1) := by decide +kernel
theorem dX3_moveArguments_126 : decode cX3_moveArguments 126 = .ok (.getfield 88, 3) := by decide +kernel
theorem dX3_moveArguments_129 : decode cX3_moveArguments 129 = .ok (.iload_n 2, 1) := by decide +kernel
theorem dX3_moveArguments_130 : decode cX3_moveArguments 130 = .ok (.iconst 1, 1) := by decide +kernel
theorem dX3_moveArguments_131 : decode cX3_moveArguments 131 = .ok (.iadd, 1) := by decide +kernel
theorem dX3_moveArguments_132 : decode cX3_moveArguments 132 = .ok (.iload 5, 2) := by decide +kernel
theorem dX3_moveArguments_134 : decode cX3_moveArguments 134 = .ok (.iadd, 1) := by decide +kernel
theorem dX3_moveArguments_135 : decode cX3_moveArguments 135 = .ok (.aload_n 0, 1) := by decide +kernel
theorem dX3_moveArguments_136 : decode cX3_moveArguments 136 = .ok (.getfield 25, 3) := by decide +kernel
theorem dX3_moveArguments_139 : decode cX3_moveArguments 139 = .ok (.iload 5, 2) := by decide +kernel
theorem dX3_moveArguments_141 : decode cX3_moveArguments 141 = .ok (.iaload, 1) := by decide +kernel
theorem dX3_moveArguments_142 : decode cX3_moveArguments 142 = .ok (.iastore, 1) := by decide +kernel
theorem dX3_moveArguments_143 : decode cX3_moveArguments 143 = .ok (.iinc 5 1, 3) := by decide +kernel
theorem dX3_moveArguments_146 : decode cX3_moveArguments 146 = .ok (.goto (-41), 3) := by decide +kernel
theorem dX3_moveArguments_149 : decode cX3_moveArguments 149 = .ok (.return_, 1) := by decide +kernel
theorem dX4_init_0 : decode cX4_init 0 = .ok (.aload_n 0, 1) := by decide +kernel
theorem dX4_init_1 : decode cX4_init 1 = .ok (.invokespecial 3, 3) := by decide +kernel
theorem dX4_init_4 : decode cX4_init 4 = .ok (.aload_n 0, 1) := by decide +kernel
theorem dX4_init_5 : decode cX4_init 5 = .ok (.bipush 8, 2) := by decide +kernel
theorem dX4_init_7 : decode cX4_init 7 = .ok (.anewarray 9, 3) := by decide +kernel
theorem dX4_init_10 : decode cX4_init 10 = .ok (.putfield 11, 3) := by decide +kernel
theorem dX4_init_13 : decode cX4_init 13 = .ok (.aload_n 0, 1) := by decide +kernel
theorem dX4_init_14 : decode cX4_init 14 = .ok (.iconst 4, 1) := by decide +kernel
theorem dX4_init_15 : decode cX4_init 15 = .ok (.newarray .int, 2) := by decide +kernel
theorem dX4_init_17 : decode cX4_init 17 = .ok (.putfield 17, 3) := by decide +kernel
theorem dX4_init_20 : decode cX4_init 20 = .ok (.return_, 1) := by decide +kernel
theorem dX4_term_0 : decode cX4_term 0 = .ok (.iload_n 1, 1) := by decide +kernel
theorem dX4_term_1 : decode cX4_term 1 = .ok (.ifCond .lt 21, 3) := by decide +kernel
theorem dX4_term_4 : decode cX4_term 4 = .ok (.iload_n 1, 1) := by decide +kernel
theorem dX4_term_5 : decode cX4_term 5 = .ok (.aload_n 0, 1) := by decide +kernel
theorem dX4_term_6 : decode cX4_term 6 = .ok (.getfield 11, 3) := by decide +kernel
theorem dX4_term_9 : decode cX4_term 9 = .ok (.arraylength, 1) := by decide +kernel
theorem dX4_term_10 : decode cX4_term 10 = .ok (.if_icmp .ge 12, 3) := by decide +kernel
theorem dX4_term_13 : decode cX4_term 13 = .ok (.aload_n 0, 1) := by decide +kernel
theorem dX4_term_14 : decode cX4_term 14 = .ok (.getfield 11, 3) := by decide +kernel
theorem dX4_term_17 : decode cX4_term 17 = .ok (.iload_n 1, 1) := by decide +kernel
theorem dX4_term_18 : decode cX4_term 18 = .ok (.aaload, 1) := by decide +kernel
theorem dX4_term_19 : decode cX4_term 19 = .ok (.goto 4, 3) := by decide +kernel
theorem dX4_term_22 : decode cX4_term 22 = .ok (.aconst_null, 1) := by decide +kernel
theorem dX4_term_23 : decode cX4_term 23 = .ok (.areturn, 1) := by decide +kernel
theorem dX4_hold_0 : decode cX4_hold 0 = .ok (.iload_n 1, 1) := by decide +kernel
theorem dX4_hold_1 : decode cX4_hold 1 = .ok (.ifCond .lt 19, 3) := by decide +kernel
theorem dX4_hold_4 : decode cX4_hold 4 = .ok (.iload_n 1, 1) := by decide +kernel
theorem dX4_hold_5 : decode cX4_hold 5 = .ok (.aload_n 0, 1) := by decide +kernel
theorem dX4_hold_6 : decode cX4_hold 6 = .ok (.getfield 11, 3) := by decide +kernel
theorem dX4_hold_9 : decode cX4_hold 9 = .ok (.arraylength, 1) := by decide +kernel
theorem dX4_hold_10 : decode cX4_hold 10 = .ok (.if_icmp .ge 10, 3) := by decide +kernel
theorem dX4_hold_13 : decode cX4_hold 13 = .ok (.aload_n 0, 1) := by decide +kernel
theorem dX4_hold_14 : decode cX4_hold 14 = .ok (.getfield 11, 3) := by decide +kernel
theorem dX4_hold_17 : decode cX4_hold 17 = .ok (.iload_n 1, 1) := by decide +kernel
theorem dX4_hold_18 : decode cX4_hold 18 = .ok (.aload_n 2, 1) := by decide +kernel
theorem dX4_hold_19 : decode cX4_hold 19 = .ok (.aastore, 1) := by decide +kernel
theorem dX4_hold_20 : decode cX4_hold 20 = .ok (.return_, 1) := by decide +kernel
theorem dX4_setting_0 : decode cX4_setting 0 = .ok (.iload_n 1, 1) := by decide +kernel
theorem dX4_setting_1 : decode cX4_setting 1 = .ok (.ifCond .lt 21, 3) := by decide +kernel
theorem dX4_setting_4 : decode cX4_setting 4 = .ok (.iload_n 1, 1) := by decide +kernel
theorem dX4_setting_5 : decode cX4_setting 5 = .ok (.aload_n 0, 1) := by decide +kernel
theorem dX4_setting_6 : decode cX4_setting 6 = .ok (.getfield 17, 3) := by decide +kernel
theorem dX4_setting_9 : decode cX4_setting 9 = .ok (.arraylength, 1) := by decide +kernel
theorem dX4_setting_10 : decode cX4_setting 10 = .ok (.if_icmp .ge 12, 3) := by decide +kernel
theorem dX4_setting_13 : decode cX4_setting 13 = .ok (.aload_n 0, 1) := by decide +kernel
theorem dX4_setting_14 : decode cX4_setting 14 = .ok (.getfield 17, 3) := by decide +kernel
theorem dX4_setting_17 : decode cX4_setting 17 = .ok (.iload_n 1, 1) := by decide +kernel
theorem dX4_setting_18 : decode cX4_setting 18 = .ok (.iaload, 1) := by decide +kernel
theorem dX4_setting_19 : decode cX4_setting 19 = .ok (.goto 4, 3) := by decide +kernel
theorem dX4_setting_22 : decode cX4_setting 22 = .ok (.iconst 0, 1) := by decide +kernel
theorem dX4_setting_23 : decode cX4_setting 23 = .ok (.ireturn, 1) := by decide +kernel
theorem dX4_choose_0 : decode cX4_choose 0 = .ok (.iload_n 1, 1) := by decide +kernel
theorem dX4_choose_1 : decode cX4_choose 1 = .ok (.ifCond .lt 19, 3) := by decide +kernel
theorem dX4_choose_4 : decode cX4_choose 4 = .ok (.iload_n 1, 1) := by decide +kernel
theorem dX4_choose_5 : decode cX4_choose 5 = .ok (.aload_n 0, 1) := by decide +kernel
theorem dX4_choose_6 : decode cX4_choose 6 = .ok (.getfield 17, 3) := by decide +kernel
theorem dX4_choose_9 : decode cX4_choose 9 = .ok (.arraylength, 1) := by decide +kernel
theorem dX4_choose_10 : decode cX4_choose 10 = .ok (.if_icmp .ge 10, 3) := by decide +kernel
theorem dX4_choose_13 : decode cX4_choose 13 = .ok (.aload_n 0, 1) := by decide +kernel
theorem dX4_choose_14 : decode cX4_choose 14 = .ok (.getfield 17, 3) := by decide +kernel
theorem dX4_choose_17 : decode cX4_choose 17 = .ok (.iload_n 1, 1) := by decide +kernel
theorem dX4_choose_18 : decode cX4_choose 18 = .ok (.iload_n 2, 1) := by decide +kernel
theorem dX4_choose_19 : decode cX4_choose 19 = .ok (.iastore, 1) := by decide +kernel
theorem dX4_choose_20 : decode cX4_choose 20 = .ok (.return_, 1) := by decide +kernel
theorem dX4_registersHeld_0 : decode cX4_registersHeld 0 = .ok (.iconst 0, 1) := by decide +kernel
theorem dX4_registersHeld_1 : decode cX4_registersHeld 1 = .ok (.istore_n 1, 1) := by decide +kernel
theorem dX4_registersHeld_2 : decode cX4_registersHeld 2 = .ok (.iconst 0, 1) := by decide +kernel
theorem dX4_registersHeld_3 : decode cX4_registersHeld 3 = .ok (.istore_n 2, 1) := by decide +kernel
theorem dX4_registersHeld_4 : decode cX4_registersHeld 4 = .ok (.iload_n 2, 1) := by decide +kernel
theorem dX4_registersHeld_5 : decode cX4_registersHeld 5 = .ok (.aload_n 0, 1) := by decide +kernel
theorem dX4_registersHeld_6 : decode cX4_registersHeld 6 = .ok (.getfield 11, 3) := by decide +kernel
theorem dX4_registersHeld_9 : decode cX4_registersHeld 9 = .ok (.arraylength, 1) := by decide +kernel
theorem dX4_registersHeld_10 : decode cX4_registersHeld 10 = .ok (.if_icmp .ge 24, 3) := by decide +kernel
theorem dX4_registersHeld_13 : decode cX4_registersHeld 13 = .ok (.aload_n 0, 1) := by decide +kernel
theorem dX4_registersHeld_14 : decode cX4_registersHeld 14 = .ok (.getfield 11, 3) := by decide +kernel
theorem dX4_registersHeld_17 : decode cX4_registersHeld 17 = .ok (.iload_n 2, 1) := by decide +kernel
theorem dX4_registersHeld_18 : decode cX4_registersHeld 18 = .ok (.aaload, 1) := by decide +kernel
theorem dX4_registersHeld_19 : decode cX4_registersHeld 19 = .ok (.ifnull 9, 3) := by decide +kernel
theorem dX4_registersHeld_22 : decode cX4_registersHeld 22 = .ok (.iload_n 1, 1) := by decide +kernel
theorem dX4_registersHeld_23 : decode cX4_registersHeld 23 = .ok (.iconst 1, 1) := by decide +kernel
theorem dX4_registersHeld_24 : decode cX4_registersHeld 24 = .ok (.iload_n 2, 1) := by decide +kernel
theorem dX4_registersHeld_25 : decode cX4_registersHeld 25 = .ok (.ishl, 1) := by decide +kernel
theorem dX4_registersHeld_26 : decode cX4_registersHeld 26 = .ok (.ior, 1) := by decide +kernel
theorem dX4_registersHeld_27 : decode cX4_registersHeld 27 = .ok (.istore_n 1, 1) := by decide +kernel
theorem dX4_registersHeld_28 : decode cX4_registersHeld 28 = .ok (.iinc 2 1, 3) := by decide +kernel
theorem dX4_registersHeld_31 : decode cX4_registersHeld 31 = .ok (.goto (-27), 3) := by decide +kernel
theorem dX4_registersHeld_34 : decode cX4_registersHeld 34 = .ok (.iload_n 1, 1) := by decide +kernel
theorem dX4_registersHeld_35 : decode cX4_registersHeld 35 = .ok (.ireturn, 1) := by decide +kernel
theorem dX4_nodes_0 : decode cX4_nodes 0 = .ok (.iconst 0, 1) := by decide +kernel
theorem dX4_nodes_1 : decode cX4_nodes 1 = .ok (.istore_n 1, 1) := by decide +kernel
theorem dX4_nodes_2 : decode cX4_nodes 2 = .ok (.iconst 0, 1) := by decide +kernel
theorem dX4_nodes_3 : decode cX4_nodes 3 = .ok (.istore_n 2, 1) := by decide +kernel
theorem dX4_nodes_4 : decode cX4_nodes 4 = .ok (.iload_n 2, 1) := by decide +kernel
theorem dX4_nodes_5 : decode cX4_nodes 5 = .ok (.aload_n 0, 1) := by decide +kernel
theorem dX4_nodes_6 : decode cX4_nodes 6 = .ok (.getfield 11, 3) := by decide +kernel
theorem dX4_nodes_9 : decode cX4_nodes 9 = .ok (.arraylength, 1) := by decide +kernel
theorem dX4_nodes_10 : decode cX4_nodes 10 = .ok (.if_icmp .ge 27, 3) := by decide +kernel
theorem dX4_nodes_13 : decode cX4_nodes 13 = .ok (.aload_n 0, 1) := by decide +kernel
theorem dX4_nodes_14 : decode cX4_nodes 14 = .ok (.getfield 11, 3) := by decide +kernel
theorem dX4_nodes_17 : decode cX4_nodes 17 = .ok (.iload_n 2, 1) := by decide +kernel
theorem dX4_nodes_18 : decode cX4_nodes 18 = .ok (.aaload, 1) := by decide +kernel
theorem dX4_nodes_19 : decode cX4_nodes 19 = .ok (.astore_n 3, 1) := by decide +kernel
theorem dX4_nodes_20 : decode cX4_nodes 20 = .ok (.aload_n 3, 1) := by decide +kernel
theorem dX4_nodes_21 : decode cX4_nodes 21 = .ok (.ifnull 10, 3) := by decide +kernel
theorem dX4_nodes_24 : decode cX4_nodes 24 = .ok (.iload_n 1, 1) := by decide +kernel
theorem dX4_nodes_25 : decode cX4_nodes 25 = .ok (.aload_n 3, 1) := by decide +kernel
theorem dX4_nodes_26 : decode cX4_nodes 26 = .ok (.getfield 21, 3) := by decide +kernel
theorem dX4_nodes_29 : decode cX4_nodes 29 = .ok (.iadd, 1) := by decide +kernel
theorem dX4_nodes_30 : decode cX4_nodes 30 = .ok (.istore_n 1, 1) := by decide +kernel
theorem dX4_nodes_31 : decode cX4_nodes 31 = .ok (.iinc 2 1, 3) := by decide +kernel
theorem dX4_nodes_34 : decode cX4_nodes 34 = .ok (.goto (-30), 3) := by decide +kernel
theorem dX4_nodes_37 : decode cX4_nodes 37 = .ok (.iload_n 1, 1) := by decide +kernel
theorem dX4_nodes_38 : decode cX4_nodes 38 = .ok (.ireturn, 1) := by decide +kernel
theorem dX4_copyFrom_0 : decode cX4_copyFrom 0 = .ok (.iconst 0, 1) := by decide +kernel
theorem dX4_copyFrom_1 : decode cX4_copyFrom 1 = .ok (.istore_n 2, 1) := by decide +kernel
theorem dX4_copyFrom_2 : decode cX4_copyFrom 2 = .ok (.iload_n 2, 1) := by decide +kernel
theorem dX4_copyFrom_3 : decode cX4_copyFrom 3 = .ok (.aload_n 0, 1) := by decide +kernel
theorem dX4_copyFrom_4 : decode cX4_copyFrom 4 = .ok (.getfield 11, 3) := by decide +kernel
theorem dX4_copyFrom_7 : decode cX4_copyFrom 7 = .ok (.arraylength, 1) := by decide +kernel
theorem dX4_copyFrom_8 : decode cX4_copyFrom 8 = .ok (.if_icmp .ge 20, 3) := by decide +kernel
theorem dX4_copyFrom_11 : decode cX4_copyFrom 11 = .ok (.aload_n 0, 1) := by decide +kernel
theorem dX4_copyFrom_12 : decode cX4_copyFrom 12 = .ok (.getfield 11, 3) := by decide +kernel
theorem dX4_copyFrom_15 : decode cX4_copyFrom 15 = .ok (.iload_n 2, 1) := by decide +kernel
theorem dX4_copyFrom_16 : decode cX4_copyFrom 16 = .ok (.aload_n 1, 1) := by decide +kernel
theorem dX4_copyFrom_17 : decode cX4_copyFrom 17 = .ok (.iload_n 2, 1) := by decide +kernel
theorem dX4_copyFrom_18 : decode cX4_copyFrom 18 = .ok (.invokevirtual 25, 3) := by decide +kernel
theorem dX4_copyFrom_21 : decode cX4_copyFrom 21 = .ok (.aastore, 1) := by decide +kernel
theorem dX4_copyFrom_22 : decode cX4_copyFrom 22 = .ok (.iinc 2 1, 3) := by decide +kernel
theorem dX4_copyFrom_25 : decode cX4_copyFrom 25 = .ok (.goto (-23), 3) := by decide +kernel
theorem dX4_copyFrom_28 : decode cX4_copyFrom 28 = .ok (.iconst 0, 1) := by decide +kernel
theorem dX4_copyFrom_29 : decode cX4_copyFrom 29 = .ok (.istore_n 2, 1) := by decide +kernel
theorem dX4_copyFrom_30 : decode cX4_copyFrom 30 = .ok (.iload_n 2, 1) := by decide +kernel
theorem dX4_copyFrom_31 : decode cX4_copyFrom 31 = .ok (.aload_n 0, 1) := by decide +kernel
theorem dX4_copyFrom_32 : decode cX4_copyFrom 32 = .ok (.getfield 17, 3) := by decide +kernel
theorem dX4_copyFrom_35 : decode cX4_copyFrom 35 = .ok (.arraylength, 1) := by decide +kernel
theorem dX4_copyFrom_36 : decode cX4_copyFrom 36 = .ok (.if_icmp .ge 20, 3) := by decide +kernel
theorem dX4_copyFrom_39 : decode cX4_copyFrom 39 = .ok (.aload_n 0, 1) := by decide +kernel
theorem dX4_copyFrom_40 : decode cX4_copyFrom 40 = .ok (.getfield 17, 3) := by decide +kernel
theorem dX4_copyFrom_43 : decode cX4_copyFrom 43 = .ok (.iload_n 2, 1) := by decide +kernel
theorem dX4_copyFrom_44 : decode cX4_copyFrom 44 = .ok (.aload_n 1, 1) := by decide +kernel
theorem dX4_copyFrom_45 : decode cX4_copyFrom 45 = .ok (.iload_n 2, 1) := by decide +kernel
theorem dX4_copyFrom_46 : decode cX4_copyFrom 46 = .ok (.invokevirtual 29, 3) := by decide +kernel
theorem dX4_copyFrom_49 : decode cX4_copyFrom 49 = .ok (.iastore, 1) := by decide +kernel
theorem dX4_copyFrom_50 : decode cX4_copyFrom 50 = .ok (.iinc 2 1, 3) := by decide +kernel
theorem dX4_copyFrom_53 : decode cX4_copyFrom 53 = .ok (.goto (-23), 3) := by decide +kernel
theorem dX4_copyFrom_56 : decode cX4_copyFrom 56 = .ok (.return_, 1) := by decide +kernel
theorem dX5_init_0 : decode cX5_init 0 = .ok (.aload_n 0, 1) := by decide +kernel
theorem dX5_init_1 : decode cX5_init 1 = .ok (.invokespecial 3, 3) := by decide +kernel
theorem dX5_init_4 : decode cX5_init 4 = .ok (.aload_n 0, 1) := by decide +kernel
theorem dX5_init_5 : decode cX5_init 5 = .ok (.bipush 32, 2) := by decide +kernel
theorem dX5_init_7 : decode cX5_init 7 = .ok (.newarray .int, 2) := by decide +kernel
theorem dX5_init_9 : decode cX5_init 9 = .ok (.putfield 9, 3) := by decide +kernel
theorem dX5_init_12 : decode cX5_init 12 = .ok (.aload_n 0, 1) := by decide +kernel
theorem dX5_init_13 : decode cX5_init 13 = .ok (.bipush 32, 2) := by decide +kernel
theorem dX5_init_15 : decode cX5_init 15 = .ok (.newarray .int, 2) := by decide +kernel
theorem dX5_init_17 : decode cX5_init 17 = .ok (.putfield 15, 3) := by decide +kernel
theorem dX5_init_20 : decode cX5_init 20 = .ok (.aload_n 0, 1) := by decide +kernel
theorem dX5_init_21 : decode cX5_init 21 = .ok (.bipush 32, 2) := by decide +kernel
theorem dX5_init_23 : decode cX5_init 23 = .ok (.newarray .int, 2) := by decide +kernel
theorem dX5_init_25 : decode cX5_init 25 = .ok (.putfield 18, 3) := by decide +kernel
theorem dX5_init_28 : decode cX5_init 28 = .ok (.aload_n 0, 1) := by decide +kernel
theorem dX5_init_29 : decode cX5_init 29 = .ok (.iconst 0, 1) := by decide +kernel
theorem dX5_init_30 : decode cX5_init 30 = .ok (.putfield 21, 3) := by decide +kernel
theorem dX5_init_33 : decode cX5_init 33 = .ok (.return_, 1) := by decide +kernel
theorem dX5_sortOf_0 : decode cX5_sortOf 0 = .ok (.iload_n 1, 1) := by decide +kernel
theorem dX5_sortOf_1 : decode cX5_sortOf 1 = .ok (.ifCond .lt 23, 3) := by decide +kernel
theorem dX5_sortOf_4 : decode cX5_sortOf 4 = .ok (.iload_n 1, 1) := by decide +kernel
theorem dX5_sortOf_5 : decode cX5_sortOf 5 = .ok (.aload_n 0, 1) := by decide +kernel
theorem dX5_sortOf_6 : decode cX5_sortOf 6 = .ok (.getfield 21, 3) := by decide +kernel
theorem dX5_sortOf_9 : decode cX5_sortOf 9 = .ok (.if_icmp .ge 15, 3) := by decide +kernel
theorem dX5_sortOf_12 : decode cX5_sortOf 12 = .ok (.aload_n 0, 1) := by decide +kernel
theorem dX5_sortOf_13 : decode cX5_sortOf 13 = .ok (.getfield 9, 3) := by decide +kernel
theorem dX5_sortOf_16 : decode cX5_sortOf 16 = .ok (.iload_n 1, 1) := by decide +kernel
theorem dX5_sortOf_17 : decode cX5_sortOf 17 = .ok (.iaload, 1) := by decide +kernel
theorem dX5_sortOf_18 : decode cX5_sortOf 18 = .ok (.bipush 8, 2) := by decide +kernel
theorem dX5_sortOf_20 : decode cX5_sortOf 20 = .ok (.ishr, 1) := by decide +kernel
theorem dX5_sortOf_21 : decode cX5_sortOf 21 = .ok (.goto 4, 3) := by decide +kernel
theorem dX5_sortOf_24 : decode cX5_sortOf 24 = .ok (.iconst (-1), 1) := by decide +kernel
theorem dX5_sortOf_25 : decode cX5_sortOf 25 = .ok (.ireturn, 1) := by decide +kernel
theorem dX5_numberOf_0 : decode cX5_numberOf 0 = .ok (.iload_n 1, 1) := by decide +kernel
theorem dX5_numberOf_1 : decode cX5_numberOf 1 = .ok (.ifCond .lt 25, 3) := by decide +kernel
theorem dX5_numberOf_4 : decode cX5_numberOf 4 = .ok (.iload_n 1, 1) := by decide +kernel
theorem dX5_numberOf_5 : decode cX5_numberOf 5 = .ok (.aload_n 0, 1) := by decide +kernel
theorem dX5_numberOf_6 : decode cX5_numberOf 6 = .ok (.getfield 21, 3) := by decide +kernel
theorem dX5_numberOf_9 : decode cX5_numberOf 9 = .ok (.if_icmp .ge 17, 3) := by decide +kernel
theorem dX5_numberOf_12 : decode cX5_numberOf 12 = .ok (.aload_n 0, 1) := by decide +kernel
theorem dX5_numberOf_13 : decode cX5_numberOf 13 = .ok (.getfield 9, 3) := by decide +kernel
theorem dX5_numberOf_16 : decode cX5_numberOf 16 = .ok (.iload_n 1, 1) := by decide +kernel
theorem dX5_numberOf_17 : decode cX5_numberOf 17 = .ok (.iaload, 1) := by decide +kernel
theorem dX5_numberOf_18 : decode cX5_numberOf 18 = .ok (.iconst 4, 1) := by decide +kernel
theorem dX5_numberOf_19 : decode cX5_numberOf 19 = .ok (.ishr, 1) := by decide +kernel
theorem dX5_numberOf_20 : decode cX5_numberOf 20 = .ok (.bipush 15, 2) := by decide +kernel
theorem dX5_numberOf_22 : decode cX5_numberOf 22 = .ok (.iand, 1) := by decide +kernel
theorem dX5_numberOf_23 : decode cX5_numberOf 23 = .ok (.goto 4, 3) := by decide +kernel
theorem dX5_numberOf_26 : decode cX5_numberOf 26 = .ok (.iconst 0, 1) := by decide +kernel
theorem dX5_numberOf_27 : decode cX5_numberOf 27 = .ok (.ireturn, 1) := by decide +kernel
theorem dX5_headOf_0 : decode cX5_headOf 0 = .ok (.iload_n 1, 1) := by decide +kernel
theorem dX5_headOf_1 : decode cX5_headOf 1 = .ok (.ifCond .lt 22, 3) := by decide +kernel
theorem dX5_headOf_4 : decode cX5_headOf 4 = .ok (.iload_n 1, 1) := by decide +kernel
theorem dX5_headOf_5 : decode cX5_headOf 5 = .ok (.aload_n 0, 1) := by decide +kernel
theorem dX5_headOf_6 : decode cX5_headOf 6 = .ok (.getfield 21, 3) := by decide +kernel
theorem dX5_headOf_9 : decode cX5_headOf 9 = .ok (.if_icmp .ge 14, 3) := by decide +kernel
theorem dX5_headOf_12 : decode cX5_headOf 12 = .ok (.aload_n 0, 1) := by decide +kernel
theorem dX5_headOf_13 : decode cX5_headOf 13 = .ok (.getfield 9, 3) := by decide +kernel
theorem dX5_headOf_16 : decode cX5_headOf 16 = .ok (.iload_n 1, 1) := by decide +kernel
theorem dX5_headOf_17 : decode cX5_headOf 17 = .ok (.iaload, 1) := by decide +kernel
theorem dX5_headOf_18 : decode cX5_headOf 18 = .ok (.iconst 4, 1) := by decide +kernel
theorem dX5_headOf_19 : decode cX5_headOf 19 = .ok (.ishr, 1) := by decide +kernel
theorem dX5_headOf_20 : decode cX5_headOf 20 = .ok (.goto 4, 3) := by decide +kernel
theorem dX5_headOf_23 : decode cX5_headOf 23 = .ok (.iconst (-1), 1) := by decide +kernel
theorem dX5_headOf_24 : decode cX5_headOf 24 = .ok (.ireturn, 1) := by decide +kernel
theorem dX5_argumentsOf_0 : decode cX5_argumentsOf 0 = .ok (.iload_n 1, 1) := by decide +kernel
theorem dX5_argumentsOf_1 : decode cX5_argumentsOf 1 = .ok (.ifCond .lt 23, 3) := by decide +kernel
theorem dX5_argumentsOf_4 : decode cX5_argumentsOf 4 = .ok (.iload_n 1, 1) := by decide +kernel
theorem dX5_argumentsOf_5 : decode cX5_argumentsOf 5 = .ok (.aload_n 0, 1) := by decide +kernel
theorem dX5_argumentsOf_6 : decode cX5_argumentsOf 6 = .ok (.getfield 21, 3) := by decide +kernel
theorem dX5_argumentsOf_9 : decode cX5_argumentsOf 9 = .ok (.if_icmp .ge 15, 3) := by decide +kernel
theorem dX5_argumentsOf_12 : decode cX5_argumentsOf 12 = .ok (.aload_n 0, 1) := by decide +kernel
theorem dX5_argumentsOf_13 : decode cX5_argumentsOf 13 = .ok (.getfield 9, 3) := by decide +kernel
theorem dX5_argumentsOf_16 : decode cX5_argumentsOf 16 = .ok (.iload_n 1, 1) := by decide +kernel
theorem dX5_argumentsOf_17 : decode cX5_argumentsOf 17 = .ok (.iaload, 1) := by decide +kernel
theorem dX5_argumentsOf_18 : decode cX5_argumentsOf 18 = .ok (.bipush 15, 2) := by decide +kernel
theorem dX5_argumentsOf_20 : decode cX5_argumentsOf 20 = .ok (.iand, 1) := by decide +kernel
theorem dX5_argumentsOf_21 : decode cX5_argumentsOf 21 = .ok (.goto 4, 3) := by decide +kernel
theorem dX5_argumentsOf_24 : decode cX5_argumentsOf 24 = .ok (.iconst 0, 1) := by decide +kernel
theorem dX5_argumentsOf_25 : decode cX5_argumentsOf 25 = .ok (.ireturn, 1) := by decide +kernel
theorem dX5_spanOf_0 : decode cX5_spanOf 0 = .ok (.iload_n 1, 1) := by decide +kernel
theorem dX5_spanOf_1 : decode cX5_spanOf 1 = .ok (.ifCond .lt 20, 3) := by decide +kernel
theorem dX5_spanOf_4 : decode cX5_spanOf 4 = .ok (.iload_n 1, 1) := by decide +kernel
theorem dX5_spanOf_5 : decode cX5_spanOf 5 = .ok (.aload_n 0, 1) := by decide +kernel
theorem dX5_spanOf_6 : decode cX5_spanOf 6 = .ok (.getfield 21, 3) := by decide +kernel
theorem dX5_spanOf_9 : decode cX5_spanOf 9 = .ok (.if_icmp .ge 12, 3) := by decide +kernel
theorem dX5_spanOf_12 : decode cX5_spanOf 12 = .ok (.aload_n 0, 1) := by decide +kernel
theorem dX5_spanOf_13 : decode cX5_spanOf 13 = .ok (.getfield 15, 3) := by decide +kernel
theorem dX5_spanOf_16 : decode cX5_spanOf 16 = .ok (.iload_n 1, 1) := by decide +kernel
theorem dX5_spanOf_17 : decode cX5_spanOf 17 = .ok (.iaload, 1) := by decide +kernel
theorem dX5_spanOf_18 : decode cX5_spanOf 18 = .ok (.goto 4, 3) := by decide +kernel
theorem dX5_spanOf_21 : decode cX5_spanOf 21 = .ok (.iconst 0, 1) := by decide +kernel
theorem dX5_spanOf_22 : decode cX5_spanOf 22 = .ok (.ireturn, 1) := by decide +kernel
theorem dX5_depthOf_0 : decode cX5_depthOf 0 = .ok (.iload_n 1, 1) := by decide +kernel
theorem dX5_depthOf_1 : decode cX5_depthOf 1 = .ok (.ifCond .lt 20, 3) := by decide +kernel
theorem dX5_depthOf_4 : decode cX5_depthOf 4 = .ok (.iload_n 1, 1) := by decide +kernel
theorem dX5_depthOf_5 : decode cX5_depthOf 5 = .ok (.aload_n 0, 1) := by decide +kernel
theorem dX5_depthOf_6 : decode cX5_depthOf 6 = .ok (.getfield 21, 3) := by decide +kernel
theorem dX5_depthOf_9 : decode cX5_depthOf 9 = .ok (.if_icmp .ge 12, 3) := by decide +kernel
theorem dX5_depthOf_12 : decode cX5_depthOf 12 = .ok (.aload_n 0, 1) := by decide +kernel
theorem dX5_depthOf_13 : decode cX5_depthOf 13 = .ok (.getfield 18, 3) := by decide +kernel
theorem dX5_depthOf_16 : decode cX5_depthOf 16 = .ok (.iload_n 1, 1) := by decide +kernel
theorem dX5_depthOf_17 : decode cX5_depthOf 17 = .ok (.iaload, 1) := by decide +kernel
theorem dX5_depthOf_18 : decode cX5_depthOf 18 = .ok (.goto 4, 3) := by decide +kernel
theorem dX5_depthOf_21 : decode cX5_depthOf 21 = .ok (.iconst 0, 1) := by decide +kernel
theorem dX5_depthOf_22 : decode cX5_depthOf 22 = .ok (.ireturn, 1) := by decide +kernel
theorem dX5_append_0 : decode cX5_append 0 = .ok (.iload_n 1, 1) := by decide +kernel
theorem dX5_append_1 : decode cX5_append 1 = .ok (.ifCond .lt 29, 3) := by decide +kernel
theorem dX5_append_4 : decode cX5_append 4 = .ok (.aload_n 0, 1) := by decide +kernel
theorem dX5_append_5 : decode cX5_append 5 = .ok (.getfield 21, 3) := by decide +kernel
theorem dX5_append_8 : decode cX5_append 8 = .ok (.aload_n 0, 1) := by decide +kernel
theorem dX5_append_9 : decode cX5_append 9 = .ok (.getfield 9, 3) := by decide +kernel
theorem dX5_append_12 : decode cX5_append 12 = .ok (.arraylength, 1) := by decide +kernel
theorem dX5_append_13 : decode cX5_append 13 = .ok (.iconst 1, 1) := by decide +kernel
theorem dX5_append_14 : decode cX5_append 14 = .ok (.isub, 1) := by decide +kernel
theorem dX5_append_15 : decode cX5_append 15 = .ok (.invokestatic 25, 3) := by decide +kernel
theorem dX5_append_18 : decode cX5_append 18 = .ok (.ifCond .ne 12, 3) := by decide +kernel
theorem dX5_append_21 : decode cX5_append 21 = .ok (.iload_n 2, 1) := by decide +kernel
theorem dX5_append_22 : decode cX5_append 22 = .ok (.bipush 8, 2) := by decide +kernel
theorem dX5_append_24 : decode cX5_append 24 = .ok (.invokestatic 25, 3) := by decide +kernel
theorem dX5_append_27 : decode cX5_append 27 = .ok (.ifCond .eq 5, 3) := by decide +kernel
theorem dX5_append_30 : decode cX5_append 30 = .ok (.iconst 0, 1) := by decide +kernel
theorem dX5_append_31 : decode cX5_append 31 = .ok (.ireturn, 1) := by decide +kernel
theorem dX5_append_32 : decode cX5_append 32 = .ok (.aload_n 0, 1) := by decide +kernel
theorem dX5_append_33 : decode cX5_append 33 = .ok (.getfield 9, 3) := by decide +kernel
theorem dX5_append_36 : decode cX5_append 36 = .ok (.aload_n 0, 1) := by decide +kernel
theorem dX5_append_37 : decode cX5_append 37 = .ok (.getfield 21, 3) := by decide +kernel
theorem dX5_append_40 : decode cX5_append 40 = .ok (.iload_n 1, 1) := by decide +kernel
theorem dX5_append_41 : decode cX5_append 41 = .ok (.iconst 4, 1) := by decide +kernel
theorem dX5_append_42 : decode cX5_append 42 = .ok (.ishl, 1) := by decide +kernel
theorem dX5_append_43 : decode cX5_append 43 = .ok (.iload_n 2, 1) := by decide +kernel
theorem dX5_append_44 : decode cX5_append 44 = .ok (.ior, 1) := by decide +kernel
theorem dX5_append_45 : decode cX5_append 45 = .ok (.iastore, 1) := by decide +kernel
theorem dX5_append_46 : decode cX5_append 46 = .ok (.aload_n 0, 1) := by decide +kernel
theorem dX5_append_47 : decode cX5_append 47 = .ok (.dup, 1) := by decide +kernel
theorem dX5_append_48 : decode cX5_append 48 = .ok (.getfield 21, 3) := by decide +kernel
theorem dX5_append_51 : decode cX5_append 51 = .ok (.iconst 1, 1) := by decide +kernel
theorem dX5_append_52 : decode cX5_append 52 = .ok (.iadd, 1) := by decide +kernel
theorem dX5_append_53 : decode cX5_append 53 = .ok (.putfield 21, 3) := by decide +kernel
theorem dX5_append_56 : decode cX5_append 56 = .ok (.iconst 1, 1) := by decide +kernel
theorem dX5_append_57 : decode cX5_append 57 = .ok (.ireturn, 1) := by decide +kernel
theorem dX5_appendNodes_0 : decode cX5_appendNodes 0 = .ok (.iload_n 2, 1) := by decide +kernel
theorem dX5_appendNodes_1 : decode cX5_appendNodes 1 = .ok (.istore 4, 2) := by decide +kernel
theorem dX5_appendNodes_3 : decode cX5_appendNodes 3 = .ok (.iload 4, 2) := by decide +kernel
theorem dX5_appendNodes_5 : decode cX5_appendNodes 5 = .ok (.iload_n 2, 1) := by decide +kernel
theorem dX5_appendNodes_6 : decode cX5_appendNodes 6 = .ok (.iload_n 3, 1) := by decide +kernel
theorem dX5_appendNodes_7 : decode cX5_appendNodes 7 = .ok (.iadd, 1) := by decide +kernel
theorem dX5_appendNodes_8 : decode cX5_appendNodes 8 = .ok (.if_icmp .ge 30, 3) := by decide +kernel
theorem dX5_appendNodes_11 : decode cX5_appendNodes 11 = .ok (.aload_n 0, 1) := by decide +kernel
theorem dX5_appendNodes_12 : decode cX5_appendNodes 12 = .ok (.aload_n 1, 1) := by decide +kernel
theorem dX5_appendNodes_13 : decode cX5_appendNodes 13 = .ok (.iload 4, 2) := by decide +kernel
theorem dX5_appendNodes_15 : decode cX5_appendNodes 15 = .ok (.invokevirtual 29, 3) := by decide +kernel
theorem dX5_appendNodes_18 : decode cX5_appendNodes 18 = .ok (.aload_n 1, 1) := by decide +kernel
theorem dX5_appendNodes_19 : decode cX5_appendNodes 19 = .ok (.iload 4, 2) := by decide +kernel
theorem dX5_appendNodes_21 : decode cX5_appendNodes 21 = .ok (.invokevirtual 33, 3) := by decide +kernel
theorem dX5_appendNodes_24 : decode cX5_appendNodes 24 = .ok (.invokevirtual 36, 3) := by decide +kernel
theorem dX5_appendNodes_27 : decode cX5_appendNodes 27 = .ok (.ifCond .ne 5, 3) := by decide +kernel
theorem dX5_appendNodes_30 : decode cX5_appendNodes 30 = .ok (.iconst 0, 1) := by decide +kernel
theorem dX5_appendNodes_31 : decode cX5_appendNodes 31 = .ok (.ireturn, 1) := by decide +kernel
theorem dX5_appendNodes_32 : decode cX5_appendNodes 32 = .ok (.iinc 4 1, 3) := by decide +kernel
theorem dX5_appendNodes_35 : decode cX5_appendNodes 35 = .ok (.goto (-32), 3) := by decide +kernel
theorem dX5_appendNodes_38 : decode cX5_appendNodes 38 = .ok (.iconst 1, 1) := by decide +kernel
theorem dX5_appendNodes_39 : decode cX5_appendNodes 39 = .ok (.ireturn, 1) := by decide +kernel
theorem dX5_countArgument_0 : decode cX5_countArgument 0 = .ok (.iload_n 1, 1) := by decide +kernel
theorem dX5_countArgument_1 : decode cX5_countArgument 1 = .ok (.ifCond .lt 31, 3) := by decide +kernel
theorem dX5_countArgument_4 : decode cX5_countArgument 4 = .ok (.iload_n 1, 1) := by decide +kernel
theorem dX5_countArgument_5 : decode cX5_countArgument 5 = .ok (.aload_n 0, 1) := by decide +kernel
theorem dX5_countArgument_6 : decode cX5_countArgument 6 = .ok (.getfield 21, 3) := by decide +kernel
theorem dX5_countArgument_9 : decode cX5_countArgument 9 = .ok (.if_icmp .ge 23, 3) := by decide +kernel
theorem dX5_countArgument_12 : decode cX5_countArgument 12 = .ok (.aload_n 0, 1) := by decide +kernel
theorem dX5_countArgument_13 : decode cX5_countArgument 13 = .ok (.iload_n 1, 1) := by decide +kernel
theorem dX5_countArgument_14 : decode cX5_countArgument 14 = .ok (.invokevirtual 33, 3) := by decide +kernel
theorem dX5_countArgument_17 : decode cX5_countArgument 17 = .ok (.bipush 8, 2) := by decide +kernel
theorem dX5_countArgument_19 : decode cX5_countArgument 19 = .ok (.if_icmp .ge 13, 3) := by decide +kernel
theorem dX5_countArgument_22 : decode cX5_countArgument 22 = .ok (.aload_n 0, 1) := by decide +kernel
theorem dX5_countArgument_23 : decode cX5_countArgument 23 = .ok (.getfield 9, 3) := by decide +kernel
theorem dX5_countArgument_26 : decode cX5_countArgument 26 = .ok (.iload_n 1, 1) := by decide +kernel
theorem dX5_countArgument_27 : decode cX5_countArgument 27 = .ok (.dup2, 1) := by decide +kernel
theorem dX5_countArgument_28 : decode cX5_countArgument 28 = .ok (.iaload, 1) := by decide +kernel
theorem dX5_countArgument_29 : decode cX5_countArgument 29 = .ok (.iconst 1, 1) := by decide +kernel
theorem dX5_countArgument_30 : decode cX5_countArgument 30 = .ok (.iadd, 1) := by decide +kernel
theorem dX5_countArgument_31 : decode cX5_countArgument 31 = .ok (.iastore, 1) := by decide +kernel
theorem dX5_countArgument_32 : decode cX5_countArgument 32 = .ok (.return_, 1) := by decide +kernel
theorem dX5_settle_0 : decode cX5_settle 0 = .ok (.aload_n 0, 1) := by decide +kernel
theorem dX5_settle_1 : decode cX5_settle 1 = .ok (.getfield 21, 3) := by decide +kernel
theorem dX5_settle_4 : decode cX5_settle 4 = .ok (.iconst 1, 1) := by decide +kernel
theorem dX5_settle_5 : decode cX5_settle 5 = .ok (.isub, 1) := by decide +kernel
theorem dX5_settle_6 : decode cX5_settle 6 = .ok (.istore_n 1, 1) := by decide +kernel
theorem dX5_settle_7 : decode cX5_settle 7 = .ok (.iload_n 1, 1) := by decide +kernel
theorem dX5_settle_8 : decode cX5_settle 8 = .ok (.ifCond .lt 46, 3) := by decide +kernel
theorem dX5_settle_11 : decode cX5_settle 11 = .ok (.iload_n 1, 1) := by decide +kernel
theorem dX5_settle_12 : decode cX5_settle 12 = .ok (.iconst 1, 1) := by decide +kernel
theorem dX5_settle_13 : decode cX5_settle 13 = .ok (.iadd, 1) := by decide +kernel
theorem dX5_settle_14 : decode cX5_settle 14 = .ok (.istore_n 2, 1) := by decide +kernel
theorem dX5_settle_15 : decode cX5_settle 15 = .ok (.aload_n 0, 1) := by decide +kernel
theorem dX5_settle_16 : decode cX5_settle 16 = .ok (.iload_n 1, 1) := by decide +kernel
theorem dX5_settle_17 : decode cX5_settle 17 = .ok (.invokevirtual 33, 3) := by decide +kernel
theorem dX5_settle_20 : decode cX5_settle 20 = .ok (.istore_n 3, 1) := by decide +kernel
theorem dX5_settle_21 : decode cX5_settle 21 = .ok (.iload_n 3, 1) := by decide +kernel
theorem dX5_settle_22 : decode cX5_settle 22 = .ok (.ifCond .le 17, 3) := by decide +kernel
theorem dX5_settle_25 : decode cX5_settle 25 = .ok (.iload_n 2, 1) := by decide +kernel
theorem dX5_settle_26 : decode cX5_settle 26 = .ok (.aload_n 0, 1) := by decide +kernel
theorem dX5_settle_27 : decode cX5_settle 27 = .ok (.iload_n 2, 1) := by decide +kernel
theorem dX5_settle_28 : decode cX5_settle 28 = .ok (.invokevirtual 39, 3) := by decide +kernel
theorem dX5_settle_31 : decode cX5_settle 31 = .ok (.iadd, 1) := by decide +kernel
theorem dX5_settle_32 : decode cX5_settle 32 = .ok (.istore_n 2, 1) := by decide +kernel
theorem dX5_settle_33 : decode cX5_settle 33 = .ok (.iinc 3 (-1), 3) := by decide +kernel
theorem dX5_settle_36 : decode cX5_settle 36 = .ok (.goto (-15), 3) := by decide +kernel
theorem dX5_settle_39 : decode cX5_settle 39 = .ok (.aload_n 0, 1) := by decide +kernel
theorem dX5_settle_40 : decode cX5_settle 40 = .ok (.getfield 15, 3) := by decide +kernel
theorem dX5_settle_43 : decode cX5_settle 43 = .ok (.iload_n 1, 1) := by decide +kernel
theorem dX5_settle_44 : decode cX5_settle 44 = .ok (.iload_n 2, 1) := by decide +kernel
theorem dX5_settle_45 : decode cX5_settle 45 = .ok (.iload_n 1, 1) := by decide +kernel
theorem dX5_settle_46 : decode cX5_settle 46 = .ok (.isub, 1) := by decide +kernel
theorem dX5_settle_47 : decode cX5_settle 47 = .ok (.iastore, 1) := by decide +kernel
theorem dX5_settle_48 : decode cX5_settle 48 = .ok (.iinc 1 (-1), 3) := by decide +kernel
theorem dX5_settle_51 : decode cX5_settle 51 = .ok (.goto (-44), 3) := by decide +kernel
theorem dX5_settle_54 : decode cX5_settle 54 = .ok (.iconst 0, 1) := by decide +kernel
theorem dX5_settle_55 : decode cX5_settle 55 = .ok (.istore_n 1, 1) := by decide +kernel
theorem dX5_settle_56 : decode cX5_settle 56 = .ok (.iload_n 1, 1) := by decide +kernel
theorem dX5_settle_57 : decode cX5_settle 57 = .ok (.aload_n 0, 1) := by decide +kernel
theorem dX5_settle_58 : decode cX5_settle 58 = .ok (.getfield 21, 3) := by decide +kernel
theorem dX5_settle_61 : decode cX5_settle 61 = .ok (.if_icmp .ge 58, 3) := by decide +kernel
theorem dX5_settle_64 : decode cX5_settle 64 = .ok (.iload_n 1, 1) := by decide +kernel
theorem dX5_settle_65 : decode cX5_settle 65 = .ok (.iconst 1, 1) := by decide +kernel
theorem dX5_settle_66 : decode cX5_settle 66 = .ok (.iadd, 1) := by decide +kernel
theorem dX5_settle_67 : decode cX5_settle 67 = .ok (.istore_n 2, 1) := by decide +kernel
theorem dX5_settle_68 : decode cX5_settle 68 = .ok (.aload_n 0, 1) := by decide +kernel
theorem dX5_settle_69 : decode cX5_settle 69 = .ok (.iload_n 1, 1) := by decide +kernel
theorem dX5_settle_70 : decode cX5_settle 70 = .ok (.invokevirtual 33, 3) := by decide +kernel
theorem dX5_settle_73 : decode cX5_settle 73 = .ok (.istore_n 3, 1) := by decide +kernel
theorem dX5_settle_74 : decode cX5_settle 74 = .ok (.iload_n 3, 1) := by decide +kernel
theorem dX5_settle_75 : decode cX5_settle 75 = .ok (.ifCond .le 38, 3) := by decide +kernel
theorem dX5_settle_78 : decode cX5_settle 78 = .ok (.iload_n 2, 1) := by decide +kernel
theorem dX5_settle_79 : decode cX5_settle 79 = .ok (.aload_n 0, 1) := by decide +kernel
theorem dX5_settle_80 : decode cX5_settle 80 = .ok (.getfield 21, 3) := by decide +kernel
theorem dX5_settle_83 : decode cX5_settle 83 = .ok (.if_icmp .ge 16, 3) := by decide +kernel
theorem dX5_settle_86 : decode cX5_settle 86 = .ok (.aload_n 0, 1) := by decide +kernel
theorem dX5_settle_87 : decode cX5_settle 87 = .ok (.getfield 18, 3) := by decide +kernel
theorem dX5_settle_90 : decode cX5_settle 90 = .ok (.iload_n 2, 1) := by decide +kernel
theorem dX5_settle_91 : decode cX5_settle 91 = .ok (.aload_n 0, 1) := by decide +kernel
theorem dX5_settle_92 : decode cX5_settle 92 = .ok (.iload_n 1, 1) := by decide +kernel
theorem dX5_settle_93 : decode cX5_settle 93 = .ok (.invokevirtual 42, 3) := by decide +kernel
theorem dX5_settle_96 : decode cX5_settle 96 = .ok (.iconst 1, 1) := by decide +kernel
theorem dX5_settle_97 : decode cX5_settle 97 = .ok (.iadd, 1) := by decide +kernel
theorem dX5_settle_98 : decode cX5_settle 98 = .ok (.iastore, 1) := by decide +kernel
theorem dX5_settle_99 : decode cX5_settle 99 = .ok (.iload_n 2, 1) := by decide +kernel
theorem dX5_settle_100 : decode cX5_settle 100 = .ok (.aload_n 0, 1) := by decide +kernel
theorem dX5_settle_101 : decode cX5_settle 101 = .ok (.iload_n 2, 1) := by decide +kernel
theorem dX5_settle_102 : decode cX5_settle 102 = .ok (.invokevirtual 39, 3) := by decide +kernel
theorem dX5_settle_105 : decode cX5_settle 105 = .ok (.iadd, 1) := by decide +kernel
theorem dX5_settle_106 : decode cX5_settle 106 = .ok (.istore_n 2, 1) := by decide +kernel
theorem dX5_settle_107 : decode cX5_settle 107 = .ok (.iinc 3 (-1), 3) := by decide +kernel
theorem dX5_settle_110 : decode cX5_settle 110 = .ok (.goto (-36), 3) := by decide +kernel
theorem dX5_settle_113 : decode cX5_settle 113 = .ok (.iinc 1 1, 3) := by decide +kernel
theorem dX5_settle_116 : decode cX5_settle 116 = .ok (.goto (-60), 3) := by decide +kernel
theorem dX5_settle_119 : decode cX5_settle 119 = .ok (.return_, 1) := by decide +kernel
theorem dX5_argument_0 : decode cX5_argument 0 = .ok (.iload_n 1, 1) := by decide +kernel
theorem dX5_argument_1 : decode cX5_argument 1 = .ok (.iconst 1, 1) := by decide +kernel
theorem dX5_argument_2 : decode cX5_argument 2 = .ok (.iadd, 1) := by decide +kernel
theorem dX5_argument_3 : decode cX5_argument 3 = .ok (.istore_n 3, 1) := by decide +kernel
theorem dX5_argument_4 : decode cX5_argument 4 = .ok (.iconst 0, 1) := by decide +kernel
theorem dX5_argument_5 : decode cX5_argument 5 = .ok (.istore 4, 2) := by decide +kernel
theorem dX5_argument_7 : decode cX5_argument 7 = .ok (.iload 4, 2) := by decide +kernel
theorem dX5_argument_9 : decode cX5_argument 9 = .ok (.iload_n 2, 1) := by decide +kernel
theorem dX5_argument_10 : decode cX5_argument 10 = .ok (.if_icmp .ge 17, 3) := by decide +kernel
theorem dX5_argument_13 : decode cX5_argument 13 = .ok (.iload_n 3, 1) := by decide +kernel
theorem dX5_argument_14 : decode cX5_argument 14 = .ok (.aload_n 0, 1) := by decide +kernel
theorem dX5_argument_15 : decode cX5_argument 15 = .ok (.iload_n 3, 1) := by decide +kernel
theorem dX5_argument_16 : decode cX5_argument 16 = .ok (.invokevirtual 39, 3) := by decide +kernel
theorem dX5_argument_19 : decode cX5_argument 19 = .ok (.iadd, 1) := by decide +kernel
theorem dX5_argument_20 : decode cX5_argument 20 = .ok (.istore_n 3, 1) := by decide +kernel
theorem dX5_argument_21 : decode cX5_argument 21 = .ok (.iinc 4 1, 3) := by decide +kernel
theorem dX5_argument_24 : decode cX5_argument 24 = .ok (.goto (-17), 3) := by decide +kernel
theorem dX5_argument_27 : decode cX5_argument 27 = .ok (.iload_n 3, 1) := by decide +kernel
theorem dX5_argument_28 : decode cX5_argument 28 = .ok (.ireturn, 1) := by decide +kernel
theorem dX5_sequencePlace_0 : decode cX5_sequencePlace 0 = .ok (.iload_n 1, 1) := by decide +kernel
theorem dX5_sequencePlace_1 : decode cX5_sequencePlace 1 = .ok (.iconst 1, 1) := by decide +kernel
theorem dX5_sequencePlace_2 : decode cX5_sequencePlace 2 = .ok (.iadd, 1) := by decide +kernel
theorem dX5_sequencePlace_3 : decode cX5_sequencePlace 3 = .ok (.istore_n 2, 1) := by decide +kernel
theorem dX5_sequencePlace_4 : decode cX5_sequencePlace 4 = .ok (.aload_n 0, 1) := by decide +kernel
theorem dX5_sequencePlace_5 : decode cX5_sequencePlace 5 = .ok (.iload_n 1, 1) := by decide +kernel
theorem dX5_sequencePlace_6 : decode cX5_sequencePlace 6 = .ok (.invokevirtual 33, 3) := by decide +kernel
theorem dX5_sequencePlace_9 : decode cX5_sequencePlace 9 = .ok (.istore_n 3, 1) := by decide +kernel
theorem dX5_sequencePlace_10 : decode cX5_sequencePlace 10 = .ok (.iconst 0, 1) := by decide +kernel
theorem dX5_sequencePlace_11 : decode cX5_sequencePlace 11 = .ok (.istore 4, 2) := by decide +kernel
theorem dX5_sequencePlace_13 : decode cX5_sequencePlace 13 = .ok (.iload 4, 2) := by decide +kernel
theorem dX5_sequencePlace_15 : decode cX5_sequencePlace 15 = .ok (.iload_n 3, 1) := by decide +kernel
theorem dX5_sequencePlace_16 : decode cX5_sequencePlace 16 = .ok (.if_icmp .ge 29, 3) := by decide +kernel
theorem dX5_sequencePlace_19 : decode cX5_sequencePlace 19 = .ok (.aload_n 0, 1) := by decide +kernel
theorem dX5_sequencePlace_20 : decode cX5_sequencePlace 20 = .ok (.iload_n 2, 1) := by decide +kernel
theorem dX5_sequencePlace_21 : decode cX5_sequencePlace 21 = .ok (.invokevirtual 45, 3) := by decide +kernel
theorem dX5_sequencePlace_24 : decode cX5_sequencePlace 24 = .ok (.iconst 3, 1) := by decide +kernel
theorem dX5_sequencePlace_25 : decode cX5_sequencePlace 25 = .ok (.if_icmp .ne 6, 3) := by decide +kernel
theorem dX5_sequencePlace_28 : decode cX5_sequencePlace 28 = .ok (.iload 4, 2) := by decide +kernel
theorem dX5_sequencePlace_30 : decode cX5_sequencePlace 30 = .ok (.ireturn, 1) := by decide +kernel
theorem dX5_sequencePlace_31 : decode cX5_sequencePlace 31 = .ok (.iload_n 2, 1) := by decide +kernel
theorem dX5_sequencePlace_32 : decode cX5_sequencePlace 32 = .ok (.aload_n 0, 1) := by decide +kernel
theorem dX5_sequencePlace_33 : decode cX5_sequencePlace 33 = .ok (.iload_n 2, 1) := by decide +kernel
theorem dX5_sequencePlace_34 : decode cX5_sequencePlace 34 = .ok (.invokevirtual 39, 3) := by decide +kernel
theorem dX5_sequencePlace_37 : decode cX5_sequencePlace 37 = .ok (.iadd, 1) := by decide +kernel
theorem dX5_sequencePlace_38 : decode cX5_sequencePlace 38 = .ok (.istore_n 2, 1) := by decide +kernel
theorem dX5_sequencePlace_39 : decode cX5_sequencePlace 39 = .ok (.iinc 4 1, 3) := by decide +kernel
theorem dX5_sequencePlace_42 : decode cX5_sequencePlace 42 = .ok (.goto (-29), 3) := by decide +kernel
theorem dX5_sequencePlace_45 : decode cX5_sequencePlace 45 = .ok (.iconst (-1), 1) := by decide +kernel
theorem dX5_sequencePlace_46 : decode cX5_sequencePlace 46 = .ok (.ireturn, 1) := by decide +kernel
theorem dX5_compareNodes_0 : decode cX5_compareNodes 0 = .ok (.iload_n 1, 1) := by decide +kernel
theorem dX5_compareNodes_1 : decode cX5_compareNodes 1 = .ok (.ifCond .lt 29, 3) := by decide +kernel
theorem dX5_compareNodes_4 : decode cX5_compareNodes 4 = .ok (.iload_n 1, 1) := by decide +kernel
theorem dX5_compareNodes_5 : decode cX5_compareNodes 5 = .ok (.aload_n 0, 1) := by decide +kernel
theorem dX5_compareNodes_6 : decode cX5_compareNodes 6 = .ok (.getfield 21, 3) := by decide +kernel
theorem dX5_compareNodes_9 : decode cX5_compareNodes 9 = .ok (.iload 4, 2) := by decide +kernel
theorem dX5_compareNodes_11 : decode cX5_compareNodes 11 = .ok (.isub, 1) := by decide +kernel
theorem dX5_compareNodes_12 : decode cX5_compareNodes 12 = .ok (.if_icmp .gt 18, 3) := by decide +kernel
theorem dX5_compareNodes_15 : decode cX5_compareNodes 15 = .ok (.iload_n 3, 1) := by decide +kernel
theorem dX5_compareNodes_16 : decode cX5_compareNodes 16 = .ok (.ifCond .lt 14, 3) := by decide +kernel
theorem dX5_compareNodes_19 : decode cX5_compareNodes 19 = .ok (.iload_n 3, 1) := by decide +kernel
theorem dX5_compareNodes_20 : decode cX5_compareNodes 20 = .ok (.aload_n 2, 1) := by decide +kernel
theorem dX5_compareNodes_21 : decode cX5_compareNodes 21 = .ok (.getfield 21, 3) := by decide +kernel
theorem dX5_compareNodes_24 : decode cX5_compareNodes 24 = .ok (.iload 4, 2) := by decide +kernel
theorem dX5_compareNodes_26 : decode cX5_compareNodes 26 = .ok (.isub, 1) := by decide +kernel
theorem dX5_compareNodes_27 : decode cX5_compareNodes 27 = .ok (.if_icmp .le 5, 3) := by decide +kernel
theorem dX5_compareNodes_30 : decode cX5_compareNodes 30 = .ok (.iconst 1, 1) := by decide +kernel
theorem dX5_compareNodes_31 : decode cX5_compareNodes 31 = .ok (.ireturn, 1) := by decide +kernel
theorem dX5_compareNodes_32 : decode cX5_compareNodes 32 = .ok (.iconst 0, 1) := by decide +kernel
theorem dX5_compareNodes_33 : decode cX5_compareNodes 33 = .ok (.istore 5, 2) := by decide +kernel
theorem dX5_compareNodes_35 : decode cX5_compareNodes 35 = .ok (.iload 5, 2) := by decide +kernel
theorem dX5_compareNodes_37 : decode cX5_compareNodes 37 = .ok (.iload 4, 2) := by decide +kernel
theorem dX5_compareNodes_39 : decode cX5_compareNodes 39 = .ok (.if_icmp .ge 51, 3) := by decide +kernel
theorem dX5_compareNodes_42 : decode cX5_compareNodes 42 = .ok (.aload_n 0, 1) := by decide +kernel
theorem dX5_compareNodes_43 : decode cX5_compareNodes 43 = .ok (.getfield 9, 3) := by decide +kernel
theorem dX5_compareNodes_46 : decode cX5_compareNodes 46 = .ok (.iload_n 1, 1) := by decide +kernel
theorem dX5_compareNodes_47 : decode cX5_compareNodes 47 = .ok (.iload 5, 2) := by decide +kernel
theorem dX5_compareNodes_49 : decode cX5_compareNodes 49 = .ok (.iadd, 1) := by decide +kernel
theorem dX5_compareNodes_50 : decode cX5_compareNodes 50 = .ok (.iaload, 1) := by decide +kernel
theorem dX5_compareNodes_51 : decode cX5_compareNodes 51 = .ok (.istore 6, 2) := by decide +kernel
theorem dX5_compareNodes_53 : decode cX5_compareNodes 53 = .ok (.aload_n 2, 1) := by decide +kernel
theorem dX5_compareNodes_54 : decode cX5_compareNodes 54 = .ok (.getfield 9, 3) := by decide +kernel
theorem dX5_compareNodes_57 : decode cX5_compareNodes 57 = .ok (.iload_n 3, 1) := by decide +kernel
theorem dX5_compareNodes_58 : decode cX5_compareNodes 58 = .ok (.iload 5, 2) := by decide +kernel
theorem dX5_compareNodes_60 : decode cX5_compareNodes 60 = .ok (.iadd, 1) := by decide +kernel
theorem dX5_compareNodes_61 : decode cX5_compareNodes 61 = .ok (.iaload, 1) := by decide +kernel
theorem dX5_compareNodes_62 : decode cX5_compareNodes 62 = .ok (.istore 7, 2) := by decide +kernel
theorem dX5_compareNodes_64 : decode cX5_compareNodes 64 = .ok (.iload 6, 2) := by decide +kernel
theorem dX5_compareNodes_66 : decode cX5_compareNodes 66 = .ok (.iload 7, 2) := by decide +kernel
theorem dX5_compareNodes_68 : decode cX5_compareNodes 68 = .ok (.if_icmp .eq 16, 3) := by decide +kernel
theorem dX5_compareNodes_71 : decode cX5_compareNodes 71 = .ok (.iload 6, 2) := by decide +kernel
theorem dX5_compareNodes_73 : decode cX5_compareNodes 73 = .ok (.iload 7, 2) := by decide +kernel
theorem dX5_compareNodes_75 : decode cX5_compareNodes 75 = .ok (.if_icmp .ge 7, 3) := by decide +kernel
theorem dX5_compareNodes_78 : decode cX5_compareNodes 78 = .ok (.iconst (-1), 1) := by decide +kernel
theorem dX5_compareNodes_79 : decode cX5_compareNodes 79 = .ok (.goto 4, 3) := by decide +kernel
theorem dX5_compareNodes_82 : decode cX5_compareNodes 82 = .ok (.iconst 1, 1) := by decide +kernel
theorem dX5_compareNodes_83 : decode cX5_compareNodes 83 = .ok (.ireturn, 1) := by decide +kernel
theorem dX5_compareNodes_84 : decode cX5_compareNodes 84 = .ok (.iinc 5 1, 3) := by decide +kernel
theorem dX5_compareNodes_87 : decode cX5_compareNodes 87 = .ok (.goto (-52), 3) := by decide +kernel
theorem dX5_compareNodes_90 : decode cX5_compareNodes 90 = .ok (.iconst 0, 1) := by decide +kernel
theorem dX5_compareNodes_91 : decode cX5_compareNodes 91 = .ok (.ireturn, 1) := by decide +kernel
theorem dX5_symbols_0 : decode cX5_symbols 0 = .ok (.iconst 0, 1) := by decide +kernel
theorem dX5_symbols_1 : decode cX5_symbols 1 = .ok (.istore_n 1, 1) := by decide +kernel
theorem dX5_symbols_2 : decode cX5_symbols 2 = .ok (.iconst 0, 1) := by decide +kernel
theorem dX5_symbols_3 : decode cX5_symbols 3 = .ok (.istore_n 2, 1) := by decide +kernel
theorem dX5_symbols_4 : decode cX5_symbols 4 = .ok (.iload_n 2, 1) := by decide +kernel
theorem dX5_symbols_5 : decode cX5_symbols 5 = .ok (.aload_n 0, 1) := by decide +kernel
theorem dX5_symbols_6 : decode cX5_symbols 6 = .ok (.getfield 21, 3) := by decide +kernel
theorem dX5_symbols_9 : decode cX5_symbols 9 = .ok (.if_icmp .ge 25, 3) := by decide +kernel
theorem dX5_symbols_12 : decode cX5_symbols 12 = .ok (.iload_n 1, 1) := by decide +kernel
theorem dX5_symbols_13 : decode cX5_symbols 13 = .ok (.aload_n 0, 1) := by decide +kernel
theorem dX5_symbols_14 : decode cX5_symbols 14 = .ok (.iload_n 2, 1) := by decide +kernel
theorem dX5_symbols_15 : decode cX5_symbols 15 = .ok (.invokevirtual 45, 3) := by decide +kernel
theorem dX5_symbols_18 : decode cX5_symbols 18 = .ok (.ifCond .ne 7, 3) := by decide +kernel
theorem dX5_symbols_21 : decode cX5_symbols 21 = .ok (.iconst 1, 1) := by decide +kernel
theorem dX5_symbols_22 : decode cX5_symbols 22 = .ok (.goto 4, 3) := by decide +kernel
theorem dX5_symbols_25 : decode cX5_symbols 25 = .ok (.iconst 0, 1) := by decide +kernel
theorem dX5_symbols_26 : decode cX5_symbols 26 = .ok (.iadd, 1) := by decide +kernel
theorem dX5_symbols_27 : decode cX5_symbols 27 = .ok (.istore_n 1, 1) := by decide +kernel
theorem dX5_symbols_28 : decode cX5_symbols 28 = .ok (.iinc 2 1, 3) := by decide +kernel
theorem dX5_symbols_31 : decode cX5_symbols 31 = .ok (.goto (-27), 3) := by decide +kernel
theorem dX5_symbols_34 : decode cX5_symbols 34 = .ok (.iload_n 1, 1) := by decide +kernel
theorem dX5_symbols_35 : decode cX5_symbols 35 = .ok (.ireturn, 1) := by decide +kernel
theorem dX5_holes_0 : decode cX5_holes 0 = .ok (.iconst 0, 1) := by decide +kernel
theorem dX5_holes_1 : decode cX5_holes 1 = .ok (.istore_n 1, 1) := by decide +kernel
theorem dX5_holes_2 : decode cX5_holes 2 = .ok (.iconst 0, 1) := by decide +kernel
theorem dX5_holes_3 : decode cX5_holes 3 = .ok (.istore_n 2, 1) := by decide +kernel
theorem dX5_holes_4 : decode cX5_holes 4 = .ok (.iload_n 2, 1) := by decide +kernel
theorem dX5_holes_5 : decode cX5_holes 5 = .ok (.aload_n 0, 1) := by decide +kernel
theorem dX5_holes_6 : decode cX5_holes 6 = .ok (.getfield 21, 3) := by decide +kernel
theorem dX5_holes_9 : decode cX5_holes 9 = .ok (.if_icmp .ge 27, 3) := by decide +kernel
theorem dX5_holes_12 : decode cX5_holes 12 = .ok (.aload_n 0, 1) := by decide +kernel
theorem dX5_holes_13 : decode cX5_holes 13 = .ok (.iload_n 2, 1) := by decide +kernel
theorem dX5_holes_14 : decode cX5_holes 14 = .ok (.invokevirtual 45, 3) := by decide +kernel
theorem dX5_holes_17 : decode cX5_holes 17 = .ok (.ifCond .eq 13, 3) := by decide +kernel
theorem dX5_holes_20 : decode cX5_holes 20 = .ok (.iload_n 1, 1) := by decide +kernel
theorem dX5_holes_21 : decode cX5_holes 21 = .ok (.iconst 1, 1) := by decide +kernel
theorem dX5_holes_22 : decode cX5_holes 22 = .ok (.aload_n 0, 1) := by decide +kernel
theorem dX5_holes_23 : decode cX5_holes 23 = .ok (.iload_n 2, 1) := by decide +kernel
theorem dX5_holes_24 : decode cX5_holes 24 = .ok (.invokevirtual 48, 3) := by decide +kernel
theorem dX5_holes_27 : decode cX5_holes 27 = .ok (.ishl, 1) := by decide +kernel
theorem dX5_holes_28 : decode cX5_holes 28 = .ok (.ior, 1) := by decide +kernel
theorem dX5_holes_29 : decode cX5_holes 29 = .ok (.istore_n 1, 1) := by decide +kernel
theorem dX5_holes_30 : decode cX5_holes 30 = .ok (.iinc 2 1, 3) := by decide +kernel
theorem dX5_holes_33 : decode cX5_holes 33 = .ok (.goto (-29), 3) := by decide +kernel
theorem dX5_holes_36 : decode cX5_holes 36 = .ok (.iload_n 1, 1) := by decide +kernel
theorem dX5_holes_37 : decode cX5_holes 37 = .ok (.ireturn, 1) := by decide +kernel
theorem dX5_greatestDepth_0 : decode cX5_greatestDepth 0 = .ok (.iconst 0, 1) := by decide +kernel
theorem dX5_greatestDepth_1 : decode cX5_greatestDepth 1 = .ok (.istore_n 1, 1) := by decide +kernel
theorem dX5_greatestDepth_2 : decode cX5_greatestDepth 2 = .ok (.iconst 0, 1) := by decide +kernel
theorem dX5_greatestDepth_3 : decode cX5_greatestDepth 3 = .ok (.istore_n 2, 1) := by decide +kernel
theorem dX5_greatestDepth_4 : decode cX5_greatestDepth 4 = .ok (.iload_n 2, 1) := by decide +kernel
theorem dX5_greatestDepth_5 : decode cX5_greatestDepth 5 = .ok (.aload_n 0, 1) := by decide +kernel
theorem dX5_greatestDepth_6 : decode cX5_greatestDepth 6 = .ok (.getfield 21, 3) := by decide +kernel
theorem dX5_greatestDepth_9 : decode cX5_greatestDepth 9 = .ok (.if_icmp .ge 19, 3) := by decide +kernel
theorem dX5_greatestDepth_12 : decode cX5_greatestDepth 12 = .ok (.iload_n 1, 1) := by decide +kernel
theorem dX5_greatestDepth_13 : decode cX5_greatestDepth 13 = .ok (.aload_n 0, 1) := by decide +kernel
theorem dX5_greatestDepth_14 : decode cX5_greatestDepth 14 = .ok (.iload_n 2, 1) := by decide +kernel
theorem dX5_greatestDepth_15 : decode cX5_greatestDepth 15 = .ok (.invokevirtual 42, 3) := by decide +kernel
theorem dX5_greatestDepth_18 : decode cX5_greatestDepth 18 = .ok (.invokestatic 51, 3) := by decide +kernel
theorem dX5_greatestDepth_21 : decode cX5_greatestDepth 21 = .ok (.istore_n 1, 1) := by decide +kernel
theorem dX5_greatestDepth_22 : decode cX5_greatestDepth 22 = .ok (.iinc 2 1, 3) := by decide +kernel
theorem dX5_greatestDepth_25 : decode cX5_greatestDepth 25 = .ok (.goto (-21), 3) := by decide +kernel
theorem dX5_greatestDepth_28 : decode cX5_greatestDepth 28 = .ok (.iload_n 1, 1) := by decide +kernel
theorem dX5_greatestDepth_29 : decode cX5_greatestDepth 29 = .ok (.ireturn, 1) := by decide +kernel
theorem dX6_init_0 : decode cX6_init 0 = .ok (.aload_n 0, 1) := by decide +kernel
theorem dX6_init_1 : decode cX6_init 1 = .ok (.invokespecial 1, 3) := by decide +kernel
theorem dX6_init_4 : decode cX6_init 4 = .ok (.aload_n 0, 1) := by decide +kernel
theorem dX6_init_5 : decode cX6_init 5 = .ok (.bipush 80, 2) := by decide +kernel
theorem dX6_init_7 : decode cX6_init 7 = .ok (.newarray .int, 2) := by decide +kernel
theorem dX6_init_9 : decode cX6_init 9 = .ok (.putfield 9, 3) := by decide +kernel
theorem dX6_init_12 : decode cX6_init 12 = .ok (.aload_n 0, 1) := by decide +kernel
theorem dX6_init_13 : decode cX6_init 13 = .ok (.iconst 0, 1) := by decide +kernel
theorem dX6_init_14 : decode cX6_init 14 = .ok (.putfield 13, 3) := by decide +kernel
theorem dX6_init_17 : decode cX6_init 17 = .ok (.aload_n 0, 1) := by decide +kernel
theorem dX6_init_18 : decode cX6_init 18 = .ok (.bipush (-9), 2) := by decide +kernel
theorem dX6_init_20 : decode cX6_init 20 = .ok (.putfield 17, 3) := by decide +kernel
theorem dX6_init_23 : decode cX6_init 23 = .ok (.aload_n 0, 1) := by decide +kernel
theorem dX6_init_24 : decode cX6_init 24 = .ok (.new 20, 3) := by decide +kernel
theorem dX6_init_27 : decode cX6_init 27 = .ok (.dup, 1) := by decide +kernel
theorem dX6_init_28 : decode cX6_init 28 = .ok (.invokespecial 22, 3) := by decide +kernel
theorem dX6_init_31 : decode cX6_init 31 = .ok (.putfield 23, 3) := by decide +kernel
theorem dX6_init_34 : decode cX6_init 34 = .ok (.aload_n 0, 1) := by decide +kernel
theorem dX6_init_35 : decode cX6_init 35 = .ok (.bipush 6, 2) := by decide +kernel
theorem dX6_init_37 : decode cX6_init 37 = .ok (.anewarray 20, 3) := by decide +kernel
theorem dX6_init_40 : decode cX6_init 40 = .ok (.putfield 27, 3) := by decide +kernel
theorem dX6_init_43 : decode cX6_init 43 = .ok (.aload_n 0, 1) := by decide +kernel
theorem dX6_init_44 : decode cX6_init 44 = .ok (.iconst 0, 1) := by decide +kernel
theorem dX6_init_45 : decode cX6_init 45 = .ok (.putfield 31, 3) := by decide +kernel
theorem dX6_init_48 : decode cX6_init 48 = .ok (.aload_n 0, 1) := by decide +kernel
theorem dX6_init_49 : decode cX6_init 49 = .ok (.new 34, 3) := by decide +kernel
theorem dX6_init_52 : decode cX6_init 52 = .ok (.dup, 1) := by decide +kernel
theorem dX6_init_53 : decode cX6_init 53 = .ok (.invokespecial 36, 3) := by decide +kernel
theorem dX6_init_56 : decode cX6_init 56 = .ok (.putfield 37, 3) := by decide +kernel
theorem dX6_init_59 : decode cX6_init 59 = .ok (.aload_n 0, 1) := by decide +kernel
theorem dX6_init_60 : decode cX6_init 60 = .ok (.new 41, 3) := by decide +kernel
theorem dX6_init_63 : decode cX6_init 63 = .ok (.dup, 1) := by decide +kernel
theorem dX6_init_64 : decode cX6_init 64 = .ok (.invokespecial 43, 3) := by decide +kernel
theorem dX6_init_67 : decode cX6_init 67 = .ok (.putfield 44, 3) := by decide +kernel
theorem dX6_init_70 : decode cX6_init 70 = .ok (.aload_n 0, 1) := by decide +kernel
theorem dX6_init_71 : decode cX6_init 71 = .ok (.new 48, 3) := by decide +kernel
theorem dX6_init_74 : decode cX6_init 74 = .ok (.dup, 1) := by decide +kernel
theorem dX6_init_75 : decode cX6_init 75 = .ok (.invokespecial 50, 3) := by decide +kernel
theorem dX6_init_78 : decode cX6_init 78 = .ok (.putfield 51, 3) := by decide +kernel
theorem dX6_init_81 : decode cX6_init 81 = .ok (.aload_n 0, 1) := by decide +kernel
theorem dX6_init_82 : decode cX6_init 82 = .ok (.new 55, 3) := by decide +kernel
theorem dX6_init_85 : decode cX6_init 85 = .ok (.dup, 1) := by decide +kernel
theorem dX6_init_86 : decode cX6_init 86 = .ok (.invokespecial 57, 3) := by decide +kernel
theorem dX6_init_89 : decode cX6_init 89 = .ok (.putfield 58, 3) := by decide +kernel
theorem dX6_init_92 : decode cX6_init 92 = .ok (.aload_n 0, 1) := by decide +kernel
theorem dX6_init_93 : decode cX6_init 93 = .ok (.new 55, 3) := by decide +kernel
theorem dX6_init_96 : decode cX6_init 96 = .ok (.dup, 1) := by decide +kernel
theorem dX6_init_97 : decode cX6_init 97 = .ok (.invokespecial 57, 3) := by decide +kernel
theorem dX6_init_100 : decode cX6_init 100 = .ok (.putfield 62, 3) := by decide +kernel
theorem dX6_init_103 : decode cX6_init 103 = .ok (.iconst 0, 1) := by decide +kernel
theorem dX6_init_104 : decode cX6_init 104 = .ok (.istore_n 1, 1) := by decide +kernel
theorem dX6_init_105 : decode cX6_init 105 = .ok (.iload_n 1, 1) := by decide +kernel
theorem dX6_init_106 : decode cX6_init 106 = .ok (.aload_n 0, 1) := by decide +kernel
theorem dX6_init_107 : decode cX6_init 107 = .ok (.getfield 27, 3) := by decide +kernel
theorem dX6_init_110 : decode cX6_init 110 = .ok (.arraylength, 1) := by decide +kernel
theorem dX6_init_111 : decode cX6_init 111 = .ok (.if_icmp .ge 22, 3) := by decide +kernel
theorem dX6_init_114 : decode cX6_init 114 = .ok (.aload_n 0, 1) := by decide +kernel
theorem dX6_init_115 : decode cX6_init 115 = .ok (.getfield 27, 3) := by decide +kernel
theorem dX6_init_118 : decode cX6_init 118 = .ok (.iload_n 1, 1) := by decide +kernel
theorem dX6_init_119 : decode cX6_init 119 = .ok (.new 20, 3) := by decide +kernel
theorem dX6_init_122 : decode cX6_init 122 = .ok (.dup, 1) := by decide +kernel
theorem dX6_init_123 : decode cX6_init 123 = .ok (.invokespecial 22, 3) := by decide +kernel
theorem dX6_init_126 : decode cX6_init 126 = .ok (.aastore, 1) := by decide +kernel
theorem dX6_init_127 : decode cX6_init 127 = .ok (.iinc 1 1, 3) := by decide +kernel
theorem dX6_init_130 : decode cX6_init 130 = .ok (.goto (-25), 3) := by decide +kernel
theorem dX6_init_133 : decode cX6_init 133 = .ok (.return_, 1) := by decide +kernel
theorem dX6_type_0 : decode cX6_type 0 = .ok (.iload_n 1, 1) := by decide +kernel
theorem dX6_type_1 : decode cX6_type 1 = .ok (.bipush 33, 2) := by decide +kernel
theorem dX6_type_3 : decode cX6_type 3 = .ok (.if_icmp .lt 9, 3) := by decide +kernel
theorem dX6_type_6 : decode cX6_type 6 = .ok (.iload_n 1, 1) := by decide +kernel
theorem dX6_type_7 : decode cX6_type 7 = .ok (.bipush 126, 2) := by decide +kernel
theorem dX6_type_9 : decode cX6_type 9 = .ok (.if_icmp .le 5, 3) := by decide +kernel
theorem dX6_type_12 : decode cX6_type 12 = .ok (.iconst (-1), 1) := by decide +kernel
theorem dX6_type_13 : decode cX6_type 13 = .ok (.ireturn, 1) := by decide +kernel
theorem dX6_type_14 : decode cX6_type 14 = .ok (.aload_n 0, 1) := by decide +kernel
theorem dX6_type_15 : decode cX6_type 15 = .ok (.getfield 13, 3) := by decide +kernel
theorem dX6_type_18 : decode cX6_type 18 = .ok (.aload_n 0, 1) := by decide +kernel
theorem dX6_type_19 : decode cX6_type 19 = .ok (.getfield 9, 3) := by decide +kernel
theorem dX6_type_22 : decode cX6_type 22 = .ok (.arraylength, 1) := by decide +kernel
theorem dX6_type_23 : decode cX6_type 23 = .ok (.iconst 1, 1) := by decide +kernel
theorem dX6_type_24 : decode cX6_type 24 = .ok (.isub, 1) := by decide +kernel
theorem dX6_type_25 : decode cX6_type 25 = .ok (.invokestatic 65, 3) := by decide +kernel
theorem dX6_type_28 : decode cX6_type 28 = .ok (.ifCond .eq 6, 3) := by decide +kernel
theorem dX6_type_31 : decode cX6_type 31 = .ok (.bipush (-3), 2) := by decide +kernel
theorem dX6_type_33 : decode cX6_type 33 = .ok (.ireturn, 1) := by decide +kernel
theorem dX6_type_34 : decode cX6_type 34 = .ok (.aload_n 0, 1) := by decide +kernel
theorem dX6_type_35 : decode cX6_type 35 = .ok (.getfield 9, 3) := by decide +kernel
theorem dX6_type_38 : decode cX6_type 38 = .ok (.aload_n 0, 1) := by decide +kernel
theorem dX6_type_39 : decode cX6_type 39 = .ok (.getfield 13, 3) := by decide +kernel
theorem dX6_type_42 : decode cX6_type 42 = .ok (.iload_n 1, 1) := by decide +kernel
theorem dX6_type_43 : decode cX6_type 43 = .ok (.iastore, 1) := by decide +kernel
theorem dX6_type_44 : decode cX6_type 44 = .ok (.aload_n 0, 1) := by decide +kernel
theorem dX6_type_45 : decode cX6_type 45 = .ok (.dup, 1) := by decide +kernel
theorem dX6_type_46 : decode cX6_type 46 = .ok (.getfield 13, 3) := by decide +kernel
theorem dX6_type_49 : decode cX6_type 49 = .ok (.iconst 1, 1) := by decide +kernel
theorem dX6_type_50 : decode cX6_type 50 = .ok (.iadd, 1) := by decide +kernel
theorem dX6_type_51 : decode cX6_type 51 = .ok (.putfield 13, 3) := by decide +kernel
theorem dX6_type_54 : decode cX6_type 54 = .ok (.aload_n 0, 1) := by decide +kernel
theorem dX6_type_55 : decode cX6_type 55 = .ok (.getfield 13, 3) := by decide +kernel
theorem dX6_type_58 : decode cX6_type 58 = .ok (.ireturn, 1) := by decide +kernel
theorem dX6_clear_0 : decode cX6_clear 0 = .ok (.aload_n 0, 1) := by decide +kernel
theorem dX6_clear_1 : decode cX6_clear 1 = .ok (.getfield 13, 3) := by decide +kernel
theorem dX6_clear_4 : decode cX6_clear 4 = .ok (.istore_n 1, 1) := by decide +kernel
theorem dX6_clear_5 : decode cX6_clear 5 = .ok (.aload_n 0, 1) := by decide +kernel
theorem dX6_clear_6 : decode cX6_clear 6 = .ok (.iconst 0, 1) := by decide +kernel
theorem dX6_clear_7 : decode cX6_clear 7 = .ok (.putfield 13, 3) := by decide +kernel
theorem dX6_clear_10 : decode cX6_clear 10 = .ok (.iload_n 1, 1) := by decide +kernel
theorem dX6_clear_11 : decode cX6_clear 11 = .ok (.ireturn, 1) := by decide +kernel
theorem dX6_put_0 : decode cX6_put 0 = .ok (.iload_n 1, 1) := by decide +kernel
theorem dX6_put_1 : decode cX6_put 1 = .ok (.invokestatic 69, 3) := by decide +kernel
theorem dX6_put_4 : decode cX6_put 4 = .ok (.ifCond .eq 5, 3) := by decide +kernel
theorem dX6_put_7 : decode cX6_put 7 = .ok (.iconst (-1), 1) := by decide +kernel
theorem dX6_put_8 : decode cX6_put 8 = .ok (.ireturn, 1) := by decide +kernel
theorem dX6_put_9 : decode cX6_put 9 = .ok (.aload_n 0, 1) := by decide +kernel
theorem dX6_put_10 : decode cX6_put 10 = .ok (.bipush (-9), 2) := by decide +kernel
theorem dX6_put_12 : decode cX6_put 12 = .ok (.putfield 17, 3) := by decide +kernel
theorem dX6_put_15 : decode cX6_put 15 = .ok (.aload_n 0, 1) := by decide +kernel
theorem dX6_put_16 : decode cX6_put 16 = .ok (.getfield 37, 3) := by decide +kernel
theorem dX6_put_19 : decode cX6_put 19 = .ok (.aload_n 0, 1) := by decide +kernel
theorem dX6_put_20 : decode cX6_put 20 = .ok (.getfield 9, 3) := by decide +kernel
theorem dX6_put_23 : decode cX6_put 23 = .ok (.aload_n 0, 1) := by decide +kernel
theorem dX6_put_24 : decode cX6_put 24 = .ok (.getfield 13, 3) := by decide +kernel
theorem dX6_put_27 : decode cX6_put 27 = .ok (.invokevirtual 73, 3) := by decide +kernel
theorem dX6_put_30 : decode cX6_put 30 = .ok (.astore_n 2, 1) := by decide +kernel
theorem dX6_put_31 : decode cX6_put 31 = .ok (.aload_n 2, 1) := by decide +kernel
theorem dX6_put_32 : decode cX6_put 32 = .ok (.ifnonnull 25, 3) := by decide +kernel
theorem dX6_put_35 : decode cX6_put 35 = .ok (.aload_n 0, 1) := by decide +kernel
theorem dX6_put_36 : decode cX6_put 36 = .ok (.aload_n 0, 1) := by decide +kernel
theorem dX6_put_37 : decode cX6_put 37 = .ok (.getfield 37, 3) := by decide +kernel
theorem dX6_put_40 : decode cX6_put 40 = .ok (.getfield 77, 3) := by decide +kernel
theorem dX6_put_43 : decode cX6_put 43 = .ok (.putfield 17, 3) := by decide +kernel
theorem dX6_put_46 : decode cX6_put 46 = .ok (.bipush (-10), 2) := by decide +kernel
theorem dX6_put_48 : decode cX6_put 48 = .ok (.aload_n 0, 1) := by decide +kernel
theorem dX6_put_49 : decode cX6_put 49 = .ok (.getfield 37, 3) := by decide +kernel
theorem dX6_put_52 : decode cX6_put 52 = .ok (.getfield 80, 3) := by decide +kernel
theorem dX6_put_55 : decode cX6_put 55 = .ok (.isub, 1) := by decide +kernel
theorem dX6_put_56 : decode cX6_put 56 = .ok (.ireturn, 1) := by decide +kernel
theorem dX6_put_57 : decode cX6_put 57 = .ok (.aload_n 0, 1) := by decide +kernel
theorem dX6_put_58 : decode cX6_put 58 = .ok (.getfield 44, 3) := by decide +kernel
theorem dX6_put_61 : decode cX6_put 61 = .ok (.aload_n 2, 1) := by decide +kernel
theorem dX6_put_62 : decode cX6_put 62 = .ok (.aload_n 0, 1) := by decide +kernel
theorem dX6_put_63 : decode cX6_put 63 = .ok (.getfield 23, 3) := by decide +kernel
theorem dX6_put_66 : decode cX6_put 66 = .ok (.iconst 2, 1) := by decide +kernel
theorem dX6_put_67 : decode cX6_put 67 = .ok (.invokevirtual 83, 3) := by decide +kernel
theorem dX6_put_70 : decode cX6_put 70 = .ok (.invokevirtual 87, 3) := by decide +kernel
theorem dX6_put_73 : decode cX6_put 73 = .ok (.astore_n 3, 1) := by decide +kernel
theorem dX6_put_74 : decode cX6_put 74 = .ok (.aload_n 3, 1) := by decide +kernel
theorem dX6_put_75 : decode cX6_put 75 = .ok (.ifnonnull 16, 3) := by decide +kernel
theorem dX6_put_78 : decode cX6_put 78 = .ok (.aload_n 0, 1) := by decide +kernel
theorem dX6_put_79 : decode cX6_put 79 = .ok (.iconst 5, 1) := by decide +kernel
theorem dX6_put_80 : decode cX6_put 80 = .ok (.putfield 17, 3) := by decide +kernel
theorem dX6_put_83 : decode cX6_put 83 = .ok (.bipush (-10), 2) := by decide +kernel
theorem dX6_put_85 : decode cX6_put 85 = .ok (.aload_n 0, 1) := by decide +kernel
theorem dX6_put_86 : decode cX6_put 86 = .ok (.getfield 13, 3) := by decide +kernel
theorem dX6_put_89 : decode cX6_put 89 = .ok (.isub, 1) := by decide +kernel
theorem dX6_put_90 : decode cX6_put 90 = .ok (.ireturn, 1) := by decide +kernel
theorem dX6_put_91 : decode cX6_put 91 = .ok (.aload_n 0, 1) := by decide +kernel
theorem dX6_put_92 : decode cX6_put 92 = .ok (.getfield 44, 3) := by decide +kernel
theorem dX6_put_95 : decode cX6_put 95 = .ok (.aload_n 3, 1) := by decide +kernel
theorem dX6_put_96 : decode cX6_put 96 = .ok (.aload_n 0, 1) := by decide +kernel
theorem dX6_put_97 : decode cX6_put 97 = .ok (.getfield 23, 3) := by decide +kernel
theorem dX6_put_100 : decode cX6_put 100 = .ok (.iconst 3, 1) := by decide +kernel
theorem dX6_put_101 : decode cX6_put 101 = .ok (.invokevirtual 83, 3) := by decide +kernel
theorem dX6_put_104 : decode cX6_put 104 = .ok (.invokevirtual 91, 3) := by decide +kernel
theorem dX6_put_107 : decode cX6_put 107 = .ok (.aload_n 0, 1) := by decide +kernel
theorem dX6_put_108 : decode cX6_put 108 = .ok (.invokevirtual 95, 3) := by decide +kernel
theorem dX6_put_111 : decode cX6_put 111 = .ok (.aload_n 0, 1) := by decide +kernel
theorem dX6_put_112 : decode cX6_put 112 = .ok (.getfield 23, 3) := by decide +kernel
theorem dX6_put_115 : decode cX6_put 115 = .ok (.iload_n 1, 1) := by decide +kernel
theorem dX6_put_116 : decode cX6_put 116 = .ok (.aload_n 3, 1) := by decide +kernel
theorem dX6_put_117 : decode cX6_put 117 = .ok (.invokevirtual 98, 3) := by decide +kernel
theorem dX6_put_120 : decode cX6_put 120 = .ok (.aload_n 3, 1) := by decide +kernel
theorem dX6_put_121 : decode cX6_put 121 = .ok (.getfield 102, 3) := by decide +kernel
theorem dX6_put_124 : decode cX6_put 124 = .ok (.ireturn, 1) := by decide +kernel
theorem dX6_empty_0 : decode cX6_empty 0 = .ok (.iload_n 1, 1) := by decide +kernel
theorem dX6_empty_1 : decode cX6_empty 1 = .ok (.invokestatic 69, 3) := by decide +kernel
theorem dX6_empty_4 : decode cX6_empty 4 = .ok (.ifCond .eq 5, 3) := by decide +kernel
theorem dX6_empty_7 : decode cX6_empty 7 = .ok (.iconst (-1), 1) := by decide +kernel
theorem dX6_empty_8 : decode cX6_empty 8 = .ok (.ireturn, 1) := by decide +kernel
theorem dX6_empty_9 : decode cX6_empty 9 = .ok (.aload_n 0, 1) := by decide +kernel
theorem dX6_empty_10 : decode cX6_empty 10 = .ok (.getfield 23, 3) := by decide +kernel
theorem dX6_empty_13 : decode cX6_empty 13 = .ok (.iload_n 1, 1) := by decide +kernel
theorem dX6_empty_14 : decode cX6_empty 14 = .ok (.invokevirtual 107, 3) := by decide +kernel
theorem dX6_empty_17 : decode cX6_empty 17 = .ok (.astore_n 2, 1) := by decide +kernel
theorem dX6_empty_18 : decode cX6_empty 18 = .ok (.aload_n 2, 1) := by decide +kernel
theorem dX6_empty_19 : decode cX6_empty 19 = .ok (.ifnonnull 6, 3) := by decide +kernel
theorem dX6_empty_22 : decode cX6_empty 22 = .ok (.bipush (-2), 2) := by decide +kernel
theorem dX6_empty_24 : decode cX6_empty 24 = .ok (.ireturn, 1) := by decide +kernel
theorem dX6_empty_25 : decode cX6_empty 25 = .ok (.aload_n 0, 1) := by decide +kernel
theorem dX6_empty_26 : decode cX6_empty 26 = .ok (.invokevirtual 95, 3) := by decide +kernel
theorem dX6_empty_29 : decode cX6_empty 29 = .ok (.aload_n 0, 1) := by decide +kernel
theorem dX6_empty_30 : decode cX6_empty 30 = .ok (.getfield 23, 3) := by decide +kernel
theorem dX6_empty_33 : decode cX6_empty 33 = .ok (.iload_n 1, 1) := by decide +kernel
theorem dX6_empty_34 : decode cX6_empty 34 = .ok (.aconst_null, 1) := by decide +kernel
theorem dX6_empty_35 : decode cX6_empty 35 = .ok (.invokevirtual 98, 3) := by decide +kernel
theorem dX6_empty_38 : decode cX6_empty 38 = .ok (.aload_n 2, 1) := by decide +kernel
theorem dX6_empty_39 : decode cX6_empty 39 = .ok (.getfield 102, 3) := by decide +kernel
theorem dX6_empty_42 : decode cX6_empty 42 = .ok (.ireturn, 1) := by decide +kernel
theorem dX6_set_0 : decode cX6_set 0 = .ok (.iload_n 1, 1) := by decide +kernel
theorem dX6_set_1 : decode cX6_set 1 = .ok (.iconst 3, 1) := by decide +kernel
theorem dX6_set_2 : decode cX6_set 2 = .ok (.invokestatic 65, 3) := by decide +kernel
theorem dX6_set_5 : decode cX6_set 5 = .ok (.ifCond .eq 5, 3) := by decide +kernel
theorem dX6_set_8 : decode cX6_set 8 = .ok (.iconst (-1), 1) := by decide +kernel
theorem dX6_set_9 : decode cX6_set 9 = .ok (.ireturn, 1) := by decide +kernel
theorem dX6_set_10 : decode cX6_set 10 = .ok (.iload_n 1, 1) := by decide +kernel
theorem dX6_set_11 : decode cX6_set 11 = .ok (.iconst 2, 1) := by decide +kernel
theorem dX6_set_12 : decode cX6_set 12 = .ok (.if_icmp .eq 8, 3) := by decide +kernel
theorem dX6_set_15 : decode cX6_set 15 = .ok (.iload_n 1, 1) := by decide +kernel
theorem dX6_set_16 : decode cX6_set 16 = .ok (.iconst 3, 1) := by decide +kernel
theorem dX6_set_17 : decode cX6_set 17 = .ok (.if_icmp .ne 7, 3) := by decide +kernel
theorem dX6_set_20 : decode cX6_set 20 = .ok (.iconst 1, 1) := by decide +kernel
theorem dX6_set_21 : decode cX6_set 21 = .ok (.goto 4, 3) := by decide +kernel
theorem dX6_set_24 : decode cX6_set 24 = .ok (.iconst 0, 1) := by decide +kernel
theorem dX6_set_25 : decode cX6_set 25 = .ok (.istore_n 3, 1) := by decide +kernel
theorem dX6_set_26 : decode cX6_set 26 = .ok (.iload_n 2, 1) := by decide +kernel
theorem dX6_set_27 : decode cX6_set 27 = .ok (.iload_n 3, 1) := by decide +kernel
theorem dX6_set_28 : decode cX6_set 28 = .ok (.ifCond .eq 9, 3) := by decide +kernel
theorem dX6_set_31 : decode cX6_set 31 = .ok (.sipush 8191, 3) := by decide +kernel
theorem dX6_set_34 : decode cX6_set 34 = .ok (.goto 4, 3) := by decide +kernel
theorem dX6_set_37 : decode cX6_set 37 = .ok (.iconst 1, 1) := by decide +kernel
theorem dX6_set_38 : decode cX6_set 38 = .ok (.invokestatic 65, 3) := by decide +kernel
theorem dX6_set_41 : decode cX6_set 41 = .ok (.ifCond .eq 5, 3) := by decide +kernel
theorem dX6_set_44 : decode cX6_set 44 = .ok (.iconst (-1), 1) := by decide +kernel
theorem dX6_set_45 : decode cX6_set 45 = .ok (.ireturn, 1) := by decide +kernel
theorem dX6_set_46 : decode cX6_set 46 = .ok (.aload_n 0, 1) := by decide +kernel
theorem dX6_set_47 : decode cX6_set 47 = .ok (.getfield 23, 3) := by decide +kernel
theorem dX6_set_50 : decode cX6_set 50 = .ok (.iload_n 1, 1) := by decide +kernel
theorem dX6_set_51 : decode cX6_set 51 = .ok (.invokevirtual 83, 3) := by decide +kernel
theorem dX6_set_54 : decode cX6_set 54 = .ok (.istore 4, 2) := by decide +kernel
theorem dX6_set_56 : decode cX6_set 56 = .ok (.aload_n 0, 1) := by decide +kernel
theorem dX6_set_57 : decode cX6_set 57 = .ok (.invokevirtual 95, 3) := by decide +kernel
theorem dX6_set_60 : decode cX6_set 60 = .ok (.aload_n 0, 1) := by decide +kernel
theorem dX6_set_61 : decode cX6_set 61 = .ok (.getfield 23, 3) := by decide +kernel
theorem dX6_set_64 : decode cX6_set 64 = .ok (.iload_n 1, 1) := by decide +kernel
theorem dX6_set_65 : decode cX6_set 65 = .ok (.iload_n 2, 1) := by decide +kernel
theorem dX6_set_66 : decode cX6_set 66 = .ok (.invokevirtual 111, 3) := by decide +kernel
theorem dX6_set_69 : decode cX6_set 69 = .ok (.iload 4, 2) := by decide +kernel
theorem dX6_set_71 : decode cX6_set 71 = .ok (.ireturn, 1) := by decide +kernel
theorem dX6_node_0 : decode cX6_node 0 = .ok (.iload_n 1, 1) := by decide +kernel
theorem dX6_node_1 : decode cX6_node 1 = .ok (.invokestatic 69, 3) := by decide +kernel
theorem dX6_node_4 : decode cX6_node 4 = .ok (.ifCond .ne 15, 3) := by decide +kernel
theorem dX6_node_7 : decode cX6_node 7 = .ok (.iload_n 2, 1) := by decide +kernel
theorem dX6_node_8 : decode cX6_node 8 = .ok (.ifCond .lt 11, 3) := by decide +kernel
theorem dX6_node_11 : decode cX6_node 11 = .ok (.iload_n 3, 1) := by decide +kernel
theorem dX6_node_12 : decode cX6_node 12 = .ok (.iconst 4, 1) := by decide +kernel
theorem dX6_node_13 : decode cX6_node 13 = .ok (.invokestatic 65, 3) := by decide +kernel
theorem dX6_node_16 : decode cX6_node 16 = .ok (.ifCond .eq 5, 3) := by decide +kernel
theorem dX6_node_19 : decode cX6_node 19 = .ok (.iconst (-1), 1) := by decide +kernel
theorem dX6_node_20 : decode cX6_node 20 = .ok (.ireturn, 1) := by decide +kernel
theorem dX6_node_21 : decode cX6_node 21 = .ok (.aload_n 0, 1) := by decide +kernel
theorem dX6_node_22 : decode cX6_node 22 = .ok (.getfield 23, 3) := by decide +kernel
theorem dX6_node_25 : decode cX6_node 25 = .ok (.iload_n 1, 1) := by decide +kernel
theorem dX6_node_26 : decode cX6_node 26 = .ok (.invokevirtual 107, 3) := by decide +kernel
theorem dX6_node_29 : decode cX6_node 29 = .ok (.astore 4, 2) := by decide +kernel
theorem dX6_node_31 : decode cX6_node 31 = .ok (.aload 4, 2) := by decide +kernel
theorem dX6_node_33 : decode cX6_node 33 = .ok (.ifnonnull 6, 3) := by decide +kernel
theorem dX6_node_36 : decode cX6_node 36 = .ok (.bipush (-2), 2) := by decide +kernel
theorem dX6_node_38 : decode cX6_node 38 = .ok (.ireturn, 1) := by decide +kernel
theorem dX6_node_39 : decode cX6_node 39 = .ok (.iload_n 2, 1) := by decide +kernel
theorem dX6_node_40 : decode cX6_node 40 = .ok (.aload 4, 2) := by decide +kernel
theorem dX6_node_42 : decode cX6_node 42 = .ok (.getfield 102, 3) := by decide +kernel
theorem dX6_node_45 : decode cX6_node 45 = .ok (.if_icmp .lt 6, 3) := by decide +kernel
theorem dX6_node_48 : decode cX6_node 48 = .ok (.bipush (-9), 2) := by decide +kernel
theorem dX6_node_50 : decode cX6_node 50 = .ok (.ireturn, 1) := by decide +kernel
theorem dX6_node_51 : decode cX6_node 51 = .ok (.iload_n 3, 1) := by decide +kernel
theorem dX6_node_52 : decode cX6_node 52 = .ok (.tableswitch 60 0 3 #[32, 39, 46, 53], 32) := by decide +kernel
theorem dX6_node_84 : decode cX6_node 84 = .ok (.aload 4, 2) := by decide +kernel
theorem dX6_node_86 : decode cX6_node 86 = .ok (.iload_n 2, 1) := by decide +kernel
theorem dX6_node_87 : decode cX6_node 87 = .ok (.invokevirtual 115, 3) := by decide +kernel
theorem dX6_node_90 : decode cX6_node 90 = .ok (.ireturn, 1) := by decide +kernel
theorem dX6_node_91 : decode cX6_node 91 = .ok (.aload 4, 2) := by decide +kernel
theorem dX6_node_93 : decode cX6_node 93 = .ok (.iload_n 2, 1) := by decide +kernel
theorem dX6_node_94 : decode cX6_node 94 = .ok (.invokevirtual 118, 3) := by decide +kernel
theorem dX6_node_97 : decode cX6_node 97 = .ok (.ireturn, 1) := by decide +kernel
theorem dX6_node_98 : decode cX6_node 98 = .ok (.aload 4, 2) := by decide +kernel
theorem dX6_node_100 : decode cX6_node 100 = .ok (.iload_n 2, 1) := by decide +kernel
theorem dX6_node_101 : decode cX6_node 101 = .ok (.invokevirtual 121, 3) := by decide +kernel
theorem dX6_node_104 : decode cX6_node 104 = .ok (.ireturn, 1) := by decide +kernel
theorem dX6_node_105 : decode cX6_node 105 = .ok (.aload 4, 2) := by decide +kernel
theorem dX6_node_107 : decode cX6_node 107 = .ok (.iload_n 2, 1) := by decide +kernel
theorem dX6_node_108 : decode cX6_node 108 = .ok (.invokevirtual 124, 3) := by decide +kernel
theorem dX6_node_111 : decode cX6_node 111 = .ok (.ireturn, 1) := by decide +kernel
theorem dX6_node_112 : decode cX6_node 112 = .ok (.aload 4, 2) := by decide +kernel
theorem dX6_node_114 : decode cX6_node 114 = .ok (.iload_n 2, 1) := by decide +kernel
theorem dX6_node_115 : decode cX6_node 115 = .ok (.invokevirtual 127, 3) := by decide +kernel
theorem dX6_node_118 : decode cX6_node 118 = .ok (.ireturn, 1) := by decide +kernel
theorem dX6_size_0 : decode cX6_size 0 = .ok (.iload_n 1, 1) := by decide +kernel
theorem dX6_size_1 : decode cX6_size 1 = .ok (.invokestatic 69, 3) := by decide +kernel
theorem dX6_size_4 : decode cX6_size 4 = .ok (.ifCond .ne 11, 3) := by decide +kernel
theorem dX6_size_7 : decode cX6_size 7 = .ok (.iload_n 2, 1) := by decide +kernel
theorem dX6_size_8 : decode cX6_size 8 = .ok (.iconst 4, 1) := by decide +kernel
theorem dX6_size_9 : decode cX6_size 9 = .ok (.invokestatic 65, 3) := by decide +kernel
theorem dX6_size_12 : decode cX6_size 12 = .ok (.ifCond .eq 5, 3) := by decide +kernel
theorem dX6_size_15 : decode cX6_size 15 = .ok (.iconst (-1), 1) := by decide +kernel
theorem dX6_size_16 : decode cX6_size 16 = .ok (.ireturn, 1) := by decide +kernel
theorem dX6_size_17 : decode cX6_size 17 = .ok (.aload_n 0, 1) := by decide +kernel
theorem dX6_size_18 : decode cX6_size 18 = .ok (.getfield 23, 3) := by decide +kernel
theorem dX6_size_21 : decode cX6_size 21 = .ok (.iload_n 1, 1) := by decide +kernel
theorem dX6_size_22 : decode cX6_size 22 = .ok (.invokevirtual 107, 3) := by decide +kernel
theorem dX6_size_25 : decode cX6_size 25 = .ok (.astore_n 3, 1) := by decide +kernel
theorem dX6_size_26 : decode cX6_size 26 = .ok (.aload_n 3, 1) := by decide +kernel
theorem dX6_size_27 : decode cX6_size 27 = .ok (.ifnonnull 6, 3) := by decide +kernel
theorem dX6_size_30 : decode cX6_size 30 = .ok (.bipush (-2), 2) := by decide +kernel
theorem dX6_size_32 : decode cX6_size 32 = .ok (.ireturn, 1) := by decide +kernel
theorem dX6_size_33 : decode cX6_size 33 = .ok (.iload_n 2, 1) := by decide +kernel
theorem dX6_size_34 : decode cX6_size 34 = .ok (.tableswitch 53 0 3 #[30, 35, 40, 48], 30) := by decide +kernel
theorem dX6_size_64 : decode cX6_size 64 = .ok (.aload_n 3, 1) := by decide +kernel
theorem dX6_size_65 : decode cX6_size 65 = .ok (.getfield 102, 3) := by decide +kernel
theorem dX6_size_68 : decode cX6_size 68 = .ok (.ireturn, 1) := by decide +kernel
theorem dX6_size_69 : decode cX6_size 69 = .ok (.aload_n 3, 1) := by decide +kernel
theorem dX6_size_70 : decode cX6_size 70 = .ok (.invokevirtual 130, 3) := by decide +kernel
theorem dX6_size_73 : decode cX6_size 73 = .ok (.ireturn, 1) := by decide +kernel
theorem dX6_size_74 : decode cX6_size 74 = .ok (.aload_n 3, 1) := by decide +kernel
theorem dX6_size_75 : decode cX6_size 75 = .ok (.invokevirtual 134, 3) := by decide +kernel
theorem dX6_size_78 : decode cX6_size 78 = .ok (.invokestatic 137, 3) := by decide +kernel
theorem dX6_size_81 : decode cX6_size 81 = .ok (.ireturn, 1) := by decide +kernel
theorem dX6_size_82 : decode cX6_size 82 = .ok (.aload_n 3, 1) := by decide +kernel
theorem dX6_size_83 : decode cX6_size 83 = .ok (.invokevirtual 142, 3) := by decide +kernel
theorem dX6_size_86 : decode cX6_size 86 = .ok (.ireturn, 1) := by decide +kernel
theorem dX6_size_87 : decode cX6_size 87 = .ok (.aload_n 3, 1) := by decide +kernel
theorem dX6_size_88 : decode cX6_size 88 = .ok (.invokevirtual 134, 3) := by decide +kernel
theorem dX6_size_91 : decode cX6_size 91 = .ok (.invokestatic 145, 3) := by decide +kernel
theorem dX6_size_94 : decode cX6_size 94 = .ok (.ireturn, 1) := by decide +kernel
theorem dX6_join_0 : decode cX6_join 0 = .ok (.iload_n 1, 1) := by decide +kernel
theorem dX6_join_1 : decode cX6_join 1 = .ok (.invokestatic 69, 3) := by decide +kernel
theorem dX6_join_4 : decode cX6_join 4 = .ok (.ifCond .ne 17, 3) := by decide +kernel
theorem dX6_join_7 : decode cX6_join 7 = .ok (.iload_n 2, 1) := by decide +kernel
theorem dX6_join_8 : decode cX6_join 8 = .ok (.invokestatic 69, 3) := by decide +kernel
theorem dX6_join_11 : decode cX6_join 11 = .ok (.ifCond .ne 10, 3) := by decide +kernel
theorem dX6_join_14 : decode cX6_join 14 = .ok (.iload_n 3, 1) := by decide +kernel
theorem dX6_join_15 : decode cX6_join 15 = .ok (.invokestatic 69, 3) := by decide +kernel
theorem dX6_join_18 : decode cX6_join 18 = .ok (.ifCond .eq 5, 3) := by decide +kernel
theorem dX6_join_21 : decode cX6_join 21 = .ok (.iconst (-1), 1) := by decide +kernel
theorem dX6_join_22 : decode cX6_join 22 = .ok (.ireturn, 1) := by decide +kernel
theorem dX6_join_23 : decode cX6_join 23 = .ok (.aload_n 0, 1) := by decide +kernel
theorem dX6_join_24 : decode cX6_join 24 = .ok (.getfield 23, 3) := by decide +kernel
theorem dX6_join_27 : decode cX6_join 27 = .ok (.iload_n 1, 1) := by decide +kernel
theorem dX6_join_28 : decode cX6_join 28 = .ok (.invokevirtual 107, 3) := by decide +kernel
theorem dX6_join_31 : decode cX6_join 31 = .ok (.astore 4, 2) := by decide +kernel
theorem dX6_join_33 : decode cX6_join 33 = .ok (.aload_n 0, 1) := by decide +kernel
theorem dX6_join_34 : decode cX6_join 34 = .ok (.getfield 23, 3) := by decide +kernel
theorem dX6_join_37 : decode cX6_join 37 = .ok (.iload_n 2, 1) := by decide +kernel
theorem dX6_join_38 : decode cX6_join 38 = .ok (.invokevirtual 107, 3) := by decide +kernel
theorem dX6_join_41 : decode cX6_join 41 = .ok (.astore 5, 2) := by decide +kernel
theorem dX6_join_43 : decode cX6_join 43 = .ok (.aload 4, 2) := by decide +kernel
theorem dX6_join_45 : decode cX6_join 45 = .ok (.ifnull 8, 3) := by decide +kernel
theorem dX6_join_48 : decode cX6_join 48 = .ok (.aload 5, 2) := by decide +kernel
theorem dX6_join_50 : decode cX6_join 50 = .ok (.ifnonnull 6, 3) := by decide +kernel
theorem dX6_join_53 : decode cX6_join 53 = .ok (.bipush (-2), 2) := by decide +kernel
theorem dX6_join_55 : decode cX6_join 55 = .ok (.ireturn, 1) := by decide +kernel
theorem dX6_join_56 : decode cX6_join 56 = .ok (.aload_n 0, 1) := by decide +kernel
theorem dX6_join_57 : decode cX6_join 57 = .ok (.getfield 51, 3) := by decide +kernel
theorem dX6_join_60 : decode cX6_join 60 = .ok (.aload_n 0, 1) := by decide +kernel
theorem dX6_join_61 : decode cX6_join 61 = .ok (.getfield 23, 3) := by decide +kernel
theorem dX6_join_64 : decode cX6_join 64 = .ok (.invokevirtual 148, 3) := by decide +kernel
theorem dX6_join_67 : decode cX6_join 67 = .ok (.aload_n 0, 1) := by decide +kernel
theorem dX6_join_68 : decode cX6_join 68 = .ok (.aload_n 0, 1) := by decide +kernel
theorem dX6_join_69 : decode cX6_join 69 = .ok (.getfield 51, 3) := by decide +kernel
theorem dX6_join_72 : decode cX6_join 72 = .ok (.aload 4, 2) := by decide +kernel
theorem dX6_join_74 : decode cX6_join 74 = .ok (.aload 5, 2) := by decide +kernel
theorem dX6_join_76 : decode cX6_join 76 = .ok (.invokevirtual 152, 3) := by decide +kernel
theorem dX6_join_79 : decode cX6_join 79 = .ok (.iload_n 3, 1) := by decide +kernel
theorem dX6_join_80 : decode cX6_join 80 = .ok (.invokevirtual 156, 3) := by decide +kernel
theorem dX6_join_83 : decode cX6_join 83 = .ok (.ireturn, 1) := by decide +kernel
theorem dX6_joinAll_0 : decode cX6_joinAll 0 = .ok (.iload_n 1, 1) := by decide +kernel
theorem dX6_joinAll_1 : decode cX6_joinAll 1 = .ok (.sipush 255, 3) := by decide +kernel
theorem dX6_joinAll_4 : decode cX6_joinAll 4 = .ok (.invokestatic 65, 3) := by decide +kernel
theorem dX6_joinAll_7 : decode cX6_joinAll 7 = .ok (.ifCond .ne 10, 3) := by decide +kernel
theorem dX6_joinAll_10 : decode cX6_joinAll 10 = .ok (.iload_n 2, 1) := by decide +kernel
theorem dX6_joinAll_11 : decode cX6_joinAll 11 = .ok (.invokestatic 69, 3) := by decide +kernel
theorem dX6_joinAll_14 : decode cX6_joinAll 14 = .ok (.ifCond .eq 5, 3) := by decide +kernel
theorem dX6_joinAll_17 : decode cX6_joinAll 17 = .ok (.iconst (-1), 1) := by decide +kernel
theorem dX6_joinAll_18 : decode cX6_joinAll 18 = .ok (.ireturn, 1) := by decide +kernel
theorem dX6_joinAll_19 : decode cX6_joinAll 19 = .ok (.iload_n 1, 1) := by decide +kernel
theorem dX6_joinAll_20 : decode cX6_joinAll 20 = .ok (.invokestatic 137, 3) := by decide +kernel
theorem dX6_joinAll_23 : decode cX6_joinAll 23 = .ok (.iconst 2, 1) := by decide +kernel
theorem dX6_joinAll_24 : decode cX6_joinAll 24 = .ok (.if_icmp .lt 17, 3) := by decide +kernel
theorem dX6_joinAll_27 : decode cX6_joinAll 27 = .ok (.iload_n 1, 1) := by decide +kernel
theorem dX6_joinAll_28 : decode cX6_joinAll 28 = .ok (.aload_n 0, 1) := by decide +kernel
theorem dX6_joinAll_29 : decode cX6_joinAll 29 = .ok (.getfield 23, 3) := by decide +kernel
theorem dX6_joinAll_32 : decode cX6_joinAll 32 = .ok (.invokevirtual 160, 3) := by decide +kernel
theorem dX6_joinAll_35 : decode cX6_joinAll 35 = .ok (.iconst (-1), 1) := by decide +kernel
theorem dX6_joinAll_36 : decode cX6_joinAll 36 = .ok (.ixor, 1) := by decide +kernel
theorem dX6_joinAll_37 : decode cX6_joinAll 37 = .ok (.iand, 1) := by decide +kernel
theorem dX6_joinAll_38 : decode cX6_joinAll 38 = .ok (.ifCond .eq 6, 3) := by decide +kernel
theorem dX6_joinAll_41 : decode cX6_joinAll 41 = .ok (.bipush (-2), 2) := by decide +kernel
theorem dX6_joinAll_43 : decode cX6_joinAll 43 = .ok (.ireturn, 1) := by decide +kernel
theorem dX6_joinAll_44 : decode cX6_joinAll 44 = .ok (.aconst_null, 1) := by decide +kernel
theorem dX6_joinAll_45 : decode cX6_joinAll 45 = .ok (.astore_n 3, 1) := by decide +kernel
theorem dX6_joinAll_46 : decode cX6_joinAll 46 = .ok (.iconst 0, 1) := by decide +kernel
theorem dX6_joinAll_47 : decode cX6_joinAll 47 = .ok (.istore 4, 2) := by decide +kernel
theorem dX6_joinAll_49 : decode cX6_joinAll 49 = .ok (.iload 4, 2) := by decide +kernel
theorem dX6_joinAll_51 : decode cX6_joinAll 51 = .ok (.bipush 8, 2) := by decide +kernel
theorem dX6_joinAll_53 : decode cX6_joinAll 53 = .ok (.if_icmp .ge 76, 3) := by decide +kernel
theorem dX6_joinAll_56 : decode cX6_joinAll 56 = .ok (.aload_n 0, 1) := by decide +kernel
theorem dX6_joinAll_57 : decode cX6_joinAll 57 = .ok (.getfield 23, 3) := by decide +kernel
theorem dX6_joinAll_60 : decode cX6_joinAll 60 = .ok (.iload 4, 2) := by decide +kernel
theorem dX6_joinAll_62 : decode cX6_joinAll 62 = .ok (.invokevirtual 107, 3) := by decide +kernel
theorem dX6_joinAll_65 : decode cX6_joinAll 65 = .ok (.astore 5, 2) := by decide +kernel
theorem dX6_joinAll_67 : decode cX6_joinAll 67 = .ok (.iload_n 1, 1) := by decide +kernel
theorem dX6_joinAll_68 : decode cX6_joinAll 68 = .ok (.iload 4, 2) := by decide +kernel
theorem dX6_joinAll_70 : decode cX6_joinAll 70 = .ok (.ishr, 1) := by decide +kernel
theorem dX6_joinAll_71 : decode cX6_joinAll 71 = .ok (.iconst 1, 1) := by decide +kernel
theorem dX6_joinAll_72 : decode cX6_joinAll 72 = .ok (.iand, 1) := by decide +kernel
theorem dX6_joinAll_73 : decode cX6_joinAll 73 = .ok (.ifCond .eq 50, 3) := by decide +kernel
theorem dX6_joinAll_76 : decode cX6_joinAll 76 = .ok (.aload 5, 2) := by decide +kernel
theorem dX6_joinAll_78 : decode cX6_joinAll 78 = .ok (.ifnonnull 6, 3) := by decide +kernel
theorem dX6_joinAll_81 : decode cX6_joinAll 81 = .ok (.goto 42, 3) := by decide +kernel
theorem dX6_joinAll_84 : decode cX6_joinAll 84 = .ok (.aload_n 3, 1) := by decide +kernel
theorem dX6_joinAll_85 : decode cX6_joinAll 85 = .ok (.ifnonnull 9, 3) := by decide +kernel
theorem dX6_joinAll_88 : decode cX6_joinAll 88 = .ok (.aload 5, 2) := by decide +kernel
theorem dX6_joinAll_90 : decode cX6_joinAll 90 = .ok (.astore_n 3, 1) := by decide +kernel
theorem dX6_joinAll_91 : decode cX6_joinAll 91 = .ok (.goto 32, 3) := by decide +kernel
theorem dX6_joinAll_94 : decode cX6_joinAll 94 = .ok (.aload_n 0, 1) := by decide +kernel
theorem dX6_joinAll_95 : decode cX6_joinAll 95 = .ok (.getfield 51, 3) := by decide +kernel
theorem dX6_joinAll_98 : decode cX6_joinAll 98 = .ok (.aload_n 0, 1) := by decide +kernel
theorem dX6_joinAll_99 : decode cX6_joinAll 99 = .ok (.getfield 23, 3) := by decide +kernel
theorem dX6_joinAll_102 : decode cX6_joinAll 102 = .ok (.invokevirtual 148, 3) := by decide +kernel
theorem dX6_joinAll_105 : decode cX6_joinAll 105 = .ok (.aload_n 0, 1) := by decide +kernel
theorem dX6_joinAll_106 : decode cX6_joinAll 106 = .ok (.getfield 51, 3) := by decide +kernel
theorem dX6_joinAll_109 : decode cX6_joinAll 109 = .ok (.aload_n 3, 1) := by decide +kernel
theorem dX6_joinAll_110 : decode cX6_joinAll 110 = .ok (.aload 5, 2) := by decide +kernel
theorem dX6_joinAll_112 : decode cX6_joinAll 112 = .ok (.invokevirtual 152, 3) := by decide +kernel
theorem dX6_joinAll_115 : decode cX6_joinAll 115 = .ok (.astore_n 3, 1) := by decide +kernel
theorem dX6_joinAll_116 : decode cX6_joinAll 116 = .ok (.aload_n 3, 1) := by decide +kernel
theorem dX6_joinAll_117 : decode cX6_joinAll 117 = .ok (.ifnonnull 6, 3) := by decide +kernel
theorem dX6_joinAll_120 : decode cX6_joinAll 120 = .ok (.bipush (-3), 2) := by decide +kernel
theorem dX6_joinAll_122 : decode cX6_joinAll 122 = .ok (.ireturn, 1) := by decide +kernel
theorem dX6_joinAll_123 : decode cX6_joinAll 123 = .ok (.iinc 4 1, 3) := by decide +kernel
theorem dX6_joinAll_126 : decode cX6_joinAll 126 = .ok (.goto (-77), 3) := by decide +kernel
theorem dX6_joinAll_129 : decode cX6_joinAll 129 = .ok (.aload_n 0, 1) := by decide +kernel
theorem dX6_joinAll_130 : decode cX6_joinAll 130 = .ok (.aload_n 3, 1) := by decide +kernel
theorem dX6_joinAll_131 : decode cX6_joinAll 131 = .ok (.iload_n 2, 1) := by decide +kernel
theorem dX6_joinAll_132 : decode cX6_joinAll 132 = .ok (.invokevirtual 156, 3) := by decide +kernel
theorem dX6_joinAll_135 : decode cX6_joinAll 135 = .ok (.ireturn, 1) := by decide +kernel
theorem dX6_origin_0 : decode cX6_origin 0 = .ok (.iload_n 1, 1) := by decide +kernel
theorem dX6_origin_1 : decode cX6_origin 1 = .ok (.invokestatic 69, 3) := by decide +kernel
theorem dX6_origin_4 : decode cX6_origin 4 = .ok (.ifCond .ne 28, 3) := by decide +kernel
theorem dX6_origin_7 : decode cX6_origin 7 = .ok (.iload_n 2, 1) := by decide +kernel
theorem dX6_origin_8 : decode cX6_origin 8 = .ok (.invokestatic 69, 3) := by decide +kernel
theorem dX6_origin_11 : decode cX6_origin 11 = .ok (.ifCond .ne 21, 3) := by decide +kernel
theorem dX6_origin_14 : decode cX6_origin 14 = .ok (.iload_n 3, 1) := by decide +kernel
theorem dX6_origin_15 : decode cX6_origin 15 = .ok (.bipush 9, 2) := by decide +kernel
theorem dX6_origin_17 : decode cX6_origin 17 = .ok (.invokestatic 65, 3) := by decide +kernel
theorem dX6_origin_20 : decode cX6_origin 20 = .ok (.ifCond .ne 12, 3) := by decide +kernel
theorem dX6_origin_23 : decode cX6_origin 23 = .ok (.iload 4, 2) := by decide +kernel
theorem dX6_origin_25 : decode cX6_origin 25 = .ok (.iconst 3, 1) := by decide +kernel
theorem dX6_origin_26 : decode cX6_origin 26 = .ok (.invokestatic 65, 3) := by decide +kernel
theorem dX6_origin_29 : decode cX6_origin 29 = .ok (.ifCond .eq 5, 3) := by decide +kernel
theorem dX6_origin_32 : decode cX6_origin 32 = .ok (.iconst (-1), 1) := by decide +kernel
theorem dX6_origin_33 : decode cX6_origin 33 = .ok (.ireturn, 1) := by decide +kernel
theorem dX6_origin_34 : decode cX6_origin 34 = .ok (.aload_n 0, 1) := by decide +kernel
theorem dX6_origin_35 : decode cX6_origin 35 = .ok (.getfield 23, 3) := by decide +kernel
theorem dX6_origin_38 : decode cX6_origin 38 = .ok (.iload_n 1, 1) := by decide +kernel
theorem dX6_origin_39 : decode cX6_origin 39 = .ok (.invokevirtual 107, 3) := by decide +kernel
theorem dX6_origin_42 : decode cX6_origin 42 = .ok (.astore 5, 2) := by decide +kernel
theorem dX6_origin_44 : decode cX6_origin 44 = .ok (.aload_n 0, 1) := by decide +kernel
theorem dX6_origin_45 : decode cX6_origin 45 = .ok (.getfield 23, 3) := by decide +kernel
theorem dX6_origin_48 : decode cX6_origin 48 = .ok (.iload_n 2, 1) := by decide +kernel
theorem dX6_origin_49 : decode cX6_origin 49 = .ok (.invokevirtual 107, 3) := by decide +kernel
theorem dX6_origin_52 : decode cX6_origin 52 = .ok (.astore 6, 2) := by decide +kernel
theorem dX6_origin_54 : decode cX6_origin 54 = .ok (.aload 5, 2) := by decide +kernel
theorem dX6_origin_56 : decode cX6_origin 56 = .ok (.ifnull 8, 3) := by decide +kernel
theorem dX6_origin_59 : decode cX6_origin 59 = .ok (.aload 6, 2) := by decide +kernel
theorem dX6_origin_61 : decode cX6_origin 61 = .ok (.ifnonnull 6, 3) := by decide +kernel
theorem dX6_origin_64 : decode cX6_origin 64 = .ok (.bipush (-2), 2) := by decide +kernel
theorem dX6_origin_66 : decode cX6_origin 66 = .ok (.ireturn, 1) := by decide +kernel
theorem dX6_origin_67 : decode cX6_origin 67 = .ok (.aload_n 0, 1) := by decide +kernel
theorem dX6_origin_68 : decode cX6_origin 68 = .ok (.getfield 51, 3) := by decide +kernel
theorem dX6_origin_71 : decode cX6_origin 71 = .ok (.aload_n 0, 1) := by decide +kernel
theorem dX6_origin_72 : decode cX6_origin 72 = .ok (.getfield 23, 3) := by decide +kernel
theorem dX6_origin_75 : decode cX6_origin 75 = .ok (.invokevirtual 148, 3) := by decide +kernel
theorem dX6_origin_78 : decode cX6_origin 78 = .ok (.aload_n 0, 1) := by decide +kernel
theorem dX6_origin_79 : decode cX6_origin 79 = .ok (.getfield 51, 3) := by decide +kernel
theorem dX6_origin_82 : decode cX6_origin 82 = .ok (.aload 5, 2) := by decide +kernel
theorem dX6_origin_84 : decode cX6_origin 84 = .ok (.aload 6, 2) := by decide +kernel
theorem dX6_origin_86 : decode cX6_origin 86 = .ok (.invokevirtual 152, 3) := by decide +kernel
theorem dX6_origin_89 : decode cX6_origin 89 = .ok (.ifnonnull 6, 3) := by decide +kernel
theorem dX6_origin_92 : decode cX6_origin 92 = .ok (.bipush (-3), 2) := by decide +kernel
theorem dX6_origin_94 : decode cX6_origin 94 = .ok (.ireturn, 1) := by decide +kernel
theorem dX6_origin_95 : decode cX6_origin 95 = .ok (.aload_n 0, 1) := by decide +kernel
theorem dX6_origin_96 : decode cX6_origin 96 = .ok (.getfield 51, 3) := by decide +kernel
theorem dX6_origin_99 : decode cX6_origin 99 = .ok (.iload_n 3, 1) := by decide +kernel
theorem dX6_origin_100 : decode cX6_origin 100 = .ok (.iload 4, 2) := by decide +kernel
theorem dX6_origin_102 : decode cX6_origin 102 = .ok (.invokevirtual 163, 3) := by decide +kernel
theorem dX6_origin_105 : decode cX6_origin 105 = .ok (.ireturn, 1) := by decide +kernel
theorem dX6_covers_0 : decode cX6_covers 0 = .ok (.iload_n 1, 1) := by decide +kernel
theorem dX6_covers_1 : decode cX6_covers 1 = .ok (.invokestatic 69, 3) := by decide +kernel
theorem dX6_covers_4 : decode cX6_covers 4 = .ok (.ifCond .ne 10, 3) := by decide +kernel
theorem dX6_covers_7 : decode cX6_covers 7 = .ok (.iload_n 2, 1) := by decide +kernel
theorem dX6_covers_8 : decode cX6_covers 8 = .ok (.invokestatic 69, 3) := by decide +kernel
theorem dX6_covers_11 : decode cX6_covers 11 = .ok (.ifCond .eq 5, 3) := by decide +kernel
theorem dX6_covers_14 : decode cX6_covers 14 = .ok (.iconst (-1), 1) := by decide +kernel
theorem dX6_covers_15 : decode cX6_covers 15 = .ok (.ireturn, 1) := by decide +kernel
theorem dX6_covers_16 : decode cX6_covers 16 = .ok (.aload_n 0, 1) := by decide +kernel
theorem dX6_covers_17 : decode cX6_covers 17 = .ok (.getfield 23, 3) := by decide +kernel
theorem dX6_covers_20 : decode cX6_covers 20 = .ok (.iload_n 1, 1) := by decide +kernel
theorem dX6_covers_21 : decode cX6_covers 21 = .ok (.invokevirtual 107, 3) := by decide +kernel
theorem dX6_covers_24 : decode cX6_covers 24 = .ok (.astore_n 3, 1) := by decide +kernel
theorem dX6_covers_25 : decode cX6_covers 25 = .ok (.aload_n 0, 1) := by decide +kernel
theorem dX6_covers_26 : decode cX6_covers 26 = .ok (.getfield 23, 3) := by decide +kernel
theorem dX6_covers_29 : decode cX6_covers 29 = .ok (.iload_n 2, 1) := by decide +kernel
theorem dX6_covers_30 : decode cX6_covers 30 = .ok (.invokevirtual 107, 3) := by decide +kernel
theorem dX6_covers_33 : decode cX6_covers 33 = .ok (.astore 4, 2) := by decide +kernel
theorem dX6_covers_35 : decode cX6_covers 35 = .ok (.aload_n 3, 1) := by decide +kernel
theorem dX6_covers_36 : decode cX6_covers 36 = .ok (.ifnull 8, 3) := by decide +kernel
theorem dX6_covers_39 : decode cX6_covers 39 = .ok (.aload 4, 2) := by decide +kernel
theorem dX6_covers_41 : decode cX6_covers 41 = .ok (.ifnonnull 6, 3) := by decide +kernel
theorem dX6_covers_44 : decode cX6_covers 44 = .ok (.bipush (-2), 2) := by decide +kernel
theorem dX6_covers_46 : decode cX6_covers 46 = .ok (.ireturn, 1) := by decide +kernel
theorem dX6_covers_47 : decode cX6_covers 47 = .ok (.aload_n 0, 1) := by decide +kernel
theorem dX6_covers_48 : decode cX6_covers 48 = .ok (.getfield 58, 3) := by decide +kernel
theorem dX6_covers_51 : decode cX6_covers 51 = .ok (.aload_n 3, 1) := by decide +kernel
theorem dX6_covers_52 : decode cX6_covers 52 = .ok (.aload 4, 2) := by decide +kernel
theorem dX6_covers_54 : decode cX6_covers 54 = .ok (.invokevirtual 167, 3) := by decide +kernel
theorem dX6_covers_57 : decode cX6_covers 57 = .ok (.ifCond .eq 7, 3) := by decide +kernel
theorem dX6_covers_60 : decode cX6_covers 60 = .ok (.iconst 1, 1) := by decide +kernel
theorem dX6_covers_61 : decode cX6_covers 61 = .ok (.goto 4, 3) := by decide +kernel
theorem dX6_covers_64 : decode cX6_covers 64 = .ok (.iconst 0, 1) := by decide +kernel
theorem dX6_covers_65 : decode cX6_covers 65 = .ok (.ireturn, 1) := by decide +kernel
theorem dX6_filled_0 : decode cX6_filled 0 = .ok (.iload_n 1, 1) := by decide +kernel
theorem dX6_filled_1 : decode cX6_filled 1 = .ok (.invokestatic 69, 3) := by decide +kernel
theorem dX6_filled_4 : decode cX6_filled 4 = .ok (.ifCond .ne 28, 3) := by decide +kernel
theorem dX6_filled_7 : decode cX6_filled 7 = .ok (.iload_n 2, 1) := by decide +kernel
theorem dX6_filled_8 : decode cX6_filled 8 = .ok (.invokestatic 69, 3) := by decide +kernel
theorem dX6_filled_11 : decode cX6_filled 11 = .ok (.ifCond .ne 21, 3) := by decide +kernel
theorem dX6_filled_14 : decode cX6_filled 14 = .ok (.iload_n 3, 1) := by decide +kernel
theorem dX6_filled_15 : decode cX6_filled 15 = .ok (.bipush 9, 2) := by decide +kernel
theorem dX6_filled_17 : decode cX6_filled 17 = .ok (.invokestatic 65, 3) := by decide +kernel
theorem dX6_filled_20 : decode cX6_filled 20 = .ok (.ifCond .ne 12, 3) := by decide +kernel
theorem dX6_filled_23 : decode cX6_filled 23 = .ok (.iload 4, 2) := by decide +kernel
theorem dX6_filled_25 : decode cX6_filled 25 = .ok (.iconst 2, 1) := by decide +kernel
theorem dX6_filled_26 : decode cX6_filled 26 = .ok (.invokestatic 65, 3) := by decide +kernel
theorem dX6_filled_29 : decode cX6_filled 29 = .ok (.ifCond .eq 5, 3) := by decide +kernel
theorem dX6_filled_32 : decode cX6_filled 32 = .ok (.iconst (-1), 1) := by decide +kernel
theorem dX6_filled_33 : decode cX6_filled 33 = .ok (.ireturn, 1) := by decide +kernel
theorem dX6_filled_34 : decode cX6_filled 34 = .ok (.aload_n 0, 1) := by decide +kernel
theorem dX6_filled_35 : decode cX6_filled 35 = .ok (.getfield 23, 3) := by decide +kernel
theorem dX6_filled_38 : decode cX6_filled 38 = .ok (.iload_n 1, 1) := by decide +kernel
theorem dX6_filled_39 : decode cX6_filled 39 = .ok (.invokevirtual 107, 3) := by decide +kernel
theorem dX6_filled_42 : decode cX6_filled 42 = .ok (.astore 5, 2) := by decide +kernel
theorem dX6_filled_44 : decode cX6_filled 44 = .ok (.aload_n 0, 1) := by decide +kernel
theorem dX6_filled_45 : decode cX6_filled 45 = .ok (.getfield 23, 3) := by decide +kernel
theorem dX6_filled_48 : decode cX6_filled 48 = .ok (.iload_n 2, 1) := by decide +kernel
theorem dX6_filled_49 : decode cX6_filled 49 = .ok (.invokevirtual 107, 3) := by decide +kernel
theorem dX6_filled_52 : decode cX6_filled 52 = .ok (.astore 6, 2) := by decide +kernel
theorem dX6_filled_54 : decode cX6_filled 54 = .ok (.aload 5, 2) := by decide +kernel
theorem dX6_filled_56 : decode cX6_filled 56 = .ok (.ifnull 8, 3) := by decide +kernel
theorem dX6_filled_59 : decode cX6_filled 59 = .ok (.aload 6, 2) := by decide +kernel
theorem dX6_filled_61 : decode cX6_filled 61 = .ok (.ifnonnull 6, 3) := by decide +kernel
theorem dX6_filled_64 : decode cX6_filled 64 = .ok (.bipush (-2), 2) := by decide +kernel
theorem dX6_filled_66 : decode cX6_filled 66 = .ok (.ireturn, 1) := by decide +kernel
theorem dX6_filled_67 : decode cX6_filled 67 = .ok (.aload_n 0, 1) := by decide +kernel
theorem dX6_filled_68 : decode cX6_filled 68 = .ok (.getfield 58, 3) := by decide +kernel
theorem dX6_filled_71 : decode cX6_filled 71 = .ok (.aload 5, 2) := by decide +kernel
theorem dX6_filled_73 : decode cX6_filled 73 = .ok (.aload 6, 2) := by decide +kernel
theorem dX6_filled_75 : decode cX6_filled 75 = .ok (.invokevirtual 167, 3) := by decide +kernel
theorem dX6_filled_78 : decode cX6_filled 78 = .ok (.ifCond .eq 16, 3) := by decide +kernel
theorem dX6_filled_81 : decode cX6_filled 81 = .ok (.aload_n 0, 1) := by decide +kernel
theorem dX6_filled_82 : decode cX6_filled 82 = .ok (.getfield 58, 3) := by decide +kernel
theorem dX6_filled_85 : decode cX6_filled 85 = .ok (.iload_n 3, 1) := by decide +kernel
theorem dX6_filled_86 : decode cX6_filled 86 = .ok (.iload 4, 2) := by decide +kernel
theorem dX6_filled_88 : decode cX6_filled 88 = .ok (.invokevirtual 171, 3) := by decide +kernel
theorem dX6_filled_91 : decode cX6_filled 91 = .ok (.goto 5, 3) := by decide +kernel
theorem dX6_filled_94 : decode cX6_filled 94 = .ok (.bipush (-9), 2) := by decide +kernel
theorem dX6_filled_96 : decode cX6_filled 96 = .ok (.ireturn, 1) := by decide +kernel
theorem dX6_compare_0 : decode cX6_compare 0 = .ok (.iload_n 1, 1) := by decide +kernel
theorem dX6_compare_1 : decode cX6_compare 1 = .ok (.invokestatic 69, 3) := by decide +kernel
theorem dX6_compare_4 : decode cX6_compare 4 = .ok (.ifCond .ne 10, 3) := by decide +kernel
theorem dX6_compare_7 : decode cX6_compare 7 = .ok (.iload_n 2, 1) := by decide +kernel
theorem dX6_compare_8 : decode cX6_compare 8 = .ok (.invokestatic 69, 3) := by decide +kernel
theorem dX6_compare_11 : decode cX6_compare 11 = .ok (.ifCond .eq 5, 3) := by decide +kernel
theorem dX6_compare_14 : decode cX6_compare 14 = .ok (.iconst (-1), 1) := by decide +kernel
theorem dX6_compare_15 : decode cX6_compare 15 = .ok (.ireturn, 1) := by decide +kernel
theorem dX6_compare_16 : decode cX6_compare 16 = .ok (.aload_n 0, 1) := by decide +kernel
theorem dX6_compare_17 : decode cX6_compare 17 = .ok (.getfield 23, 3) := by decide +kernel
theorem dX6_compare_20 : decode cX6_compare 20 = .ok (.iload_n 1, 1) := by decide +kernel
theorem dX6_compare_21 : decode cX6_compare 21 = .ok (.invokevirtual 107, 3) := by decide +kernel
theorem dX6_compare_24 : decode cX6_compare 24 = .ok (.astore_n 3, 1) := by decide +kernel
theorem dX6_compare_25 : decode cX6_compare 25 = .ok (.aload_n 0, 1) := by decide +kernel
theorem dX6_compare_26 : decode cX6_compare 26 = .ok (.getfield 23, 3) := by decide +kernel
theorem dX6_compare_29 : decode cX6_compare 29 = .ok (.iload_n 2, 1) := by decide +kernel
theorem dX6_compare_30 : decode cX6_compare 30 = .ok (.invokevirtual 107, 3) := by decide +kernel
theorem dX6_compare_33 : decode cX6_compare 33 = .ok (.astore 4, 2) := by decide +kernel
theorem dX6_compare_35 : decode cX6_compare 35 = .ok (.aload_n 3, 1) := by decide +kernel
theorem dX6_compare_36 : decode cX6_compare 36 = .ok (.ifnull 8, 3) := by decide +kernel
theorem dX6_compare_39 : decode cX6_compare 39 = .ok (.aload 4, 2) := by decide +kernel
theorem dX6_compare_41 : decode cX6_compare 41 = .ok (.ifnonnull 6, 3) := by decide +kernel
theorem dX6_compare_44 : decode cX6_compare 44 = .ok (.bipush (-2), 2) := by decide +kernel
theorem dX6_compare_46 : decode cX6_compare 46 = .ok (.ireturn, 1) := by decide +kernel
theorem dX6_compare_47 : decode cX6_compare 47 = .ok (.aload_n 0, 1) := by decide +kernel
theorem dX6_compare_48 : decode cX6_compare 48 = .ok (.getfield 58, 3) := by decide +kernel
theorem dX6_compare_51 : decode cX6_compare 51 = .ok (.aload_n 3, 1) := by decide +kernel
theorem dX6_compare_52 : decode cX6_compare 52 = .ok (.aload 4, 2) := by decide +kernel
theorem dX6_compare_54 : decode cX6_compare 54 = .ok (.invokevirtual 167, 3) := by decide +kernel
theorem dX6_compare_57 : decode cX6_compare 57 = .ok (.istore 5, 2) := by decide +kernel
theorem dX6_compare_59 : decode cX6_compare 59 = .ok (.aload_n 0, 1) := by decide +kernel
theorem dX6_compare_60 : decode cX6_compare 60 = .ok (.getfield 58, 3) := by decide +kernel
theorem dX6_compare_63 : decode cX6_compare 63 = .ok (.aload 4, 2) := by decide +kernel
theorem dX6_compare_65 : decode cX6_compare 65 = .ok (.aload_n 3, 1) := by decide +kernel
theorem dX6_compare_66 : decode cX6_compare 66 = .ok (.invokevirtual 167, 3) := by decide +kernel
theorem dX6_compare_69 : decode cX6_compare 69 = .ok (.istore 6, 2) := by decide +kernel
theorem dX6_compare_71 : decode cX6_compare 71 = .ok (.iload 5, 2) := by decide +kernel
theorem dX6_compare_73 : decode cX6_compare 73 = .ok (.ifCond .eq 14, 3) := by decide +kernel
theorem dX6_compare_76 : decode cX6_compare 76 = .ok (.iload 6, 2) := by decide +kernel
theorem dX6_compare_78 : decode cX6_compare 78 = .ok (.ifCond .eq 7, 3) := by decide +kernel
theorem dX6_compare_81 : decode cX6_compare 81 = .ok (.iconst 0, 1) := by decide +kernel
theorem dX6_compare_82 : decode cX6_compare 82 = .ok (.goto 4, 3) := by decide +kernel
theorem dX6_compare_85 : decode cX6_compare 85 = .ok (.iconst 1, 1) := by decide +kernel
theorem dX6_compare_86 : decode cX6_compare 86 = .ok (.ireturn, 1) := by decide +kernel
theorem dX6_compare_87 : decode cX6_compare 87 = .ok (.iload 6, 2) := by decide +kernel
theorem dX6_compare_89 : decode cX6_compare 89 = .ok (.ifCond .eq 7, 3) := by decide +kernel
theorem dX6_compare_92 : decode cX6_compare 92 = .ok (.iconst 2, 1) := by decide +kernel
theorem dX6_compare_93 : decode cX6_compare 93 = .ok (.goto 4, 3) := by decide +kernel
theorem dX6_compare_96 : decode cX6_compare 96 = .ok (.iconst 3, 1) := by decide +kernel
theorem dX6_compare_97 : decode cX6_compare 97 = .ok (.ireturn, 1) := by decide +kernel
theorem dX6_covered_0 : decode cX6_covered 0 = .ok (.iload_n 1, 1) := by decide +kernel
theorem dX6_covered_1 : decode cX6_covered 1 = .ok (.invokestatic 69, 3) := by decide +kernel
theorem dX6_covered_4 : decode cX6_covered 4 = .ok (.ifCond .eq 5, 3) := by decide +kernel
theorem dX6_covered_7 : decode cX6_covered 7 = .ok (.iconst (-1), 1) := by decide +kernel
theorem dX6_covered_8 : decode cX6_covered 8 = .ok (.ireturn, 1) := by decide +kernel
theorem dX6_covered_9 : decode cX6_covered 9 = .ok (.aload_n 0, 1) := by decide +kernel
theorem dX6_covered_10 : decode cX6_covered 10 = .ok (.getfield 23, 3) := by decide +kernel
theorem dX6_covered_13 : decode cX6_covered 13 = .ok (.iload_n 1, 1) := by decide +kernel
theorem dX6_covered_14 : decode cX6_covered 14 = .ok (.invokevirtual 107, 3) := by decide +kernel
theorem dX6_covered_17 : decode cX6_covered 17 = .ok (.astore_n 2, 1) := by decide +kernel
theorem dX6_covered_18 : decode cX6_covered 18 = .ok (.aload_n 2, 1) := by decide +kernel
theorem dX6_covered_19 : decode cX6_covered 19 = .ok (.ifnonnull 6, 3) := by decide +kernel
theorem dX6_covered_22 : decode cX6_covered 22 = .ok (.bipush (-2), 2) := by decide +kernel
theorem dX6_covered_24 : decode cX6_covered 24 = .ok (.ireturn, 1) := by decide +kernel
theorem dX6_covered_25 : decode cX6_covered 25 = .ok (.iconst 0, 1) := by decide +kernel
theorem dX6_covered_26 : decode cX6_covered 26 = .ok (.istore_n 3, 1) := by decide +kernel
theorem dX6_covered_27 : decode cX6_covered 27 = .ok (.iconst 0, 1) := by decide +kernel
theorem dX6_covered_28 : decode cX6_covered 28 = .ok (.istore 4, 2) := by decide +kernel
theorem dX6_covered_30 : decode cX6_covered 30 = .ok (.iload 4, 2) := by decide +kernel
theorem dX6_covered_32 : decode cX6_covered 32 = .ok (.bipush 8, 2) := by decide +kernel
theorem dX6_covered_34 : decode cX6_covered 34 = .ok (.if_icmp .ge 45, 3) := by decide +kernel
theorem dX6_covered_37 : decode cX6_covered 37 = .ok (.aload_n 0, 1) := by decide +kernel
theorem dX6_covered_38 : decode cX6_covered 38 = .ok (.getfield 23, 3) := by decide +kernel
theorem dX6_covered_41 : decode cX6_covered 41 = .ok (.iload 4, 2) := by decide +kernel
theorem dX6_covered_43 : decode cX6_covered 43 = .ok (.invokevirtual 107, 3) := by decide +kernel
theorem dX6_covered_46 : decode cX6_covered 46 = .ok (.astore 5, 2) := by decide +kernel
theorem dX6_covered_48 : decode cX6_covered 48 = .ok (.aload 5, 2) := by decide +kernel
theorem dX6_covered_50 : decode cX6_covered 50 = .ok (.ifnull 23, 3) := by decide +kernel
theorem dX6_covered_53 : decode cX6_covered 53 = .ok (.aload_n 0, 1) := by decide +kernel
theorem dX6_covered_54 : decode cX6_covered 54 = .ok (.getfield 58, 3) := by decide +kernel
theorem dX6_covered_57 : decode cX6_covered 57 = .ok (.aload_n 2, 1) := by decide +kernel
theorem dX6_covered_58 : decode cX6_covered 58 = .ok (.aload 5, 2) := by decide +kernel
theorem dX6_covered_60 : decode cX6_covered 60 = .ok (.invokevirtual 167, 3) := by decide +kernel
theorem dX6_covered_63 : decode cX6_covered 63 = .ok (.ifCond .eq 10, 3) := by decide +kernel
theorem dX6_covered_66 : decode cX6_covered 66 = .ok (.iload_n 3, 1) := by decide +kernel
theorem dX6_covered_67 : decode cX6_covered 67 = .ok (.iconst 1, 1) := by decide +kernel
theorem dX6_covered_68 : decode cX6_covered 68 = .ok (.iload 4, 2) := by decide +kernel
theorem dX6_covered_70 : decode cX6_covered 70 = .ok (.ishl, 1) := by decide +kernel
theorem dX6_covered_71 : decode cX6_covered 71 = .ok (.ior, 1) := by decide +kernel
theorem dX6_covered_72 : decode cX6_covered 72 = .ok (.istore_n 3, 1) := by decide +kernel
theorem dX6_covered_73 : decode cX6_covered 73 = .ok (.iinc 4 1, 3) := by decide +kernel
theorem dX6_covered_76 : decode cX6_covered 76 = .ok (.goto (-46), 3) := by decide +kernel
theorem dX6_covered_79 : decode cX6_covered 79 = .ok (.iload_n 3, 1) := by decide +kernel
theorem dX6_covered_80 : decode cX6_covered 80 = .ok (.ireturn, 1) := by decide +kernel
theorem dX6_isLeast_0 : decode cX6_isLeast 0 = .ok (.iload_n 1, 1) := by decide +kernel
theorem dX6_isLeast_1 : decode cX6_isLeast 1 = .ok (.invokestatic 69, 3) := by decide +kernel
theorem dX6_isLeast_4 : decode cX6_isLeast 4 = .ok (.ifCond .ne 17, 3) := by decide +kernel
theorem dX6_isLeast_7 : decode cX6_isLeast 7 = .ok (.iload_n 2, 1) := by decide +kernel
theorem dX6_isLeast_8 : decode cX6_isLeast 8 = .ok (.invokestatic 69, 3) := by decide +kernel
theorem dX6_isLeast_11 : decode cX6_isLeast 11 = .ok (.ifCond .ne 10, 3) := by decide +kernel
theorem dX6_isLeast_14 : decode cX6_isLeast 14 = .ok (.iload_n 3, 1) := by decide +kernel
theorem dX6_isLeast_15 : decode cX6_isLeast 15 = .ok (.invokestatic 69, 3) := by decide +kernel
theorem dX6_isLeast_18 : decode cX6_isLeast 18 = .ok (.ifCond .eq 5, 3) := by decide +kernel
theorem dX6_isLeast_21 : decode cX6_isLeast 21 = .ok (.iconst (-1), 1) := by decide +kernel
theorem dX6_isLeast_22 : decode cX6_isLeast 22 = .ok (.ireturn, 1) := by decide +kernel
theorem dX6_isLeast_23 : decode cX6_isLeast 23 = .ok (.aload_n 0, 1) := by decide +kernel
theorem dX6_isLeast_24 : decode cX6_isLeast 24 = .ok (.getfield 23, 3) := by decide +kernel
theorem dX6_isLeast_27 : decode cX6_isLeast 27 = .ok (.iload_n 1, 1) := by decide +kernel
theorem dX6_isLeast_28 : decode cX6_isLeast 28 = .ok (.invokevirtual 107, 3) := by decide +kernel
theorem dX6_isLeast_31 : decode cX6_isLeast 31 = .ok (.astore 4, 2) := by decide +kernel
theorem dX6_isLeast_33 : decode cX6_isLeast 33 = .ok (.aload_n 0, 1) := by decide +kernel
theorem dX6_isLeast_34 : decode cX6_isLeast 34 = .ok (.getfield 23, 3) := by decide +kernel
theorem dX6_isLeast_37 : decode cX6_isLeast 37 = .ok (.iload_n 2, 1) := by decide +kernel
theorem dX6_isLeast_38 : decode cX6_isLeast 38 = .ok (.invokevirtual 107, 3) := by decide +kernel
theorem dX6_isLeast_41 : decode cX6_isLeast 41 = .ok (.astore 5, 2) := by decide +kernel
theorem dX6_isLeast_43 : decode cX6_isLeast 43 = .ok (.aload_n 0, 1) := by decide +kernel
theorem dX6_isLeast_44 : decode cX6_isLeast 44 = .ok (.getfield 23, 3) := by decide +kernel
theorem dX6_isLeast_47 : decode cX6_isLeast 47 = .ok (.iload_n 3, 1) := by decide +kernel
theorem dX6_isLeast_48 : decode cX6_isLeast 48 = .ok (.invokevirtual 107, 3) := by decide +kernel
theorem dX6_isLeast_51 : decode cX6_isLeast 51 = .ok (.astore 6, 2) := by decide +kernel
theorem dX6_isLeast_53 : decode cX6_isLeast 53 = .ok (.aload 4, 2) := by decide +kernel
theorem dX6_isLeast_55 : decode cX6_isLeast 55 = .ok (.ifnull 13, 3) := by decide +kernel
theorem dX6_isLeast_58 : decode cX6_isLeast 58 = .ok (.aload 5, 2) := by decide +kernel
theorem dX6_isLeast_60 : decode cX6_isLeast 60 = .ok (.ifnull 8, 3) := by decide +kernel
theorem dX6_isLeast_63 : decode cX6_isLeast 63 = .ok (.aload 6, 2) := by decide +kernel
theorem dX6_isLeast_65 : decode cX6_isLeast 65 = .ok (.ifnonnull 6, 3) := by decide +kernel
theorem dX6_isLeast_68 : decode cX6_isLeast 68 = .ok (.bipush (-2), 2) := by decide +kernel
theorem dX6_isLeast_70 : decode cX6_isLeast 70 = .ok (.ireturn, 1) := by decide +kernel
theorem dX6_isLeast_71 : decode cX6_isLeast 71 = .ok (.aload_n 0, 1) := by decide +kernel
theorem dX6_isLeast_72 : decode cX6_isLeast 72 = .ok (.getfield 58, 3) := by decide +kernel
theorem dX6_isLeast_75 : decode cX6_isLeast 75 = .ok (.aload 4, 2) := by decide +kernel
theorem dX6_isLeast_77 : decode cX6_isLeast 77 = .ok (.aload 5, 2) := by decide +kernel
theorem dX6_isLeast_79 : decode cX6_isLeast 79 = .ok (.invokevirtual 167, 3) := by decide +kernel
theorem dX6_isLeast_82 : decode cX6_isLeast 82 = .ok (.ifCond .eq 17, 3) := by decide +kernel
theorem dX6_isLeast_85 : decode cX6_isLeast 85 = .ok (.aload_n 0, 1) := by decide +kernel
theorem dX6_isLeast_86 : decode cX6_isLeast 86 = .ok (.getfield 62, 3) := by decide +kernel
theorem dX6_isLeast_89 : decode cX6_isLeast 89 = .ok (.aload 4, 2) := by decide +kernel
theorem dX6_isLeast_91 : decode cX6_isLeast 91 = .ok (.aload 6, 2) := by decide +kernel
theorem dX6_isLeast_93 : decode cX6_isLeast 93 = .ok (.invokevirtual 167, 3) := by decide +kernel
theorem dX6_isLeast_96 : decode cX6_isLeast 96 = .ok (.ifCond .ne 5, 3) := by decide +kernel
theorem dX6_isLeast_99 : decode cX6_isLeast 99 = .ok (.iconst 0, 1) := by decide +kernel
theorem dX6_isLeast_100 : decode cX6_isLeast 100 = .ok (.ireturn, 1) := by decide +kernel
theorem dX6_isLeast_101 : decode cX6_isLeast 101 = .ok (.iconst 0, 1) := by decide +kernel
theorem dX6_isLeast_102 : decode cX6_isLeast 102 = .ok (.istore 7, 2) := by decide +kernel
theorem dX6_isLeast_104 : decode cX6_isLeast 104 = .ok (.iload 7, 2) := by decide +kernel
theorem dX6_isLeast_106 : decode cX6_isLeast 106 = .ok (.bipush 10, 2) := by decide +kernel
theorem dX6_isLeast_108 : decode cX6_isLeast 108 = .ok (.if_icmp .ge 43, 3) := by decide +kernel
theorem dX6_isLeast_111 : decode cX6_isLeast 111 = .ok (.aload_n 0, 1) := by decide +kernel
theorem dX6_isLeast_112 : decode cX6_isLeast 112 = .ok (.getfield 58, 3) := by decide +kernel
theorem dX6_isLeast_115 : decode cX6_isLeast 115 = .ok (.iload 7, 2) := by decide +kernel
theorem dX6_isLeast_117 : decode cX6_isLeast 117 = .ok (.aload_n 0, 1) := by decide +kernel
theorem dX6_isLeast_118 : decode cX6_isLeast 118 = .ok (.getfield 62, 3) := by decide +kernel
theorem dX6_isLeast_121 : decode cX6_isLeast 121 = .ok (.invokevirtual 174, 3) := by decide +kernel
theorem dX6_isLeast_124 : decode cX6_isLeast 124 = .ok (.ifCond .ne 19, 3) := by decide +kernel
theorem dX6_isLeast_127 : decode cX6_isLeast 127 = .ok (.aload_n 0, 1) := by decide +kernel
theorem dX6_isLeast_128 : decode cX6_isLeast 128 = .ok (.getfield 58, 3) := by decide +kernel
theorem dX6_isLeast_131 : decode cX6_isLeast 131 = .ok (.iload 7, 2) := by decide +kernel
theorem dX6_isLeast_133 : decode cX6_isLeast 133 = .ok (.aload_n 0, 1) := by decide +kernel
theorem dX6_isLeast_134 : decode cX6_isLeast 134 = .ok (.getfield 62, 3) := by decide +kernel
theorem dX6_isLeast_137 : decode cX6_isLeast 137 = .ok (.invokevirtual 178, 3) := by decide +kernel
theorem dX6_isLeast_140 : decode cX6_isLeast 140 = .ok (.ifCond .eq 5, 3) := by decide +kernel
theorem dX6_isLeast_143 : decode cX6_isLeast 143 = .ok (.iconst 0, 1) := by decide +kernel
theorem dX6_isLeast_144 : decode cX6_isLeast 144 = .ok (.ireturn, 1) := by decide +kernel
theorem dX6_isLeast_145 : decode cX6_isLeast 145 = .ok (.iinc 7 1, 3) := by decide +kernel
theorem dX6_isLeast_148 : decode cX6_isLeast 148 = .ok (.goto (-44), 3) := by decide +kernel
theorem dX6_isLeast_151 : decode cX6_isLeast 151 = .ok (.iconst 1, 1) := by decide +kernel
theorem dX6_isLeast_152 : decode cX6_isLeast 152 = .ok (.ireturn, 1) := by decide +kernel
theorem dX6_learn_0 : decode cX6_learn 0 = .ok (.iload_n 1, 1) := by decide +kernel
theorem dX6_learn_1 : decode cX6_learn 1 = .ok (.invokestatic 69, 3) := by decide +kernel
theorem dX6_learn_4 : decode cX6_learn 4 = .ok (.ifCond .ne 48, 3) := by decide +kernel
theorem dX6_learn_7 : decode cX6_learn 7 = .ok (.iload_n 2, 1) := by decide +kernel
theorem dX6_learn_8 : decode cX6_learn 8 = .ok (.invokestatic 69, 3) := by decide +kernel
theorem dX6_learn_11 : decode cX6_learn 11 = .ok (.ifCond .ne 41, 3) := by decide +kernel
theorem dX6_learn_14 : decode cX6_learn 14 = .ok (.iload_n 3, 1) := by decide +kernel
theorem dX6_learn_15 : decode cX6_learn 15 = .ok (.invokestatic 69, 3) := by decide +kernel
theorem dX6_learn_18 : decode cX6_learn 18 = .ok (.ifCond .ne 34, 3) := by decide +kernel
theorem dX6_learn_21 : decode cX6_learn 21 = .ok (.iload 4, 2) := by decide +kernel
theorem dX6_learn_23 : decode cX6_learn 23 = .ok (.invokestatic 69, 3) := by decide +kernel
theorem dX6_learn_26 : decode cX6_learn 26 = .ok (.ifCond .ne 26, 3) := by decide +kernel
theorem dX6_learn_29 : decode cX6_learn 29 = .ok (.iload 5, 2) := by decide +kernel
theorem dX6_learn_31 : decode cX6_learn 31 = .ok (.invokestatic 69, 3) := by decide +kernel
theorem dX6_learn_34 : decode cX6_learn 34 = .ok (.ifCond .ne 18, 3) := by decide +kernel
theorem dX6_learn_37 : decode cX6_learn 37 = .ok (.iload 6, 2) := by decide +kernel
theorem dX6_learn_39 : decode cX6_learn 39 = .ok (.invokestatic 69, 3) := by decide +kernel
theorem dX6_learn_42 : decode cX6_learn 42 = .ok (.ifCond .ne 10, 3) := by decide +kernel
theorem dX6_learn_45 : decode cX6_learn 45 = .ok (.iload 5, 2) := by decide +kernel
theorem dX6_learn_47 : decode cX6_learn 47 = .ok (.iload 6, 2) := by decide +kernel
theorem dX6_learn_49 : decode cX6_learn 49 = .ok (.if_icmp .ne 5, 3) := by decide +kernel
theorem dX6_learn_52 : decode cX6_learn 52 = .ok (.iconst (-1), 1) := by decide +kernel
theorem dX6_learn_53 : decode cX6_learn 53 = .ok (.ireturn, 1) := by decide +kernel
theorem dX6_learn_54 : decode cX6_learn 54 = .ok (.aload_n 0, 1) := by decide +kernel
theorem dX6_learn_55 : decode cX6_learn 55 = .ok (.getfield 23, 3) := by decide +kernel
theorem dX6_learn_58 : decode cX6_learn 58 = .ok (.iload_n 1, 1) := by decide +kernel
theorem dX6_learn_59 : decode cX6_learn 59 = .ok (.invokevirtual 107, 3) := by decide +kernel
theorem dX6_learn_62 : decode cX6_learn 62 = .ok (.astore 7, 2) := by decide +kernel
theorem dX6_learn_64 : decode cX6_learn 64 = .ok (.aload_n 0, 1) := by decide +kernel
theorem dX6_learn_65 : decode cX6_learn 65 = .ok (.getfield 23, 3) := by decide +kernel
theorem dX6_learn_68 : decode cX6_learn 68 = .ok (.iload_n 2, 1) := by decide +kernel
theorem dX6_learn_69 : decode cX6_learn 69 = .ok (.invokevirtual 107, 3) := by decide +kernel
theorem dX6_learn_72 : decode cX6_learn 72 = .ok (.astore 8, 2) := by decide +kernel
theorem dX6_learn_74 : decode cX6_learn 74 = .ok (.aload_n 0, 1) := by decide +kernel
theorem dX6_learn_75 : decode cX6_learn 75 = .ok (.getfield 23, 3) := by decide +kernel
theorem dX6_learn_78 : decode cX6_learn 78 = .ok (.iload_n 3, 1) := by decide +kernel
theorem dX6_learn_79 : decode cX6_learn 79 = .ok (.invokevirtual 107, 3) := by decide +kernel
theorem dX6_learn_82 : decode cX6_learn 82 = .ok (.astore 9, 2) := by decide +kernel
theorem dX6_learn_84 : decode cX6_learn 84 = .ok (.aload_n 0, 1) := by decide +kernel
theorem dX6_learn_85 : decode cX6_learn 85 = .ok (.getfield 23, 3) := by decide +kernel
theorem dX6_learn_88 : decode cX6_learn 88 = .ok (.iload 4, 2) := by decide +kernel
theorem dX6_learn_90 : decode cX6_learn 90 = .ok (.invokevirtual 107, 3) := by decide +kernel
theorem dX6_learn_93 : decode cX6_learn 93 = .ok (.astore 10, 2) := by decide +kernel
theorem dX6_learn_95 : decode cX6_learn 95 = .ok (.aload 7, 2) := by decide +kernel
theorem dX6_learn_97 : decode cX6_learn 97 = .ok (.ifnull 18, 3) := by decide +kernel
theorem dX6_learn_100 : decode cX6_learn 100 = .ok (.aload 8, 2) := by decide +kernel
theorem dX6_learn_102 : decode cX6_learn 102 = .ok (.ifnull 13, 3) := by decide +kernel
theorem dX6_learn_105 : decode cX6_learn 105 = .ok (.aload 9, 2) := by decide +kernel
theorem dX6_learn_107 : decode cX6_learn 107 = .ok (.ifnull 8, 3) := by decide +kernel
theorem dX6_learn_110 : decode cX6_learn 110 = .ok (.aload 10, 2) := by decide +kernel
theorem dX6_learn_112 : decode cX6_learn 112 = .ok (.ifnonnull 6, 3) := by decide +kernel
theorem dX6_learn_115 : decode cX6_learn 115 = .ok (.bipush (-2), 2) := by decide +kernel
theorem dX6_learn_117 : decode cX6_learn 117 = .ok (.ireturn, 1) := by decide +kernel
theorem dX6_learn_118 : decode cX6_learn 118 = .ok (.aload_n 0, 1) := by decide +kernel
theorem dX6_learn_119 : decode cX6_learn 119 = .ok (.getfield 51, 3) := by decide +kernel
theorem dX6_learn_122 : decode cX6_learn 122 = .ok (.aload_n 0, 1) := by decide +kernel
theorem dX6_learn_123 : decode cX6_learn 123 = .ok (.getfield 23, 3) := by decide +kernel
theorem dX6_learn_126 : decode cX6_learn 126 = .ok (.invokevirtual 148, 3) := by decide +kernel
theorem dX6_learn_129 : decode cX6_learn 129 = .ok (.aload_n 0, 1) := by decide +kernel
theorem dX6_learn_130 : decode cX6_learn 130 = .ok (.getfield 51, 3) := by decide +kernel
theorem dX6_learn_133 : decode cX6_learn 133 = .ok (.aload 7, 2) := by decide +kernel
theorem dX6_learn_135 : decode cX6_learn 135 = .ok (.aload 9, 2) := by decide +kernel
theorem dX6_learn_137 : decode cX6_learn 137 = .ok (.invokevirtual 152, 3) := by decide +kernel
theorem dX6_learn_140 : decode cX6_learn 140 = .ok (.astore 11, 2) := by decide +kernel
theorem dX6_learn_142 : decode cX6_learn 142 = .ok (.aload 11, 2) := by decide +kernel
theorem dX6_learn_144 : decode cX6_learn 144 = .ok (.ifnonnull 6, 3) := by decide +kernel
theorem dX6_learn_147 : decode cX6_learn 147 = .ok (.bipush (-3), 2) := by decide +kernel
theorem dX6_learn_149 : decode cX6_learn 149 = .ok (.ireturn, 1) := by decide +kernel
theorem dX6_learn_150 : decode cX6_learn 150 = .ok (.aload_n 0, 1) := by decide +kernel
theorem dX6_learn_151 : decode cX6_learn 151 = .ok (.getfield 51, 3) := by decide +kernel
theorem dX6_learn_154 : decode cX6_learn 154 = .ok (.aload 8, 2) := by decide +kernel
theorem dX6_learn_156 : decode cX6_learn 156 = .ok (.aload 10, 2) := by decide +kernel
theorem dX6_learn_158 : decode cX6_learn 158 = .ok (.invokevirtual 152, 3) := by decide +kernel
theorem dX6_learn_161 : decode cX6_learn 161 = .ok (.astore 12, 2) := by decide +kernel
theorem dX6_learn_163 : decode cX6_learn 163 = .ok (.aload 12, 2) := by decide +kernel
theorem dX6_learn_165 : decode cX6_learn 165 = .ok (.ifnonnull 6, 3) := by decide +kernel
theorem dX6_learn_168 : decode cX6_learn 168 = .ok (.bipush (-3), 2) := by decide +kernel
theorem dX6_learn_170 : decode cX6_learn 170 = .ok (.ireturn, 1) := by decide +kernel
theorem dX6_learn_171 : decode cX6_learn 171 = .ok (.aload_n 0, 1) := by decide +kernel
theorem dX6_learn_172 : decode cX6_learn 172 = .ok (.invokevirtual 95, 3) := by decide +kernel
theorem dX6_learn_175 : decode cX6_learn 175 = .ok (.aload_n 0, 1) := by decide +kernel
theorem dX6_learn_176 : decode cX6_learn 176 = .ok (.getfield 23, 3) := by decide +kernel
theorem dX6_learn_179 : decode cX6_learn 179 = .ok (.iload 5, 2) := by decide +kernel
theorem dX6_learn_181 : decode cX6_learn 181 = .ok (.aload 11, 2) := by decide +kernel
theorem dX6_learn_183 : decode cX6_learn 183 = .ok (.invokevirtual 98, 3) := by decide +kernel
theorem dX6_learn_186 : decode cX6_learn 186 = .ok (.aload_n 0, 1) := by decide +kernel
theorem dX6_learn_187 : decode cX6_learn 187 = .ok (.getfield 23, 3) := by decide +kernel
theorem dX6_learn_190 : decode cX6_learn 190 = .ok (.iload 6, 2) := by decide +kernel
theorem dX6_learn_192 : decode cX6_learn 192 = .ok (.aload 12, 2) := by decide +kernel
theorem dX6_learn_194 : decode cX6_learn 194 = .ok (.invokevirtual 98, 3) := by decide +kernel
theorem dX6_learn_197 : decode cX6_learn 197 = .ok (.aload 12, 2) := by decide +kernel
theorem dX6_learn_199 : decode cX6_learn 199 = .ok (.invokevirtual 134, 3) := by decide +kernel
theorem dX6_learn_202 : decode cX6_learn 202 = .ok (.aload 11, 2) := by decide +kernel
theorem dX6_learn_204 : decode cX6_learn 204 = .ok (.invokevirtual 134, 3) := by decide +kernel
theorem dX6_learn_207 : decode cX6_learn 207 = .ok (.iconst (-1), 1) := by decide +kernel
theorem dX6_learn_208 : decode cX6_learn 208 = .ok (.ixor, 1) := by decide +kernel
theorem dX6_learn_209 : decode cX6_learn 209 = .ok (.iand, 1) := by decide +kernel
theorem dX6_learn_210 : decode cX6_learn 210 = .ok (.ifCond .ne 7, 3) := by decide +kernel
theorem dX6_learn_213 : decode cX6_learn 213 = .ok (.iconst 1, 1) := by decide +kernel
theorem dX6_learn_214 : decode cX6_learn 214 = .ok (.goto 4, 3) := by decide +kernel
theorem dX6_learn_217 : decode cX6_learn 217 = .ok (.iconst 0, 1) := by decide +kernel
theorem dX6_learn_218 : decode cX6_learn 218 = .ok (.ireturn, 1) := by decide +kernel
theorem dX6_apply_0 : decode cX6_apply 0 = .ok (.iload_n 1, 1) := by decide +kernel
theorem dX6_apply_1 : decode cX6_apply 1 = .ok (.invokestatic 69, 3) := by decide +kernel
theorem dX6_apply_4 : decode cX6_apply 4 = .ok (.ifCond .ne 25, 3) := by decide +kernel
theorem dX6_apply_7 : decode cX6_apply 7 = .ok (.iload_n 2, 1) := by decide +kernel
theorem dX6_apply_8 : decode cX6_apply 8 = .ok (.invokestatic 69, 3) := by decide +kernel
theorem dX6_apply_11 : decode cX6_apply 11 = .ok (.ifCond .ne 18, 3) := by decide +kernel
theorem dX6_apply_14 : decode cX6_apply 14 = .ok (.iload_n 3, 1) := by decide +kernel
theorem dX6_apply_15 : decode cX6_apply 15 = .ok (.invokestatic 69, 3) := by decide +kernel
theorem dX6_apply_18 : decode cX6_apply 18 = .ok (.ifCond .ne 11, 3) := by decide +kernel
theorem dX6_apply_21 : decode cX6_apply 21 = .ok (.iload 4, 2) := by decide +kernel
theorem dX6_apply_23 : decode cX6_apply 23 = .ok (.invokestatic 69, 3) := by decide +kernel
theorem dX6_apply_26 : decode cX6_apply 26 = .ok (.ifCond .eq 5, 3) := by decide +kernel
theorem dX6_apply_29 : decode cX6_apply 29 = .ok (.iconst (-1), 1) := by decide +kernel
theorem dX6_apply_30 : decode cX6_apply 30 = .ok (.ireturn, 1) := by decide +kernel
theorem dX6_apply_31 : decode cX6_apply 31 = .ok (.aload_n 0, 1) := by decide +kernel
theorem dX6_apply_32 : decode cX6_apply 32 = .ok (.getfield 23, 3) := by decide +kernel
theorem dX6_apply_35 : decode cX6_apply 35 = .ok (.iload_n 1, 1) := by decide +kernel
theorem dX6_apply_36 : decode cX6_apply 36 = .ok (.invokevirtual 107, 3) := by decide +kernel
theorem dX6_apply_39 : decode cX6_apply 39 = .ok (.astore 5, 2) := by decide +kernel
theorem dX6_apply_41 : decode cX6_apply 41 = .ok (.aload_n 0, 1) := by decide +kernel
theorem dX6_apply_42 : decode cX6_apply 42 = .ok (.getfield 23, 3) := by decide +kernel
theorem dX6_apply_45 : decode cX6_apply 45 = .ok (.iload_n 2, 1) := by decide +kernel
theorem dX6_apply_46 : decode cX6_apply 46 = .ok (.invokevirtual 107, 3) := by decide +kernel
theorem dX6_apply_49 : decode cX6_apply 49 = .ok (.astore 6, 2) := by decide +kernel
theorem dX6_apply_51 : decode cX6_apply 51 = .ok (.aload_n 0, 1) := by decide +kernel
theorem dX6_apply_52 : decode cX6_apply 52 = .ok (.getfield 23, 3) := by decide +kernel
theorem dX6_apply_55 : decode cX6_apply 55 = .ok (.iload_n 3, 1) := by decide +kernel
theorem dX6_apply_56 : decode cX6_apply 56 = .ok (.invokevirtual 107, 3) := by decide +kernel
theorem dX6_apply_59 : decode cX6_apply 59 = .ok (.astore 7, 2) := by decide +kernel
theorem dX6_apply_61 : decode cX6_apply 61 = .ok (.aload 5, 2) := by decide +kernel
theorem dX6_apply_63 : decode cX6_apply 63 = .ok (.ifnull 13, 3) := by decide +kernel
theorem dX6_apply_66 : decode cX6_apply 66 = .ok (.aload 6, 2) := by decide +kernel
theorem dX6_apply_68 : decode cX6_apply 68 = .ok (.ifnull 8, 3) := by decide +kernel
theorem dX6_apply_71 : decode cX6_apply 71 = .ok (.aload 7, 2) := by decide +kernel
theorem dX6_apply_73 : decode cX6_apply 73 = .ok (.ifnonnull 6, 3) := by decide +kernel
theorem dX6_apply_76 : decode cX6_apply 76 = .ok (.bipush (-2), 2) := by decide +kernel
theorem dX6_apply_78 : decode cX6_apply 78 = .ok (.ireturn, 1) := by decide +kernel
theorem dX6_apply_79 : decode cX6_apply 79 = .ok (.aload_n 0, 1) := by decide +kernel
theorem dX6_apply_80 : decode cX6_apply 80 = .ok (.getfield 58, 3) := by decide +kernel
theorem dX6_apply_83 : decode cX6_apply 83 = .ok (.aload 5, 2) := by decide +kernel
theorem dX6_apply_85 : decode cX6_apply 85 = .ok (.aload 7, 2) := by decide +kernel
theorem dX6_apply_87 : decode cX6_apply 87 = .ok (.invokevirtual 167, 3) := by decide +kernel
theorem dX6_apply_90 : decode cX6_apply 90 = .ok (.ifCond .eq 15, 3) := by decide +kernel
theorem dX6_apply_93 : decode cX6_apply 93 = .ok (.aload_n 0, 1) := by decide +kernel
theorem dX6_apply_94 : decode cX6_apply 94 = .ok (.getfield 58, 3) := by decide +kernel
theorem dX6_apply_97 : decode cX6_apply 97 = .ok (.aload 6, 2) := by decide +kernel
theorem dX6_apply_99 : decode cX6_apply 99 = .ok (.invokevirtual 181, 3) := by decide +kernel
theorem dX6_apply_102 : decode cX6_apply 102 = .ok (.ifCond .ne 6, 3) := by decide +kernel
theorem dX6_apply_105 : decode cX6_apply 105 = .ok (.bipush (-2), 2) := by decide +kernel
theorem dX6_apply_107 : decode cX6_apply 107 = .ok (.ireturn, 1) := by decide +kernel
theorem dX6_apply_108 : decode cX6_apply 108 = .ok (.aload_n 0, 1) := by decide +kernel
theorem dX6_apply_109 : decode cX6_apply 109 = .ok (.aload_n 0, 1) := by decide +kernel
theorem dX6_apply_110 : decode cX6_apply 110 = .ok (.getfield 58, 3) := by decide +kernel
theorem dX6_apply_113 : decode cX6_apply 113 = .ok (.aload 6, 2) := by decide +kernel
theorem dX6_apply_115 : decode cX6_apply 115 = .ok (.invokevirtual 185, 3) := by decide +kernel
theorem dX6_apply_118 : decode cX6_apply 118 = .ok (.iload 4, 2) := by decide +kernel
theorem dX6_apply_120 : decode cX6_apply 120 = .ok (.invokevirtual 156, 3) := by decide +kernel
theorem dX6_apply_123 : decode cX6_apply 123 = .ok (.ireturn, 1) := by decide +kernel
theorem dX6_told_0 : decode cX6_told 0 = .ok (.iload_n 1, 1) := by decide +kernel
theorem dX6_told_1 : decode cX6_told 1 = .ok (.bipush 7, 2) := by decide +kernel
theorem dX6_told_3 : decode cX6_told 3 = .ok (.invokestatic 65, 3) := by decide +kernel
theorem dX6_told_6 : decode cX6_told 6 = .ok (.ifCond .eq 5, 3) := by decide +kernel
theorem dX6_told_9 : decode cX6_told 9 = .ok (.iconst (-1), 1) := by decide +kernel
theorem dX6_told_10 : decode cX6_told 10 = .ok (.ireturn, 1) := by decide +kernel
theorem dX6_told_11 : decode cX6_told 11 = .ok (.iload_n 1, 1) := by decide +kernel
theorem dX6_told_12 : decode cX6_told 12 = .ok (.iconst 4, 1) := by decide +kernel
theorem dX6_told_13 : decode cX6_told 13 = .ok (.if_icmp .ge 12, 3) := by decide +kernel
theorem dX6_told_16 : decode cX6_told 16 = .ok (.aload_n 0, 1) := by decide +kernel
theorem dX6_told_17 : decode cX6_told 17 = .ok (.getfield 23, 3) := by decide +kernel
theorem dX6_told_20 : decode cX6_told 20 = .ok (.iload_n 1, 1) := by decide +kernel
theorem dX6_told_21 : decode cX6_told 21 = .ok (.invokevirtual 83, 3) := by decide +kernel
theorem dX6_told_24 : decode cX6_told 24 = .ok (.ireturn, 1) := by decide +kernel
theorem dX6_told_25 : decode cX6_told 25 = .ok (.iload_n 1, 1) := by decide +kernel
theorem dX6_told_26 : decode cX6_told 26 = .ok (.tableswitch 50 4 6 #[26, 37, 45], 26) := by decide +kernel
theorem dX6_told_52 : decode cX6_told 52 = .ok (.aload_n 0, 1) := by decide +kernel
theorem dX6_told_53 : decode cX6_told 53 = .ok (.getfield 23, 3) := by decide +kernel
theorem dX6_told_56 : decode cX6_told 56 = .ok (.invokevirtual 160, 3) := by decide +kernel
theorem dX6_told_59 : decode cX6_told 59 = .ok (.invokestatic 137, 3) := by decide +kernel
theorem dX6_told_62 : decode cX6_told 62 = .ok (.ireturn, 1) := by decide +kernel
theorem dX6_told_63 : decode cX6_told 63 = .ok (.aload_n 0, 1) := by decide +kernel
theorem dX6_told_64 : decode cX6_told 64 = .ok (.getfield 23, 3) := by decide +kernel
theorem dX6_told_67 : decode cX6_told 67 = .ok (.invokevirtual 189, 3) := by decide +kernel
theorem dX6_told_70 : decode cX6_told 70 = .ok (.ireturn, 1) := by decide +kernel
theorem dX6_told_71 : decode cX6_told 71 = .ok (.aload_n 0, 1) := by decide +kernel
theorem dX6_told_72 : decode cX6_told 72 = .ok (.getfield 13, 3) := by decide +kernel
theorem dX6_told_75 : decode cX6_told 75 = .ok (.ireturn, 1) := by decide +kernel
theorem dX6_told_76 : decode cX6_told 76 = .ok (.aload_n 0, 1) := by decide +kernel
theorem dX6_told_77 : decode cX6_told 77 = .ok (.getfield 31, 3) := by decide +kernel
theorem dX6_told_80 : decode cX6_told 80 = .ok (.ireturn, 1) := by decide +kernel
theorem dX6_undo_0 : decode cX6_undo 0 = .ok (.aload_n 0, 1) := by decide +kernel
theorem dX6_undo_1 : decode cX6_undo 1 = .ok (.getfield 31, 3) := by decide +kernel
theorem dX6_undo_4 : decode cX6_undo 4 = .ok (.ifCond .le 15, 3) := by decide +kernel
theorem dX6_undo_7 : decode cX6_undo 7 = .ok (.aload_n 0, 1) := by decide +kernel
theorem dX6_undo_8 : decode cX6_undo 8 = .ok (.getfield 31, 3) := by decide +kernel
theorem dX6_undo_11 : decode cX6_undo 11 = .ok (.aload_n 0, 1) := by decide +kernel
theorem dX6_undo_12 : decode cX6_undo 12 = .ok (.getfield 27, 3) := by decide +kernel
theorem dX6_undo_15 : decode cX6_undo 15 = .ok (.arraylength, 1) := by decide +kernel
theorem dX6_undo_16 : decode cX6_undo 16 = .ok (.if_icmp .le 6, 3) := by decide +kernel
theorem dX6_undo_19 : decode cX6_undo 19 = .ok (.bipush (-2), 2) := by decide +kernel
theorem dX6_undo_21 : decode cX6_undo 21 = .ok (.ireturn, 1) := by decide +kernel
theorem dX6_undo_22 : decode cX6_undo 22 = .ok (.aload_n 0, 1) := by decide +kernel
theorem dX6_undo_23 : decode cX6_undo 23 = .ok (.getfield 27, 3) := by decide +kernel
theorem dX6_undo_26 : decode cX6_undo 26 = .ok (.aload_n 0, 1) := by decide +kernel
theorem dX6_undo_27 : decode cX6_undo 27 = .ok (.getfield 31, 3) := by decide +kernel
theorem dX6_undo_30 : decode cX6_undo 30 = .ok (.iconst 1, 1) := by decide +kernel
theorem dX6_undo_31 : decode cX6_undo 31 = .ok (.isub, 1) := by decide +kernel
theorem dX6_undo_32 : decode cX6_undo 32 = .ok (.aaload, 1) := by decide +kernel
theorem dX6_undo_33 : decode cX6_undo 33 = .ok (.astore_n 1, 1) := by decide +kernel
theorem dX6_undo_34 : decode cX6_undo 34 = .ok (.aload_n 1, 1) := by decide +kernel
theorem dX6_undo_35 : decode cX6_undo 35 = .ok (.ifnonnull 6, 3) := by decide +kernel
theorem dX6_undo_38 : decode cX6_undo 38 = .ok (.bipush (-2), 2) := by decide +kernel
theorem dX6_undo_40 : decode cX6_undo 40 = .ok (.ireturn, 1) := by decide +kernel
theorem dX6_undo_41 : decode cX6_undo 41 = .ok (.aload_n 0, 1) := by decide +kernel
theorem dX6_undo_42 : decode cX6_undo 42 = .ok (.getfield 23, 3) := by decide +kernel
theorem dX6_undo_45 : decode cX6_undo 45 = .ok (.aload_n 1, 1) := by decide +kernel
theorem dX6_undo_46 : decode cX6_undo 46 = .ok (.invokevirtual 192, 3) := by decide +kernel
theorem dX6_undo_49 : decode cX6_undo 49 = .ok (.aload_n 0, 1) := by decide +kernel
theorem dX6_undo_50 : decode cX6_undo 50 = .ok (.dup, 1) := by decide +kernel
theorem dX6_undo_51 : decode cX6_undo 51 = .ok (.getfield 31, 3) := by decide +kernel
theorem dX6_undo_54 : decode cX6_undo 54 = .ok (.iconst 1, 1) := by decide +kernel
theorem dX6_undo_55 : decode cX6_undo 55 = .ok (.isub, 1) := by decide +kernel
theorem dX6_undo_56 : decode cX6_undo 56 = .ok (.putfield 31, 3) := by decide +kernel
theorem dX6_undo_59 : decode cX6_undo 59 = .ok (.aload_n 0, 1) := by decide +kernel
theorem dX6_undo_60 : decode cX6_undo 60 = .ok (.getfield 31, 3) := by decide +kernel
theorem dX6_undo_63 : decode cX6_undo 63 = .ok (.ireturn, 1) := by decide +kernel
theorem dX6_outside_0 : decode cX6_outside 0 = .ok (.iload_n 0, 1) := by decide +kernel
theorem dX6_outside_1 : decode cX6_outside 1 = .ok (.ifCond .lt 8, 3) := by decide +kernel
theorem dX6_outside_4 : decode cX6_outside 4 = .ok (.iload_n 0, 1) := by decide +kernel
theorem dX6_outside_5 : decode cX6_outside 5 = .ok (.iload_n 1, 1) := by decide +kernel
theorem dX6_outside_6 : decode cX6_outside 6 = .ok (.if_icmp .le 7, 3) := by decide +kernel
theorem dX6_outside_9 : decode cX6_outside 9 = .ok (.iconst 1, 1) := by decide +kernel
theorem dX6_outside_10 : decode cX6_outside 10 = .ok (.goto 4, 3) := by decide +kernel
theorem dX6_outside_13 : decode cX6_outside 13 = .ok (.iconst 0, 1) := by decide +kernel
theorem dX6_outside_14 : decode cX6_outside 14 = .ok (.ireturn, 1) := by decide +kernel
theorem dX6_noRegister_0 : decode cX6_noRegister 0 = .ok (.iload_n 0, 1) := by decide +kernel
theorem dX6_noRegister_1 : decode cX6_noRegister 1 = .ok (.bipush 7, 2) := by decide +kernel
theorem dX6_noRegister_3 : decode cX6_noRegister 3 = .ok (.invokestatic 65, 3) := by decide +kernel
theorem dX6_noRegister_6 : decode cX6_noRegister 6 = .ok (.ireturn, 1) := by decide +kernel
theorem dX6_sumOfMembers_0 : decode cX6_sumOfMembers 0 = .ok (.iconst 0, 1) := by decide +kernel
theorem dX6_sumOfMembers_1 : decode cX6_sumOfMembers 1 = .ok (.istore_n 1, 1) := by decide +kernel
theorem dX6_sumOfMembers_2 : decode cX6_sumOfMembers 2 = .ok (.iconst 0, 1) := by decide +kernel
theorem dX6_sumOfMembers_3 : decode cX6_sumOfMembers 3 = .ok (.istore_n 2, 1) := by decide +kernel
theorem dX6_sumOfMembers_4 : decode cX6_sumOfMembers 4 = .ok (.iload_n 2, 1) := by decide +kernel
theorem dX6_sumOfMembers_5 : decode cX6_sumOfMembers 5 = .ok (.bipush 32, 2) := by decide +kernel
theorem dX6_sumOfMembers_7 : decode cX6_sumOfMembers 7 = .ok (.if_icmp .ge 19, 3) := by decide +kernel
theorem dX6_sumOfMembers_10 : decode cX6_sumOfMembers 10 = .ok (.iload_n 1, 1) := by decide +kernel
theorem dX6_sumOfMembers_11 : decode cX6_sumOfMembers 11 = .ok (.iload_n 0, 1) := by decide +kernel
theorem dX6_sumOfMembers_12 : decode cX6_sumOfMembers 12 = .ok (.iload_n 2, 1) := by decide +kernel
theorem dX6_sumOfMembers_13 : decode cX6_sumOfMembers 13 = .ok (.ishr, 1) := by decide +kernel
theorem dX6_sumOfMembers_14 : decode cX6_sumOfMembers 14 = .ok (.iconst 1, 1) := by decide +kernel
theorem dX6_sumOfMembers_15 : decode cX6_sumOfMembers 15 = .ok (.iand, 1) := by decide +kernel
theorem dX6_sumOfMembers_16 : decode cX6_sumOfMembers 16 = .ok (.iload_n 2, 1) := by decide +kernel
theorem dX6_sumOfMembers_17 : decode cX6_sumOfMembers 17 = .ok (.imul, 1) := by decide +kernel
theorem dX6_sumOfMembers_18 : decode cX6_sumOfMembers 18 = .ok (.iadd, 1) := by decide +kernel
theorem dX6_sumOfMembers_19 : decode cX6_sumOfMembers 19 = .ok (.istore_n 1, 1) := by decide +kernel
theorem dX6_sumOfMembers_20 : decode cX6_sumOfMembers 20 = .ok (.iinc 2 1, 3) := by decide +kernel
theorem dX6_sumOfMembers_23 : decode cX6_sumOfMembers 23 = .ok (.goto (-19), 3) := by decide +kernel
theorem dX6_sumOfMembers_26 : decode cX6_sumOfMembers 26 = .ok (.iload_n 1, 1) := by decide +kernel
theorem dX6_sumOfMembers_27 : decode cX6_sumOfMembers 27 = .ok (.ireturn, 1) := by decide +kernel
theorem dX6_keep_0 : decode cX6_keep 0 = .ok (.aload_n 1, 1) := by decide +kernel
theorem dX6_keep_1 : decode cX6_keep 1 = .ok (.ifnonnull 6, 3) := by decide +kernel
theorem dX6_keep_4 : decode cX6_keep 4 = .ok (.bipush (-3), 2) := by decide +kernel
theorem dX6_keep_6 : decode cX6_keep 6 = .ok (.ireturn, 1) := by decide +kernel
theorem dX6_keep_7 : decode cX6_keep 7 = .ok (.aload_n 0, 1) := by decide +kernel
theorem dX6_keep_8 : decode cX6_keep 8 = .ok (.invokevirtual 95, 3) := by decide +kernel
theorem dX6_keep_11 : decode cX6_keep 11 = .ok (.aload_n 0, 1) := by decide +kernel
theorem dX6_keep_12 : decode cX6_keep 12 = .ok (.getfield 23, 3) := by decide +kernel
theorem dX6_keep_15 : decode cX6_keep 15 = .ok (.iload_n 2, 1) := by decide +kernel
theorem dX6_keep_16 : decode cX6_keep 16 = .ok (.aload_n 1, 1) := by decide +kernel
theorem dX6_keep_17 : decode cX6_keep 17 = .ok (.invokevirtual 98, 3) := by decide +kernel
theorem dX6_keep_20 : decode cX6_keep 20 = .ok (.aload_n 1, 1) := by decide +kernel
theorem dX6_keep_21 : decode cX6_keep 21 = .ok (.getfield 102, 3) := by decide +kernel
theorem dX6_keep_24 : decode cX6_keep 24 = .ok (.ireturn, 1) := by decide +kernel
theorem dX6_remember_0 : decode cX6_remember 0 = .ok (.aload_n 0, 1) := by decide +kernel
theorem dX6_remember_1 : decode cX6_remember 1 = .ok (.getfield 31, 3) := by decide +kernel
theorem dX6_remember_4 : decode cX6_remember 4 = .ok (.aload_n 0, 1) := by decide +kernel
theorem dX6_remember_5 : decode cX6_remember 5 = .ok (.getfield 27, 3) := by decide +kernel
theorem dX6_remember_8 : decode cX6_remember 8 = .ok (.arraylength, 1) := by decide +kernel
theorem dX6_remember_9 : decode cX6_remember 9 = .ok (.if_icmp .lt 65, 3) := by decide +kernel
theorem dX6_remember_12 : decode cX6_remember 12 = .ok (.aload_n 0, 1) := by decide +kernel
theorem dX6_remember_13 : decode cX6_remember 13 = .ok (.getfield 27, 3) := by decide +kernel
theorem dX6_remember_16 : decode cX6_remember 16 = .ok (.iconst 0, 1) := by decide +kernel
theorem dX6_remember_17 : decode cX6_remember 17 = .ok (.aaload, 1) := by decide +kernel
theorem dX6_remember_18 : decode cX6_remember 18 = .ok (.astore_n 1, 1) := by decide +kernel
theorem dX6_remember_19 : decode cX6_remember 19 = .ok (.iconst 1, 1) := by decide +kernel
theorem dX6_remember_20 : decode cX6_remember 20 = .ok (.istore_n 2, 1) := by decide +kernel
theorem dX6_remember_21 : decode cX6_remember 21 = .ok (.iload_n 2, 1) := by decide +kernel
theorem dX6_remember_22 : decode cX6_remember 22 = .ok (.aload_n 0, 1) := by decide +kernel
theorem dX6_remember_23 : decode cX6_remember 23 = .ok (.getfield 27, 3) := by decide +kernel
theorem dX6_remember_26 : decode cX6_remember 26 = .ok (.arraylength, 1) := by decide +kernel
theorem dX6_remember_27 : decode cX6_remember 27 = .ok (.if_icmp .ge 23, 3) := by decide +kernel
theorem dX6_remember_30 : decode cX6_remember 30 = .ok (.aload_n 0, 1) := by decide +kernel
theorem dX6_remember_31 : decode cX6_remember 31 = .ok (.getfield 27, 3) := by decide +kernel
theorem dX6_remember_34 : decode cX6_remember 34 = .ok (.iload_n 2, 1) := by decide +kernel
theorem dX6_remember_35 : decode cX6_remember 35 = .ok (.iconst 1, 1) := by decide +kernel
theorem dX6_remember_36 : decode cX6_remember 36 = .ok (.isub, 1) := by decide +kernel
theorem dX6_remember_37 : decode cX6_remember 37 = .ok (.aload_n 0, 1) := by decide +kernel
theorem dX6_remember_38 : decode cX6_remember 38 = .ok (.getfield 27, 3) := by decide +kernel
theorem dX6_remember_41 : decode cX6_remember 41 = .ok (.iload_n 2, 1) := by decide +kernel
theorem dX6_remember_42 : decode cX6_remember 42 = .ok (.aaload, 1) := by decide +kernel
theorem dX6_remember_43 : decode cX6_remember 43 = .ok (.aastore, 1) := by decide +kernel
theorem dX6_remember_44 : decode cX6_remember 44 = .ok (.iinc 2 1, 3) := by decide +kernel
theorem dX6_remember_47 : decode cX6_remember 47 = .ok (.goto (-26), 3) := by decide +kernel
theorem dX6_remember_50 : decode cX6_remember 50 = .ok (.aload_n 0, 1) := by decide +kernel
theorem dX6_remember_51 : decode cX6_remember 51 = .ok (.getfield 27, 3) := by decide +kernel
theorem dX6_remember_54 : decode cX6_remember 54 = .ok (.aload_n 0, 1) := by decide +kernel
theorem dX6_remember_55 : decode cX6_remember 55 = .ok (.getfield 27, 3) := by decide +kernel
theorem dX6_remember_58 : decode cX6_remember 58 = .ok (.arraylength, 1) := by decide +kernel
theorem dX6_remember_59 : decode cX6_remember 59 = .ok (.iconst 1, 1) := by decide +kernel
theorem dX6_remember_60 : decode cX6_remember 60 = .ok (.isub, 1) := by decide +kernel
theorem dX6_remember_61 : decode cX6_remember 61 = .ok (.aload_n 1, 1) := by decide +kernel
theorem dX6_remember_62 : decode cX6_remember 62 = .ok (.aastore, 1) := by decide +kernel
theorem dX6_remember_63 : decode cX6_remember 63 = .ok (.aload_n 0, 1) := by decide +kernel
theorem dX6_remember_64 : decode cX6_remember 64 = .ok (.aload_n 0, 1) := by decide +kernel
theorem dX6_remember_65 : decode cX6_remember 65 = .ok (.getfield 27, 3) := by decide +kernel
theorem dX6_remember_68 : decode cX6_remember 68 = .ok (.arraylength, 1) := by decide +kernel
theorem dX6_remember_69 : decode cX6_remember 69 = .ok (.iconst 1, 1) := by decide +kernel
theorem dX6_remember_70 : decode cX6_remember 70 = .ok (.isub, 1) := by decide +kernel
theorem dX6_remember_71 : decode cX6_remember 71 = .ok (.putfield 31, 3) := by decide +kernel
theorem dX6_remember_74 : decode cX6_remember 74 = .ok (.aload_n 0, 1) := by decide +kernel
theorem dX6_remember_75 : decode cX6_remember 75 = .ok (.getfield 31, 3) := by decide +kernel
theorem dX6_remember_78 : decode cX6_remember 78 = .ok (.aload_n 0, 1) := by decide +kernel
theorem dX6_remember_79 : decode cX6_remember 79 = .ok (.getfield 27, 3) := by decide +kernel
theorem dX6_remember_82 : decode cX6_remember 82 = .ok (.arraylength, 1) := by decide +kernel
theorem dX6_remember_83 : decode cX6_remember 83 = .ok (.iconst 1, 1) := by decide +kernel
theorem dX6_remember_84 : decode cX6_remember 84 = .ok (.isub, 1) := by decide +kernel
theorem dX6_remember_85 : decode cX6_remember 85 = .ok (.invokestatic 65, 3) := by decide +kernel
theorem dX6_remember_88 : decode cX6_remember 88 = .ok (.ifCond .eq 4, 3) := by decide +kernel
theorem dX6_remember_91 : decode cX6_remember 91 = .ok (.return_, 1) := by decide +kernel
theorem dX6_remember_92 : decode cX6_remember 92 = .ok (.aload_n 0, 1) := by decide +kernel
theorem dX6_remember_93 : decode cX6_remember 93 = .ok (.getfield 27, 3) := by decide +kernel
theorem dX6_remember_96 : decode cX6_remember 96 = .ok (.aload_n 0, 1) := by decide +kernel
theorem dX6_remember_97 : decode cX6_remember 97 = .ok (.getfield 31, 3) := by decide +kernel
theorem dX6_remember_100 : decode cX6_remember 100 = .ok (.aaload, 1) := by decide +kernel
theorem dX6_remember_101 : decode cX6_remember 101 = .ok (.astore_n 1, 1) := by decide +kernel
theorem dX6_remember_102 : decode cX6_remember 102 = .ok (.aload_n 1, 1) := by decide +kernel
theorem dX6_remember_103 : decode cX6_remember 103 = .ok (.ifnull 21, 3) := by decide +kernel
theorem dX6_remember_106 : decode cX6_remember 106 = .ok (.aload_n 1, 1) := by decide +kernel
theorem dX6_remember_107 : decode cX6_remember 107 = .ok (.aload_n 0, 1) := by decide +kernel
theorem dX6_remember_108 : decode cX6_remember 108 = .ok (.getfield 23, 3) := by decide +kernel
theorem dX6_remember_111 : decode cX6_remember 111 = .ok (.invokevirtual 192, 3) := by decide +kernel
theorem dX6_remember_114 : decode cX6_remember 114 = .ok (.aload_n 0, 1) := by decide +kernel
theorem dX6_remember_115 : decode cX6_remember 115 = .ok (.dup, 1) := by decide +kernel
theorem dX6_remember_116 : decode cX6_remember 116 = .ok (.getfield 31, 3) := by decide +kernel
theorem dX6_remember_119 : decode cX6_remember 119 = .ok (.iconst 1, 1) := by decide +kernel
theorem dX6_remember_120 : decode cX6_remember 120 = .ok (.iadd, 1) := by decide +kernel
theorem dX6_remember_121 : decode cX6_remember 121 = .ok (.putfield 31, 3) := by decide +kernel
theorem dX6_remember_124 : decode cX6_remember 124 = .ok (.return_, 1) := by decide +kernel
theorem dJ6_bitCount_0f7a4_0 : decode cJ6_bitCount_0f7a4 0 = .ok (.iload_n 0, 1) := by decide +kernel
theorem dJ6_bitCount_0f7a4_1 : decode cJ6_bitCount_0f7a4 1 = .ok (.iload_n 0, 1) := by decide +kernel
theorem dJ6_bitCount_0f7a4_2 : decode cJ6_bitCount_0f7a4 2 = .ok (.iconst 1, 1) := by decide +kernel
theorem dJ6_bitCount_0f7a4_3 : decode cJ6_bitCount_0f7a4 3 = .ok (.iushr, 1) := by decide +kernel
theorem dJ6_bitCount_0f7a4_4 : decode cJ6_bitCount_0f7a4 4 = .ok (.ldc_w 265, 3) := by decide +kernel
theorem dJ6_bitCount_0f7a4_7 : decode cJ6_bitCount_0f7a4 7 = .ok (.iand, 1) := by decide +kernel
theorem dJ6_bitCount_0f7a4_8 : decode cJ6_bitCount_0f7a4 8 = .ok (.isub, 1) := by decide +kernel
theorem dJ6_bitCount_0f7a4_9 : decode cJ6_bitCount_0f7a4 9 = .ok (.istore_n 0, 1) := by decide +kernel
theorem dJ6_bitCount_0f7a4_10 : decode cJ6_bitCount_0f7a4 10 = .ok (.iload_n 0, 1) := by decide +kernel
theorem dJ6_bitCount_0f7a4_11 : decode cJ6_bitCount_0f7a4 11 = .ok (.ldc_w 266, 3) := by decide +kernel
theorem dJ6_bitCount_0f7a4_14 : decode cJ6_bitCount_0f7a4 14 = .ok (.iand, 1) := by decide +kernel
theorem dJ6_bitCount_0f7a4_15 : decode cJ6_bitCount_0f7a4 15 = .ok (.iload_n 0, 1) := by decide +kernel
theorem dJ6_bitCount_0f7a4_16 : decode cJ6_bitCount_0f7a4 16 = .ok (.iconst 2, 1) := by decide +kernel
theorem dJ6_bitCount_0f7a4_17 : decode cJ6_bitCount_0f7a4 17 = .ok (.iushr, 1) := by decide +kernel
theorem dJ6_bitCount_0f7a4_18 : decode cJ6_bitCount_0f7a4 18 = .ok (.ldc_w 266, 3) := by decide +kernel
theorem dJ6_bitCount_0f7a4_21 : decode cJ6_bitCount_0f7a4 21 = .ok (.iand, 1) := by decide +kernel
theorem dJ6_bitCount_0f7a4_22 : decode cJ6_bitCount_0f7a4 22 = .ok (.iadd, 1) := by decide +kernel
theorem dJ6_bitCount_0f7a4_23 : decode cJ6_bitCount_0f7a4 23 = .ok (.istore_n 0, 1) := by decide +kernel
theorem dJ6_bitCount_0f7a4_24 : decode cJ6_bitCount_0f7a4 24 = .ok (.iload_n 0, 1) := by decide +kernel
theorem dJ6_bitCount_0f7a4_25 : decode cJ6_bitCount_0f7a4 25 = .ok (.iload_n 0, 1) := by decide +kernel
theorem dJ6_bitCount_0f7a4_26 : decode cJ6_bitCount_0f7a4 26 = .ok (.iconst 4, 1) := by decide +kernel
theorem dJ6_bitCount_0f7a4_27 : decode cJ6_bitCount_0f7a4 27 = .ok (.iushr, 1) := by decide +kernel
theorem dJ6_bitCount_0f7a4_28 : decode cJ6_bitCount_0f7a4 28 = .ok (.iadd, 1) := by decide +kernel
theorem dJ6_bitCount_0f7a4_29 : decode cJ6_bitCount_0f7a4 29 = .ok (.ldc_w 267, 3) := by decide +kernel
theorem dJ6_bitCount_0f7a4_32 : decode cJ6_bitCount_0f7a4 32 = .ok (.iand, 1) := by decide +kernel
theorem dJ6_bitCount_0f7a4_33 : decode cJ6_bitCount_0f7a4 33 = .ok (.istore_n 0, 1) := by decide +kernel
theorem dJ6_bitCount_0f7a4_34 : decode cJ6_bitCount_0f7a4 34 = .ok (.iload_n 0, 1) := by decide +kernel
theorem dJ6_bitCount_0f7a4_35 : decode cJ6_bitCount_0f7a4 35 = .ok (.iload_n 0, 1) := by decide +kernel
theorem dJ6_bitCount_0f7a4_36 : decode cJ6_bitCount_0f7a4 36 = .ok (.bipush 8, 2) := by decide +kernel
theorem dJ6_bitCount_0f7a4_38 : decode cJ6_bitCount_0f7a4 38 = .ok (.iushr, 1) := by decide +kernel
theorem dJ6_bitCount_0f7a4_39 : decode cJ6_bitCount_0f7a4 39 = .ok (.iadd, 1) := by decide +kernel
theorem dJ6_bitCount_0f7a4_40 : decode cJ6_bitCount_0f7a4 40 = .ok (.istore_n 0, 1) := by decide +kernel
theorem dJ6_bitCount_0f7a4_41 : decode cJ6_bitCount_0f7a4 41 = .ok (.iload_n 0, 1) := by decide +kernel
theorem dJ6_bitCount_0f7a4_42 : decode cJ6_bitCount_0f7a4 42 = .ok (.iload_n 0, 1) := by decide +kernel
theorem dJ6_bitCount_0f7a4_43 : decode cJ6_bitCount_0f7a4 43 = .ok (.bipush 16, 2) := by decide +kernel
theorem dJ6_bitCount_0f7a4_45 : decode cJ6_bitCount_0f7a4 45 = .ok (.iushr, 1) := by decide +kernel
theorem dJ6_bitCount_0f7a4_46 : decode cJ6_bitCount_0f7a4 46 = .ok (.iadd, 1) := by decide +kernel
theorem dJ6_bitCount_0f7a4_47 : decode cJ6_bitCount_0f7a4 47 = .ok (.istore_n 0, 1) := by decide +kernel
theorem dJ6_bitCount_0f7a4_48 : decode cJ6_bitCount_0f7a4 48 = .ok (.iload_n 0, 1) := by decide +kernel
theorem dJ6_bitCount_0f7a4_49 : decode cJ6_bitCount_0f7a4 49 = .ok (.bipush 63, 2) := by decide +kernel
theorem dJ6_bitCount_0f7a4_51 : decode cJ6_bitCount_0f7a4 51 = .ok (.iand, 1) := by decide +kernel
theorem dJ6_bitCount_0f7a4_52 : decode cJ6_bitCount_0f7a4 52 = .ok (.ireturn, 1) := by decide +kernel
theorem dJ9_max_7cf53_0 : decode cJ9_max_7cf53 0 = .ok (.iload_n 0, 1) := by decide +kernel
theorem dJ9_max_7cf53_1 : decode cJ9_max_7cf53 1 = .ok (.iload_n 1, 1) := by decide +kernel
theorem dJ9_max_7cf53_2 : decode cJ9_max_7cf53 2 = .ok (.if_icmp .lt 7, 3) := by decide +kernel
theorem dJ9_max_7cf53_5 : decode cJ9_max_7cf53 5 = .ok (.iload_n 0, 1) := by decide +kernel
theorem dJ9_max_7cf53_6 : decode cJ9_max_7cf53 6 = .ok (.goto 4, 3) := by decide +kernel
theorem dJ9_max_7cf53_9 : decode cJ9_max_7cf53 9 = .ok (.iload_n 1, 1) := by decide +kernel
theorem dJ9_max_7cf53_10 : decode cJ9_max_7cf53 10 = .ok (.ireturn, 1) := by decide +kernel
theorem dJ9_min_7cf53_0 : decode cJ9_min_7cf53 0 = .ok (.iload_n 0, 1) := by decide +kernel
theorem dJ9_min_7cf53_1 : decode cJ9_min_7cf53 1 = .ok (.iload_n 1, 1) := by decide +kernel
theorem dJ9_min_7cf53_2 : decode cJ9_min_7cf53 2 = .ok (.if_icmp .gt 7, 3) := by decide +kernel
theorem dJ9_min_7cf53_5 : decode cJ9_min_7cf53 5 = .ok (.iload_n 0, 1) := by decide +kernel
theorem dJ9_min_7cf53_6 : decode cJ9_min_7cf53 6 = .ok (.goto 4, 3) := by decide +kernel
theorem dJ9_min_7cf53_9 : decode cJ9_min_7cf53 9 = .ok (.iload_n 1, 1) := by decide +kernel
theorem dJ9_min_7cf53_10 : decode cJ9_min_7cf53 10 = .ok (.ireturn, 1) := by decide +kernel
