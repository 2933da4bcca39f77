theorem dX0_init_0 : decode (mc mX0_init) 0 = .ok (.aload_n 0, 1) := by decide +kernel
theorem dX0_init_1 : decode (mc mX0_init) 1 = .ok (.invokespecial 3, 3) := by decide +kernel
theorem dX0_init_4 : decode (mc mX0_init) 4 = .ok (.aload_n 0, 1) := by decide +kernel
theorem dX0_init_5 : decode (mc mX0_init) 5 = .ok (.iconst 3, 1) := by decide +kernel
theorem dX0_init_6 : decode (mc mX0_init) 6 = .ok (.newarray .int, 2) := by decide +kernel
theorem dX0_init_8 : decode (mc mX0_init) 8 = .ok (.putfield 9, 3) := by decide +kernel
theorem dX0_init_11 : decode (mc mX0_init) 11 = .ok (.aload_n 0, 1) := by decide +kernel
theorem dX0_init_12 : decode (mc mX0_init) 12 = .ok (.iconst 3, 1) := by decide +kernel
theorem dX0_init_13 : decode (mc mX0_init) 13 = .ok (.newarray .int, 2) := by decide +kernel
theorem dX0_init_15 : decode (mc mX0_init) 15 = .ok (.putfield 15, 3) := by decide +kernel
theorem dX0_init_18 : decode (mc mX0_init) 18 = .ok (.aload_n 0, 1) := by decide +kernel
theorem dX0_init_19 : decode (mc mX0_init) 19 = .ok (.iconst 3, 1) := by decide +kernel
theorem dX0_init_20 : decode (mc mX0_init) 20 = .ok (.newarray .int, 2) := by decide +kernel
theorem dX0_init_22 : decode (mc mX0_init) 22 = .ok (.putfield 18, 3) := by decide +kernel
theorem dX0_init_25 : decode (mc mX0_init) 25 = .ok (.aload_n 0, 1) := by decide +kernel
theorem dX0_init_26 : decode (mc mX0_init) 26 = .ok (.iconst 3, 1) := by decide +kernel
theorem dX0_init_27 : decode (mc mX0_init) 27 = .ok (.newarray .int, 2) := by decide +kernel
theorem dX0_init_29 : decode (mc mX0_init) 29 = .ok (.putfield 21, 3) := by decide +kernel
theorem dX0_init_32 : decode (mc mX0_init) 32 = .ok (.aload_n 0, 1) := by decide +kernel
theorem dX0_init_33 : decode (mc mX0_init) 33 = .ok (.iconst 3, 1) := by decide +kernel
theorem dX0_init_34 : decode (mc mX0_init) 34 = .ok (.newarray .int, 2) := by decide +kernel
theorem dX0_init_36 : decode (mc mX0_init) 36 = .ok (.putfield 24, 3) := by decide +kernel
theorem dX0_init_39 : decode (mc mX0_init) 39 = .ok (.aload_n 0, 1) := by decide +kernel
theorem dX0_init_40 : decode (mc mX0_init) 40 = .ok (.iconst 3, 1) := by decide +kernel
theorem dX0_init_41 : decode (mc mX0_init) 41 = .ok (.newarray .int, 2) := by decide +kernel
theorem dX0_init_43 : decode (mc mX0_init) 43 = .ok (.putfield 27, 3) := by decide +kernel
theorem dX0_init_46 : decode (mc mX0_init) 46 = .ok (.aload_n 0, 1) := by decide +kernel
theorem dX0_init_47 : decode (mc mX0_init) 47 = .ok (.iconst 3, 1) := by decide +kernel
theorem dX0_init_48 : decode (mc mX0_init) 48 = .ok (.newarray .int, 2) := by decide +kernel
theorem dX0_init_50 : decode (mc mX0_init) 50 = .ok (.putfield 30, 3) := by decide +kernel
theorem dX0_init_53 : decode (mc mX0_init) 53 = .ok (.aload_n 0, 1) := by decide +kernel
theorem dX0_init_54 : decode (mc mX0_init) 54 = .ok (.iconst 0, 1) := by decide +kernel
theorem dX0_init_55 : decode (mc mX0_init) 55 = .ok (.putfield 33, 3) := by decide +kernel
theorem dX0_init_58 : decode (mc mX0_init) 58 = .ok (.return_, 1) := by decide +kernel
theorem dX0_ready_0 : decode (mc mX0_ready) 0 = .ok (.aload_n 0, 1) := by decide +kernel
theorem dX0_ready_1 : decode (mc mX0_ready) 1 = .ok (.aload_n 1, 1) := by decide +kernel
theorem dX0_ready_2 : decode (mc mX0_ready) 2 = .ok (.getfield 37, 3) := by decide +kernel
theorem dX0_ready_5 : decode (mc mX0_ready) 5 = .ok (.putfield 33, 3) := by decide +kernel
theorem dX0_ready_8 : decode (mc mX0_ready) 8 = .ok (.iconst 0, 1) := by decide +kernel
theorem dX0_ready_9 : decode (mc mX0_ready) 9 = .ok (.istore_n 2, 1) := by decide +kernel
theorem dX0_ready_10 : decode (mc mX0_ready) 10 = .ok (.iload_n 2, 1) := by decide +kernel
theorem dX0_ready_11 : decode (mc mX0_ready) 11 = .ok (.aload_n 0, 1) := by decide +kernel
theorem dX0_ready_12 : decode (mc mX0_ready) 12 = .ok (.getfield 33, 3) := by decide +kernel
theorem dX0_ready_15 : decode (mc mX0_ready) 15 = .ok (.if_icmp .ge 131, 3) := by decide +kernel
theorem dX0_ready_18 : decode (mc mX0_ready) 18 = .ok (.aload_n 1, 1) := by decide +kernel
theorem dX0_ready_19 : decode (mc mX0_ready) 19 = .ok (.getfield 40, 3) := by decide +kernel
theorem dX0_ready_22 : decode (mc mX0_ready) 22 = .ok (.iload_n 2, 1) := by decide +kernel
theorem dX0_ready_23 : decode (mc mX0_ready) 23 = .ok (.aaload, 1) := by decide +kernel
theorem dX0_ready_24 : decode (mc mX0_ready) 24 = .ok (.astore_n 3, 1) := by decide +kernel
theorem dX0_ready_25 : decode (mc mX0_ready) 25 = .ok (.aload_n 0, 1) := by decide +kernel
theorem dX0_ready_26 : decode (mc mX0_ready) 26 = .ok (.getfield 15, 3) := by decide +kernel
theorem dX0_ready_29 : decode (mc mX0_ready) 29 = .ok (.iload_n 2, 1) := by decide +kernel
theorem dX0_ready_30 : decode (mc mX0_ready) 30 = .ok (.aload_n 3, 1) := by decide +kernel
theorem dX0_ready_31 : decode (mc mX0_ready) 31 = .ok (.invokevirtual 44, 3) := by decide +kernel
theorem dX0_ready_34 : decode (mc mX0_ready) 34 = .ok (.iastore, 1) := by decide +kernel
theorem dX0_ready_35 : decode (mc mX0_ready) 35 = .ok (.aload_n 0, 1) := by decide +kernel
theorem dX0_ready_36 : decode (mc mX0_ready) 36 = .ok (.getfield 18, 3) := by decide +kernel
theorem dX0_ready_39 : decode (mc mX0_ready) 39 = .ok (.iload_n 2, 1) := by decide +kernel
theorem dX0_ready_40 : decode (mc mX0_ready) 40 = .ok (.aload_n 3, 1) := by decide +kernel
theorem dX0_ready_41 : decode (mc mX0_ready) 41 = .ok (.iconst 0, 1) := by decide +kernel
theorem dX0_ready_42 : decode (mc mX0_ready) 42 = .ok (.invokevirtual 49, 3) := by decide +kernel
theorem dX0_ready_45 : decode (mc mX0_ready) 45 = .ok (.iastore, 1) := by decide +kernel
theorem dX0_ready_46 : decode (mc mX0_ready) 46 = .ok (.aload_n 0, 1) := by decide +kernel
theorem dX0_ready_47 : decode (mc mX0_ready) 47 = .ok (.getfield 21, 3) := by decide +kernel
theorem dX0_ready_50 : decode (mc mX0_ready) 50 = .ok (.iload_n 2, 1) := by decide +kernel
theorem dX0_ready_51 : decode (mc mX0_ready) 51 = .ok (.aload_n 3, 1) := by decide +kernel
theorem dX0_ready_52 : decode (mc mX0_ready) 52 = .ok (.iconst 1, 1) := by decide +kernel
theorem dX0_ready_53 : decode (mc mX0_ready) 53 = .ok (.invokevirtual 49, 3) := by decide +kernel
theorem dX0_ready_56 : decode (mc mX0_ready) 56 = .ok (.iastore, 1) := by decide +kernel
theorem dX0_ready_57 : decode (mc mX0_ready) 57 = .ok (.aload_n 0, 1) := by decide +kernel
theorem dX0_ready_58 : decode (mc mX0_ready) 58 = .ok (.getfield 24, 3) := by decide +kernel
theorem dX0_ready_61 : decode (mc mX0_ready) 61 = .ok (.iload_n 2, 1) := by decide +kernel
theorem dX0_ready_62 : decode (mc mX0_ready) 62 = .ok (.aload_n 3, 1) := by decide +kernel
theorem dX0_ready_63 : decode (mc mX0_ready) 63 = .ok (.getfield 52, 3) := by decide +kernel
theorem dX0_ready_66 : decode (mc mX0_ready) 66 = .ok (.iastore, 1) := by decide +kernel
theorem dX0_ready_67 : decode (mc mX0_ready) 67 = .ok (.aload_n 0, 1) := by decide +kernel
theorem dX0_ready_68 : decode (mc mX0_ready) 68 = .ok (.getfield 27, 3) := by decide +kernel
theorem dX0_ready_71 : decode (mc mX0_ready) 71 = .ok (.iload_n 2, 1) := by decide +kernel
theorem dX0_ready_72 : decode (mc mX0_ready) 72 = .ok (.aload_n 3, 1) := by decide +kernel
theorem dX0_ready_73 : decode (mc mX0_ready) 73 = .ok (.getfield 54, 3) := by decide +kernel
theorem dX0_ready_76 : decode (mc mX0_ready) 76 = .ok (.iastore, 1) := by decide +kernel
theorem dX0_ready_77 : decode (mc mX0_ready) 77 = .ok (.iload_n 2, 1) := by decide +kernel
theorem dX0_ready_78 : decode (mc mX0_ready) 78 = .ok (.istore 4, 2) := by decide +kernel
theorem dX0_ready_80 : decode (mc mX0_ready) 80 = .ok (.iload 4, 2) := by decide +kernel
theorem dX0_ready_82 : decode (mc mX0_ready) 82 = .ok (.ifCond .le 50, 3) := by decide +kernel
theorem dX0_ready_85 : decode (mc mX0_ready) 85 = .ok (.aload_n 3, 1) := by decide +kernel
theorem dX0_ready_86 : decode (mc mX0_ready) 86 = .ok (.aload_n 1, 1) := by decide +kernel
theorem dX0_ready_87 : decode (mc mX0_ready) 87 = .ok (.getfield 40, 3) := by decide +kernel
theorem dX0_ready_90 : decode (mc mX0_ready) 90 = .ok (.aload_n 0, 1) := by decide +kernel
theorem dX0_ready_91 : decode (mc mX0_ready) 91 = .ok (.getfield 9, 3) := by decide +kernel
theorem dX0_ready_94 : decode (mc mX0_ready) 94 = .ok (.iload 4, 2) := by decide +kernel
theorem dX0_ready_96 : decode (mc mX0_ready) 96 = .ok (.iconst 1, 1) := by decide +kernel
theorem dX0_ready_97 : decode (mc mX0_ready) 97 = .ok (.isub, 1) := by decide +kernel
theorem dX0_ready_98 : decode (mc mX0_ready) 98 = .ok (.iaload, 1) := by decide +kernel
theorem dX0_ready_99 : decode (mc mX0_ready) 99 = .ok (.aaload, 1) := by decide +kernel
theorem dX0_ready_100 : decode (mc mX0_ready) 100 = .ok (.aload_n 1, 1) := by decide +kernel
theorem dX0_ready_101 : decode (mc mX0_ready) 101 = .ok (.getfield 56, 3) := by decide +kernel
theorem dX0_ready_104 : decode (mc mX0_ready) 104 = .ok (.invokestatic 59, 3) := by decide +kernel
theorem dX0_ready_107 : decode (mc mX0_ready) 107 = .ok (.ifCond .eq 25, 3) := by decide +kernel
theorem dX0_ready_110 : decode (mc mX0_ready) 110 = .ok (.aload_n 0, 1) := by decide +kernel
theorem dX0_ready_111 : decode (mc mX0_ready) 111 = .ok (.getfield 9, 3) := by decide +kernel
theorem dX0_ready_114 : decode (mc mX0_ready) 114 = .ok (.iload 4, 2) := by decide +kernel
theorem dX0_ready_116 : decode (mc mX0_ready) 116 = .ok (.aload_n 0, 1) := by decide +kernel
theorem dX0_ready_117 : decode (mc mX0_ready) 117 = .ok (.getfield 9, 3) := by decide +kernel
theorem dX0_ready_120 : decode (mc mX0_ready) 120 = .ok (.iload 4, 2) := by decide +kernel
theorem dX0_ready_122 : decode (mc mX0_ready) 122 = .ok (.iconst 1, 1) := by decide +kernel
theorem dX0_ready_123 : decode (mc mX0_ready) 123 = .ok (.isub, 1) := by decide +kernel
theorem dX0_ready_124 : decode (mc mX0_ready) 124 = .ok (.iaload, 1) := by decide +kernel
theorem dX0_ready_125 : decode (mc mX0_ready) 125 = .ok (.iastore, 1) := by decide +kernel
theorem dX0_ready_126 : decode (mc mX0_ready) 126 = .ok (.iinc 4 (-1), 3) := by decide +kernel
theorem dX0_ready_129 : decode (mc mX0_ready) 129 = .ok (.goto (-49), 3) := by decide +kernel
theorem dX0_ready_132 : decode (mc mX0_ready) 132 = .ok (.aload_n 0, 1) := by decide +kernel
theorem dX0_ready_133 : decode (mc mX0_ready) 133 = .ok (.getfield 9, 3) := by decide +kernel
theorem dX0_ready_136 : decode (mc mX0_ready) 136 = .ok (.iload 4, 2) := by decide +kernel
theorem dX0_ready_138 : decode (mc mX0_ready) 138 = .ok (.iload_n 2, 1) := by decide +kernel
theorem dX0_ready_139 : decode (mc mX0_ready) 139 = .ok (.iastore, 1) := by decide +kernel
theorem dX0_ready_140 : decode (mc mX0_ready) 140 = .ok (.iinc 2 1, 3) := by decide +kernel
theorem dX0_ready_143 : decode (mc mX0_ready) 143 = .ok (.goto (-133), 3) := by decide +kernel
theorem dX0_ready_146 : decode (mc mX0_ready) 146 = .ok (.return_, 1) := by decide +kernel
theorem dX0_comesAhead_0 : decode (mc mX0_comesAhead) 0 = .ok (.iload_n 2, 1) := by decide +kernel
theorem dX0_comesAhead_1 : decode (mc mX0_comesAhead) 1 = .ok (.ifCond .ne 20, 3) := by decide +kernel
theorem dX0_comesAhead_4 : decode (mc mX0_comesAhead) 4 = .ok (.aload_n 0, 1) := by decide +kernel
theorem dX0_comesAhead_5 : decode (mc mX0_comesAhead) 5 = .ok (.getfield 52, 3) := by decide +kernel
theorem dX0_comesAhead_8 : decode (mc mX0_comesAhead) 8 = .ok (.aload_n 1, 1) := by decide +kernel
theorem dX0_comesAhead_9 : decode (mc mX0_comesAhead) 9 = .ok (.getfield 52, 3) := by decide +kernel
theorem dX0_comesAhead_12 : decode (mc mX0_comesAhead) 12 = .ok (.if_icmp .ge 7, 3) := by decide +kernel
theorem dX0_comesAhead_15 : decode (mc mX0_comesAhead) 15 = .ok (.iconst 1, 1) := by decide +kernel
theorem dX0_comesAhead_16 : decode (mc mX0_comesAhead) 16 = .ok (.goto 4, 3) := by decide +kernel
theorem dX0_comesAhead_19 : decode (mc mX0_comesAhead) 19 = .ok (.iconst 0, 1) := by decide +kernel
theorem dX0_comesAhead_20 : decode (mc mX0_comesAhead) 20 = .ok (.ireturn, 1) := by decide +kernel
theorem dX0_comesAhead_21 : decode (mc mX0_comesAhead) 21 = .ok (.iload_n 2, 1) := by decide +kernel
theorem dX0_comesAhead_22 : decode (mc mX0_comesAhead) 22 = .ok (.iconst 1, 1) := by decide +kernel
theorem dX0_comesAhead_23 : decode (mc mX0_comesAhead) 23 = .ok (.if_icmp .ne 18, 3) := by decide +kernel
theorem dX0_comesAhead_26 : decode (mc mX0_comesAhead) 26 = .ok (.aload_n 0, 1) := by decide +kernel
theorem dX0_comesAhead_27 : decode (mc mX0_comesAhead) 27 = .ok (.getfield 63, 3) := by decide +kernel
theorem dX0_comesAhead_30 : decode (mc mX0_comesAhead) 30 = .ok (.aload_n 1, 1) := by decide +kernel
theorem dX0_comesAhead_31 : decode (mc mX0_comesAhead) 31 = .ok (.getfield 63, 3) := by decide +kernel
theorem dX0_comesAhead_34 : decode (mc mX0_comesAhead) 34 = .ok (.if_icmp .le 7, 3) := by decide +kernel
theorem dX0_comesAhead_37 : decode (mc mX0_comesAhead) 37 = .ok (.iconst 1, 1) := by decide +kernel
theorem dX0_comesAhead_38 : decode (mc mX0_comesAhead) 38 = .ok (.goto 4, 3) := by decide +kernel
theorem dX0_comesAhead_41 : decode (mc mX0_comesAhead) 41 = .ok (.iconst 0, 1) := by decide +kernel
theorem dX0_comesAhead_42 : decode (mc mX0_comesAhead) 42 = .ok (.ireturn, 1) := by decide +kernel
theorem dX0_share_0 : decode (mc mX0_share) 0 = .ok (.iconst 0, 1) := by decide +kernel
theorem dX0_share_1 : decode (mc mX0_share) 1 = .ok (.istore 5, 2) := by decide +kernel
theorem dX0_share_3 : decode (mc mX0_share) 3 = .ok (.iconst 0, 1) := by decide +kernel
theorem dX0_share_4 : decode (mc mX0_share) 4 = .ok (.istore 6, 2) := by decide +kernel
theorem dX0_share_6 : decode (mc mX0_share) 6 = .ok (.iconst 0, 1) := by decide +kernel
theorem dX0_share_7 : decode (mc mX0_share) 7 = .ok (.istore 7, 2) := by decide +kernel
theorem dX0_share_9 : decode (mc mX0_share) 9 = .ok (.iconst 0, 1) := by decide +kernel
theorem dX0_share_10 : decode (mc mX0_share) 10 = .ok (.istore 8, 2) := by decide +kernel
theorem dX0_share_12 : decode (mc mX0_share) 12 = .ok (.iload 8, 2) := by decide +kernel
theorem dX0_share_14 : decode (mc mX0_share) 14 = .ok (.aload_n 0, 1) := by decide +kernel
theorem dX0_share_15 : decode (mc mX0_share) 15 = .ok (.getfield 33, 3) := by decide +kernel
theorem dX0_share_18 : decode (mc mX0_share) 18 = .ok (.if_icmp .ge 72, 3) := by decide +kernel
theorem dX0_share_21 : decode (mc mX0_share) 21 = .ok (.iload_n 3, 1) := by decide +kernel
theorem dX0_share_22 : decode (mc mX0_share) 22 = .ok (.iload 8, 2) := by decide +kernel
theorem dX0_share_24 : decode (mc mX0_share) 24 = .ok (.ishr, 1) := by decide +kernel
theorem dX0_share_25 : decode (mc mX0_share) 25 = .ok (.iconst 1, 1) := by decide +kernel
theorem dX0_share_26 : decode (mc mX0_share) 26 = .ok (.iand, 1) := by decide +kernel
theorem dX0_share_27 : decode (mc mX0_share) 27 = .ok (.iconst 1, 1) := by decide +kernel
theorem dX0_share_28 : decode (mc mX0_share) 28 = .ok (.if_icmp .ne 56, 3) := by decide +kernel
theorem dX0_share_31 : decode (mc mX0_share) 31 = .ok (.iload 5, 2) := by decide +kernel
theorem dX0_share_33 : decode (mc mX0_share) 33 = .ok (.aload_n 0, 1) := by decide +kernel
theorem dX0_share_34 : decode (mc mX0_share) 34 = .ok (.getfield 15, 3) := by decide +kernel
theorem dX0_share_37 : decode (mc mX0_share) 37 = .ok (.iload 8, 2) := by decide +kernel
theorem dX0_share_39 : decode (mc mX0_share) 39 = .ok (.iaload, 1) := by decide +kernel
theorem dX0_share_40 : decode (mc mX0_share) 40 = .ok (.iadd, 1) := by decide +kernel
theorem dX0_share_41 : decode (mc mX0_share) 41 = .ok (.istore 5, 2) := by decide +kernel
theorem dX0_share_43 : decode (mc mX0_share) 43 = .ok (.iload 6, 2) := by decide +kernel
theorem dX0_share_45 : decode (mc mX0_share) 45 = .ok (.aload_n 0, 1) := by decide +kernel
theorem dX0_share_46 : decode (mc mX0_share) 46 = .ok (.iload 8, 2) := by decide +kernel
theorem dX0_share_48 : decode (mc mX0_share) 48 = .ok (.iload 4, 2) := by decide +kernel
theorem dX0_share_50 : decode (mc mX0_share) 50 = .ok (.invokevirtual 66, 3) := by decide +kernel
theorem dX0_share_53 : decode (mc mX0_share) 53 = .ok (.iadd, 1) := by decide +kernel
theorem dX0_share_54 : decode (mc mX0_share) 54 = .ok (.istore 6, 2) := by decide +kernel
theorem dX0_share_56 : decode (mc mX0_share) 56 = .ok (.iload 7, 2) := by decide +kernel
theorem dX0_share_58 : decode (mc mX0_share) 58 = .ok (.aload_n 0, 1) := by decide +kernel
theorem dX0_share_59 : decode (mc mX0_share) 59 = .ok (.getfield 27, 3) := by decide +kernel
theorem dX0_share_62 : decode (mc mX0_share) 62 = .ok (.iload 8, 2) := by decide +kernel
theorem dX0_share_64 : decode (mc mX0_share) 64 = .ok (.iaload, 1) := by decide +kernel
theorem dX0_share_65 : decode (mc mX0_share) 65 = .ok (.aload_n 0, 1) := by decide +kernel
theorem dX0_share_66 : decode (mc mX0_share) 66 = .ok (.getfield 24, 3) := by decide +kernel
theorem dX0_share_69 : decode (mc mX0_share) 69 = .ok (.iload 8, 2) := by decide +kernel
theorem dX0_share_71 : decode (mc mX0_share) 71 = .ok (.iaload, 1) := by decide +kernel
theorem dX0_share_72 : decode (mc mX0_share) 72 = .ok (.aload_n 0, 1) := by decide +kernel
theorem dX0_share_73 : decode (mc mX0_share) 73 = .ok (.getfield 15, 3) := by decide +kernel
theorem dX0_share_76 : decode (mc mX0_share) 76 = .ok (.iload 8, 2) := by decide +kernel
theorem dX0_share_78 : decode (mc mX0_share) 78 = .ok (.iaload, 1) := by decide +kernel
theorem dX0_share_79 : decode (mc mX0_share) 79 = .ok (.imul, 1) := by decide +kernel
theorem dX0_share_80 : decode (mc mX0_share) 80 = .ok (.iadd, 1) := by decide +kernel
theorem dX0_share_81 : decode (mc mX0_share) 81 = .ok (.iadd, 1) := by decide +kernel
theorem dX0_share_82 : decode (mc mX0_share) 82 = .ok (.istore 7, 2) := by decide +kernel
theorem dX0_share_84 : decode (mc mX0_share) 84 = .ok (.iinc 8 1, 3) := by decide +kernel
theorem dX0_share_87 : decode (mc mX0_share) 87 = .ok (.goto (-75), 3) := by decide +kernel
theorem dX0_share_90 : decode (mc mX0_share) 90 = .ok (.iload 5, 2) := by decide +kernel
theorem dX0_share_92 : decode (mc mX0_share) 92 = .ok (.iload_n 1, 1) := by decide +kernel
theorem dX0_share_93 : decode (mc mX0_share) 93 = .ok (.if_icmp .gt 11, 3) := by decide +kernel
theorem dX0_share_96 : decode (mc mX0_share) 96 = .ok (.iload 6, 2) := by decide +kernel
theorem dX0_share_98 : decode (mc mX0_share) 98 = .ok (.iload_n 1, 1) := by decide +kernel
theorem dX0_share_99 : decode (mc mX0_share) 99 = .ok (.iload_n 2, 1) := by decide +kernel
theorem dX0_share_100 : decode (mc mX0_share) 100 = .ok (.iadd, 1) := by decide +kernel
theorem dX0_share_101 : decode (mc mX0_share) 101 = .ok (.if_icmp .ge 6, 3) := by decide +kernel
theorem dX0_share_104 : decode (mc mX0_share) 104 = .ok (.bipush (-9), 2) := by decide +kernel
theorem dX0_share_106 : decode (mc mX0_share) 106 = .ok (.ireturn, 1) := by decide +kernel
theorem dX0_share_107 : decode (mc mX0_share) 107 = .ok (.iload_n 1, 1) := by decide +kernel
theorem dX0_share_108 : decode (mc mX0_share) 108 = .ok (.iload 5, 2) := by decide +kernel
theorem dX0_share_110 : decode (mc mX0_share) 110 = .ok (.isub, 1) := by decide +kernel
theorem dX0_share_111 : decode (mc mX0_share) 111 = .ok (.istore 8, 2) := by decide +kernel
theorem dX0_share_113 : decode (mc mX0_share) 113 = .ok (.iconst 0, 1) := by decide +kernel
theorem dX0_share_114 : decode (mc mX0_share) 114 = .ok (.istore 9, 2) := by decide +kernel
theorem dX0_share_116 : decode (mc mX0_share) 116 = .ok (.iload 9, 2) := by decide +kernel
theorem dX0_share_118 : decode (mc mX0_share) 118 = .ok (.aload_n 0, 1) := by decide +kernel
theorem dX0_share_119 : decode (mc mX0_share) 119 = .ok (.getfield 33, 3) := by decide +kernel
theorem dX0_share_122 : decode (mc mX0_share) 122 = .ok (.if_icmp .ge 90, 3) := by decide +kernel
theorem dX0_share_125 : decode (mc mX0_share) 125 = .ok (.aload_n 0, 1) := by decide +kernel
theorem dX0_share_126 : decode (mc mX0_share) 126 = .ok (.getfield 9, 3) := by decide +kernel
theorem dX0_share_129 : decode (mc mX0_share) 129 = .ok (.iload 9, 2) := by decide +kernel
theorem dX0_share_131 : decode (mc mX0_share) 131 = .ok (.iaload, 1) := by decide +kernel
theorem dX0_share_132 : decode (mc mX0_share) 132 = .ok (.istore 10, 2) := by decide +kernel
theorem dX0_share_134 : decode (mc mX0_share) 134 = .ok (.iload_n 3, 1) := by decide +kernel
theorem dX0_share_135 : decode (mc mX0_share) 135 = .ok (.iload 10, 2) := by decide +kernel
theorem dX0_share_137 : decode (mc mX0_share) 137 = .ok (.ishr, 1) := by decide +kernel
theorem dX0_share_138 : decode (mc mX0_share) 138 = .ok (.iconst 1, 1) := by decide +kernel
theorem dX0_share_139 : decode (mc mX0_share) 139 = .ok (.iand, 1) := by decide +kernel
theorem dX0_share_140 : decode (mc mX0_share) 140 = .ok (.iconst 1, 1) := by decide +kernel
theorem dX0_share_141 : decode (mc mX0_share) 141 = .ok (.if_icmp .ne 65, 3) := by decide +kernel
theorem dX0_share_144 : decode (mc mX0_share) 144 = .ok (.iload 8, 2) := by decide +kernel
theorem dX0_share_146 : decode (mc mX0_share) 146 = .ok (.aload_n 0, 1) := by decide +kernel
theorem dX0_share_147 : decode (mc mX0_share) 147 = .ok (.iload 10, 2) := by decide +kernel
theorem dX0_share_149 : decode (mc mX0_share) 149 = .ok (.iload 4, 2) := by decide +kernel
theorem dX0_share_151 : decode (mc mX0_share) 151 = .ok (.invokevirtual 66, 3) := by decide +kernel
theorem dX0_share_154 : decode (mc mX0_share) 154 = .ok (.aload_n 0, 1) := by decide +kernel
theorem dX0_share_155 : decode (mc mX0_share) 155 = .ok (.getfield 15, 3) := by decide +kernel
theorem dX0_share_158 : decode (mc mX0_share) 158 = .ok (.iload 10, 2) := by decide +kernel
theorem dX0_share_160 : decode (mc mX0_share) 160 = .ok (.iaload, 1) := by decide +kernel
theorem dX0_share_161 : decode (mc mX0_share) 161 = .ok (.isub, 1) := by decide +kernel
theorem dX0_share_162 : decode (mc mX0_share) 162 = .ok (.invokestatic 70, 3) := by decide +kernel
theorem dX0_share_165 : decode (mc mX0_share) 165 = .ok (.istore 11, 2) := by decide +kernel
theorem dX0_share_167 : decode (mc mX0_share) 167 = .ok (.aload_n 0, 1) := by decide +kernel
theorem dX0_share_168 : decode (mc mX0_share) 168 = .ok (.getfield 30, 3) := by decide +kernel
theorem dX0_share_171 : decode (mc mX0_share) 171 = .ok (.iload 10, 2) := by decide +kernel
theorem dX0_share_173 : decode (mc mX0_share) 173 = .ok (.aload_n 0, 1) := by decide +kernel
theorem dX0_share_174 : decode (mc mX0_share) 174 = .ok (.getfield 15, 3) := by decide +kernel
theorem dX0_share_177 : decode (mc mX0_share) 177 = .ok (.iload 10, 2) := by decide +kernel
theorem dX0_share_179 : decode (mc mX0_share) 179 = .ok (.iaload, 1) := by decide +kernel
theorem dX0_share_180 : decode (mc mX0_share) 180 = .ok (.iload 11, 2) := by decide +kernel
theorem dX0_share_182 : decode (mc mX0_share) 182 = .ok (.iadd, 1) := by decide +kernel
theorem dX0_share_183 : decode (mc mX0_share) 183 = .ok (.iastore, 1) := by decide +kernel
theorem dX0_share_184 : decode (mc mX0_share) 184 = .ok (.iload 7, 2) := by decide +kernel
theorem dX0_share_186 : decode (mc mX0_share) 186 = .ok (.aload_n 0, 1) := by decide +kernel
theorem dX0_share_187 : decode (mc mX0_share) 187 = .ok (.getfield 24, 3) := by decide +kernel
theorem dX0_share_190 : decode (mc mX0_share) 190 = .ok (.iload 10, 2) := by decide +kernel
theorem dX0_share_192 : decode (mc mX0_share) 192 = .ok (.iaload, 1) := by decide +kernel
theorem dX0_share_193 : decode (mc mX0_share) 193 = .ok (.iload 11, 2) := by decide +kernel
theorem dX0_share_195 : decode (mc mX0_share) 195 = .ok (.imul, 1) := by decide +kernel
theorem dX0_share_196 : decode (mc mX0_share) 196 = .ok (.iadd, 1) := by decide +kernel
theorem dX0_share_197 : decode (mc mX0_share) 197 = .ok (.istore 7, 2) := by decide +kernel
theorem dX0_share_199 : decode (mc mX0_share) 199 = .ok (.iload 8, 2) := by decide +kernel
theorem dX0_share_201 : decode (mc mX0_share) 201 = .ok (.iload 11, 2) := by decide +kernel
theorem dX0_share_203 : decode (mc mX0_share) 203 = .ok (.isub, 1) := by decide +kernel
theorem dX0_share_204 : decode (mc mX0_share) 204 = .ok (.istore 8, 2) := by decide +kernel
theorem dX0_share_206 : decode (mc mX0_share) 206 = .ok (.iinc 9 1, 3) := by decide +kernel
theorem dX0_share_209 : decode (mc mX0_share) 209 = .ok (.goto (-93), 3) := by decide +kernel
theorem dX0_share_212 : decode (mc mX0_share) 212 = .ok (.iload 7, 2) := by decide +kernel
theorem dX0_share_214 : decode (mc mX0_share) 214 = .ok (.ireturn, 1) := by decide +kernel
theorem dX0_mostOf_0 : decode (mc mX0_mostOf) 0 = .ok (.iload_n 2, 1) := by decide +kernel
theorem dX0_mostOf_1 : decode (mc mX0_mostOf) 1 = .ok (.iload_n 1, 1) := by decide +kernel
theorem dX0_mostOf_2 : decode (mc mX0_mostOf) 2 = .ok (.ishr, 1) := by decide +kernel
theorem dX0_mostOf_3 : decode (mc mX0_mostOf) 3 = .ok (.iconst 1, 1) := by decide +kernel
theorem dX0_mostOf_4 : decode (mc mX0_mostOf) 4 = .ok (.iand, 1) := by decide +kernel
theorem dX0_mostOf_5 : decode (mc mX0_mostOf) 5 = .ok (.iconst 1, 1) := by decide +kernel
theorem dX0_mostOf_6 : decode (mc mX0_mostOf) 6 = .ok (.if_icmp .ne 12, 3) := by decide +kernel
theorem dX0_mostOf_9 : decode (mc mX0_mostOf) 9 = .ok (.aload_n 0, 1) := by decide +kernel
theorem dX0_mostOf_10 : decode (mc mX0_mostOf) 10 = .ok (.getfield 21, 3) := by decide +kernel
theorem dX0_mostOf_13 : decode (mc mX0_mostOf) 13 = .ok (.iload_n 1, 1) := by decide +kernel
theorem dX0_mostOf_14 : decode (mc mX0_mostOf) 14 = .ok (.iaload, 1) := by decide +kernel
theorem dX0_mostOf_15 : decode (mc mX0_mostOf) 15 = .ok (.goto 9, 3) := by decide +kernel
theorem dX0_mostOf_18 : decode (mc mX0_mostOf) 18 = .ok (.aload_n 0, 1) := by decide +kernel
theorem dX0_mostOf_19 : decode (mc mX0_mostOf) 19 = .ok (.getfield 18, 3) := by decide +kernel
theorem dX0_mostOf_22 : decode (mc mX0_mostOf) 22 = .ok (.iload_n 1, 1) := by decide +kernel
theorem dX0_mostOf_23 : decode (mc mX0_mostOf) 23 = .ok (.iaload, 1) := by decide +kernel
theorem dX0_mostOf_24 : decode (mc mX0_mostOf) 24 = .ok (.ireturn, 1) := by decide +kernel
theorem dX1_init_0 : decode (mc mX1_init) 0 = .ok (.aload_n 0, 1) := by decide +kernel
theorem dX1_init_1 : decode (mc mX1_init) 1 = .ok (.invokespecial 3, 3) := by decide +kernel
theorem dX1_init_4 : decode (mc mX1_init) 4 = .ok (.aload_n 0, 1) := by decide +kernel
theorem dX1_init_5 : decode (mc mX1_init) 5 = .ok (.bipush 20, 2) := by decide +kernel
theorem dX1_init_7 : decode (mc mX1_init) 7 = .ok (.newarray .int, 2) := by decide +kernel
theorem dX1_init_9 : decode (mc mX1_init) 9 = .ok (.putfield 9, 3) := by decide +kernel
theorem dX1_init_12 : decode (mc mX1_init) 12 = .ok (.aload_n 0, 1) := by decide +kernel
theorem dX1_init_13 : decode (mc mX1_init) 13 = .ok (.iconst (-1), 1) := by decide +kernel
theorem dX1_init_14 : decode (mc mX1_init) 14 = .ok (.putfield 15, 3) := by decide +kernel
theorem dX1_init_17 : decode (mc mX1_init) 17 = .ok (.return_, 1) := by decide +kernel
theorem dX1_make_0 : decode (mc mX1_make) 0 = .ok (.aload_n 0, 1) := by decide +kernel
theorem dX1_make_1 : decode (mc mX1_make) 1 = .ok (.getfield 9, 3) := by decide +kernel
theorem dX1_make_4 : decode (mc mX1_make) 4 = .ok (.iconst 0, 1) := by decide +kernel
theorem dX1_make_5 : decode (mc mX1_make) 5 = .ok (.invokestatic 19, 3) := by decide +kernel
theorem dX1_make_8 : decode (mc mX1_make) 8 = .ok (.aload_n 0, 1) := by decide +kernel
theorem dX1_make_9 : decode (mc mX1_make) 9 = .ok (.iload_n 1, 1) := by decide +kernel
theorem dX1_make_10 : decode (mc mX1_make) 10 = .ok (.putfield 15, 3) := by decide +kernel
theorem dX1_make_13 : decode (mc mX1_make) 13 = .ok (.return_, 1) := by decide +kernel
theorem dX1_set_0 : decode (mc mX1_set) 0 = .ok (.iload_n 1, 1) := by decide +kernel
theorem dX1_set_1 : decode (mc mX1_set) 1 = .ok (.ifCond .lt 17, 3) := by decide +kernel
theorem dX1_set_4 : decode (mc mX1_set) 4 = .ok (.iload_n 1, 1) := by decide +kernel
theorem dX1_set_5 : decode (mc mX1_set) 5 = .ok (.aload_n 0, 1) := by decide +kernel
theorem dX1_set_6 : decode (mc mX1_set) 6 = .ok (.getfield 15, 3) := by decide +kernel
theorem dX1_set_9 : decode (mc mX1_set) 9 = .ok (.if_icmp .ge 9, 3) := by decide +kernel
theorem dX1_set_12 : decode (mc mX1_set) 12 = .ok (.iload_n 1, 1) := by decide +kernel
theorem dX1_set_13 : decode (mc mX1_set) 13 = .ok (.bipush 20, 2) := by decide +kernel
theorem dX1_set_15 : decode (mc mX1_set) 15 = .ok (.if_icmp .lt 5, 3) := by decide +kernel
theorem dX1_set_18 : decode (mc mX1_set) 18 = .ok (.iconst 0, 1) := by decide +kernel
theorem dX1_set_19 : decode (mc mX1_set) 19 = .ok (.ireturn, 1) := by decide +kernel
theorem dX1_set_20 : decode (mc mX1_set) 20 = .ok (.aload_n 0, 1) := by decide +kernel
theorem dX1_set_21 : decode (mc mX1_set) 21 = .ok (.getfield 9, 3) := by decide +kernel
theorem dX1_set_24 : decode (mc mX1_set) 24 = .ok (.iload_n 1, 1) := by decide +kernel
theorem dX1_set_25 : decode (mc mX1_set) 25 = .ok (.iload_n 2, 1) := by decide +kernel
theorem dX1_set_26 : decode (mc mX1_set) 26 = .ok (.iastore, 1) := by decide +kernel
theorem dX1_set_27 : decode (mc mX1_set) 27 = .ok (.iconst 1, 1) := by decide +kernel
theorem dX1_set_28 : decode (mc mX1_set) 28 = .ok (.ireturn, 1) := by decide +kernel
theorem dX1_setAt_0 : decode (mc mX1_setAt) 0 = .ok (.iconst 0, 1) := by decide +kernel
theorem dX1_setAt_1 : decode (mc mX1_setAt) 1 = .ok (.istore_n 3, 1) := by decide +kernel
theorem dX1_setAt_2 : decode (mc mX1_setAt) 2 = .ok (.iconst 0, 1) := by decide +kernel
theorem dX1_setAt_3 : decode (mc mX1_setAt) 3 = .ok (.istore 4, 2) := by decide +kernel
theorem dX1_setAt_5 : decode (mc mX1_setAt) 5 = .ok (.iload 4, 2) := by decide +kernel
theorem dX1_setAt_7 : decode (mc mX1_setAt) 7 = .ok (.iload_n 2, 1) := by decide +kernel
theorem dX1_setAt_8 : decode (mc mX1_setAt) 8 = .ok (.if_icmp .ge 35, 3) := by decide +kernel
theorem dX1_setAt_11 : decode (mc mX1_setAt) 11 = .ok (.iload 4, 2) := by decide +kernel
theorem dX1_setAt_13 : decode (mc mX1_setAt) 13 = .ok (.aload_n 0, 1) := by decide +kernel
theorem dX1_setAt_14 : decode (mc mX1_setAt) 14 = .ok (.getfield 15, 3) := by decide +kernel
theorem dX1_setAt_17 : decode (mc mX1_setAt) 17 = .ok (.if_icmp .ge 26, 3) := by decide +kernel
theorem dX1_setAt_20 : decode (mc mX1_setAt) 20 = .ok (.iload_n 3, 1) := by decide +kernel
theorem dX1_setAt_21 : decode (mc mX1_setAt) 21 = .ok (.aload_n 0, 1) := by decide +kernel
theorem dX1_setAt_22 : decode (mc mX1_setAt) 22 = .ok (.getfield 9, 3) := by decide +kernel
theorem dX1_setAt_25 : decode (mc mX1_setAt) 25 = .ok (.iload 4, 2) := by decide +kernel
theorem dX1_setAt_27 : decode (mc mX1_setAt) 27 = .ok (.iaload, 1) := by decide +kernel
theorem dX1_setAt_28 : decode (mc mX1_setAt) 28 = .ok (.iload_n 1, 1) := by decide +kernel
theorem dX1_setAt_29 : decode (mc mX1_setAt) 29 = .ok (.ishr, 1) := by decide +kernel
theorem dX1_setAt_30 : decode (mc mX1_setAt) 30 = .ok (.iconst 1, 1) := by decide +kernel
theorem dX1_setAt_31 : decode (mc mX1_setAt) 31 = .ok (.iand, 1) := by decide +kernel
theorem dX1_setAt_32 : decode (mc mX1_setAt) 32 = .ok (.iload 4, 2) := by decide +kernel
theorem dX1_setAt_34 : decode (mc mX1_setAt) 34 = .ok (.ishl, 1) := by decide +kernel
theorem dX1_setAt_35 : decode (mc mX1_setAt) 35 = .ok (.ior, 1) := by decide +kernel
theorem dX1_setAt_36 : decode (mc mX1_setAt) 36 = .ok (.istore_n 3, 1) := by decide +kernel
theorem dX1_setAt_37 : decode (mc mX1_setAt) 37 = .ok (.iinc 4 1, 3) := by decide +kernel
theorem dX1_setAt_40 : decode (mc mX1_setAt) 40 = .ok (.goto (-35), 3) := by decide +kernel
theorem dX1_setAt_43 : decode (mc mX1_setAt) 43 = .ok (.iload_n 3, 1) := by decide +kernel
theorem dX1_setAt_44 : decode (mc mX1_setAt) 44 = .ok (.ireturn, 1) := by decide +kernel
theorem dX1_tellsStarts_0 : decode (mc mX1_tellsStarts) 0 = .ok (.iconst 0, 1) := by decide +kernel
theorem dX1_tellsStarts_1 : decode (mc mX1_tellsStarts) 1 = .ok (.istore 4, 2) := by decide +kernel
theorem dX1_tellsStarts_3 : decode (mc mX1_tellsStarts) 3 = .ok (.iload 4, 2) := by decide +kernel
theorem dX1_tellsStarts_5 : decode (mc mX1_tellsStarts) 5 = .ok (.aload_n 0, 1) := by decide +kernel
theorem dX1_tellsStarts_6 : decode (mc mX1_tellsStarts) 6 = .ok (.getfield 15, 3) := by decide +kernel
theorem dX1_tellsStarts_9 : decode (mc mX1_tellsStarts) 9 = .ok (.if_icmp .ge 31, 3) := by decide +kernel
theorem dX1_tellsStarts_12 : decode (mc mX1_tellsStarts) 12 = .ok (.aload_n 0, 1) := by decide +kernel
theorem dX1_tellsStarts_13 : decode (mc mX1_tellsStarts) 13 = .ok (.getfield 9, 3) := by decide +kernel
theorem dX1_tellsStarts_16 : decode (mc mX1_tellsStarts) 16 = .ok (.iload 4, 2) := by decide +kernel
theorem dX1_tellsStarts_18 : decode (mc mX1_tellsStarts) 18 = .ok (.iaload, 1) := by decide +kernel
theorem dX1_tellsStarts_19 : decode (mc mX1_tellsStarts) 19 = .ok (.iload_n 1, 1) := by decide +kernel
theorem dX1_tellsStarts_20 : decode (mc mX1_tellsStarts) 20 = .ok (.iload_n 2, 1) := by decide +kernel
theorem dX1_tellsStarts_21 : decode (mc mX1_tellsStarts) 21 = .ok (.iload_n 3, 1) := by decide +kernel
theorem dX1_tellsStarts_22 : decode (mc mX1_tellsStarts) 22 = .ok (.iload 4, 2) := by decide +kernel
theorem dX1_tellsStarts_24 : decode (mc mX1_tellsStarts) 24 = .ok (.iconst 1, 1) := by decide +kernel
theorem dX1_tellsStarts_25 : decode (mc mX1_tellsStarts) 25 = .ok (.iadd, 1) := by decide +kernel
theorem dX1_tellsStarts_26 : decode (mc mX1_tellsStarts) 26 = .ok (.invokestatic 25, 3) := by decide +kernel
theorem dX1_tellsStarts_29 : decode (mc mX1_tellsStarts) 29 = .ok (.if_icmp .eq 5, 3) := by decide +kernel
theorem dX1_tellsStarts_32 : decode (mc mX1_tellsStarts) 32 = .ok (.iconst 0, 1) := by decide +kernel
theorem dX1_tellsStarts_33 : decode (mc mX1_tellsStarts) 33 = .ok (.ireturn, 1) := by decide +kernel
theorem dX1_tellsStarts_34 : decode (mc mX1_tellsStarts) 34 = .ok (.iinc 4 1, 3) := by decide +kernel
theorem dX1_tellsStarts_37 : decode (mc mX1_tellsStarts) 37 = .ok (.goto (-34), 3) := by decide +kernel
theorem dX1_tellsStarts_40 : decode (mc mX1_tellsStarts) 40 = .ok (.iconst 1, 1) := by decide +kernel
theorem dX1_tellsStarts_41 : decode (mc mX1_tellsStarts) 41 = .ok (.ireturn, 1) := by decide +kernel
theorem dX2_init_0 : decode (mc mX2_init) 0 = .ok (.aload_n 0, 1) := by decide +kernel
theorem dX2_init_1 : decode (mc mX2_init) 1 = .ok (.invokespecial 3, 3) := by decide +kernel
theorem dX2_init_4 : decode (mc mX2_init) 4 = .ok (.aload_n 0, 1) := by decide +kernel
theorem dX2_init_5 : decode (mc mX2_init) 5 = .ok (.iconst 5, 1) := by decide +kernel
theorem dX2_init_6 : decode (mc mX2_init) 6 = .ok (.newarray .int, 2) := by decide +kernel
theorem dX2_init_8 : decode (mc mX2_init) 8 = .ok (.putfield 9, 3) := by decide +kernel
theorem dX2_init_11 : decode (mc mX2_init) 11 = .ok (.aload_n 0, 1) := by decide +kernel
theorem dX2_init_12 : decode (mc mX2_init) 12 = .ok (.iconst 5, 1) := by decide +kernel
theorem dX2_init_13 : decode (mc mX2_init) 13 = .ok (.newarray .int, 2) := by decide +kernel
theorem dX2_init_15 : decode (mc mX2_init) 15 = .ok (.putfield 15, 3) := by decide +kernel
theorem dX2_init_18 : decode (mc mX2_init) 18 = .ok (.aload_n 0, 1) := by decide +kernel
theorem dX2_init_19 : decode (mc mX2_init) 19 = .ok (.iconst 3, 1) := by decide +kernel
theorem dX2_init_20 : decode (mc mX2_init) 20 = .ok (.newarray .int, 2) := by decide +kernel
theorem dX2_init_22 : decode (mc mX2_init) 22 = .ok (.putfield 18, 3) := by decide +kernel
theorem dX2_init_25 : decode (mc mX2_init) 25 = .ok (.aload_n 0, 1) := by decide +kernel
theorem dX2_init_26 : decode (mc mX2_init) 26 = .ok (.iconst 3, 1) := by decide +kernel
theorem dX2_init_27 : decode (mc mX2_init) 27 = .ok (.newarray .int, 2) := by decide +kernel
theorem dX2_init_29 : decode (mc mX2_init) 29 = .ok (.putfield 21, 3) := by decide +kernel
theorem dX2_init_32 : decode (mc mX2_init) 32 = .ok (.aload_n 0, 1) := by decide +kernel
theorem dX2_init_33 : decode (mc mX2_init) 33 = .ok (.iconst 3, 1) := by decide +kernel
theorem dX2_init_34 : decode (mc mX2_init) 34 = .ok (.newarray .int, 2) := by decide +kernel
theorem dX2_init_36 : decode (mc mX2_init) 36 = .ok (.putfield 24, 3) := by decide +kernel
theorem dX2_init_39 : decode (mc mX2_init) 39 = .ok (.aload_n 0, 1) := by decide +kernel
theorem dX2_init_40 : decode (mc mX2_init) 40 = .ok (.aload_n 1, 1) := by decide +kernel
theorem dX2_init_41 : decode (mc mX2_init) 41 = .ok (.putfield 27, 3) := by decide +kernel
theorem dX2_init_44 : decode (mc mX2_init) 44 = .ok (.return_, 1) := by decide +kernel
theorem dX2_begin_0 : decode (mc mX2_begin) 0 = .ok (.aload_n 0, 1) := by decide +kernel
theorem dX2_begin_1 : decode (mc mX2_begin) 1 = .ok (.getfield 27, 3) := by decide +kernel
theorem dX2_begin_4 : decode (mc mX2_begin) 4 = .ok (.getfield 31, 3) := by decide +kernel
theorem dX2_begin_7 : decode (mc mX2_begin) 7 = .ok (.iconst 0, 1) := by decide +kernel
theorem dX2_begin_8 : decode (mc mX2_begin) 8 = .ok (.aload_n 0, 1) := by decide +kernel
theorem dX2_begin_9 : decode (mc mX2_begin) 9 = .ok (.getfield 9, 3) := by decide +kernel
theorem dX2_begin_12 : decode (mc mX2_begin) 12 = .ok (.iconst 0, 1) := by decide +kernel
theorem dX2_begin_13 : decode (mc mX2_begin) 13 = .ok (.iconst 5, 1) := by decide +kernel
theorem dX2_begin_14 : decode (mc mX2_begin) 14 = .ok (.invokestatic 36, 3) := by decide +kernel
theorem dX2_begin_17 : decode (mc mX2_begin) 17 = .ok (.return_, 1) := by decide +kernel
theorem dX2_ask_0 : decode (mc mX2_ask) 0 = .ok (.aload_n 0, 1) := by decide +kernel
theorem dX2_ask_1 : decode (mc mX2_ask) 1 = .ok (.getfield 15, 3) := by decide +kernel
theorem dX2_ask_4 : decode (mc mX2_ask) 4 = .ok (.iconst 0, 1) := by decide +kernel
theorem dX2_ask_5 : decode (mc mX2_ask) 5 = .ok (.invokestatic 42, 3) := by decide +kernel
theorem dX2_ask_8 : decode (mc mX2_ask) 8 = .ok (.iconst 0, 1) := by decide +kernel
theorem dX2_ask_9 : decode (mc mX2_ask) 9 = .ok (.istore_n 1, 1) := by decide +kernel
theorem dX2_ask_10 : decode (mc mX2_ask) 10 = .ok (.iload_n 1, 1) := by decide +kernel
theorem dX2_ask_11 : decode (mc mX2_ask) 11 = .ok (.aload_n 0, 1) := by decide +kernel
theorem dX2_ask_12 : decode (mc mX2_ask) 12 = .ok (.getfield 27, 3) := by decide +kernel
theorem dX2_ask_15 : decode (mc mX2_ask) 15 = .ok (.getfield 48, 3) := by decide +kernel
theorem dX2_ask_18 : decode (mc mX2_ask) 18 = .ok (.if_icmp .ge 95, 3) := by decide +kernel
theorem dX2_ask_21 : decode (mc mX2_ask) 21 = .ok (.aload_n 0, 1) := by decide +kernel
theorem dX2_ask_22 : decode (mc mX2_ask) 22 = .ok (.getfield 27, 3) := by decide +kernel
theorem dX2_ask_25 : decode (mc mX2_ask) 25 = .ok (.getfield 52, 3) := by decide +kernel
theorem dX2_ask_28 : decode (mc mX2_ask) 28 = .ok (.iload_n 1, 1) := by decide +kernel
theorem dX2_ask_29 : decode (mc mX2_ask) 29 = .ok (.aaload, 1) := by decide +kernel
theorem dX2_ask_30 : decode (mc mX2_ask) 30 = .ok (.astore_n 2, 1) := by decide +kernel
theorem dX2_ask_31 : decode (mc mX2_ask) 31 = .ok (.aload_n 0, 1) := by decide +kernel
theorem dX2_ask_32 : decode (mc mX2_ask) 32 = .ok (.getfield 18, 3) := by decide +kernel
theorem dX2_ask_35 : decode (mc mX2_ask) 35 = .ok (.iload_n 1, 1) := by decide +kernel
theorem dX2_ask_36 : decode (mc mX2_ask) 36 = .ok (.iconst 0, 1) := by decide +kernel
theorem dX2_ask_37 : decode (mc mX2_ask) 37 = .ok (.iastore, 1) := by decide +kernel
theorem dX2_ask_38 : decode (mc mX2_ask) 38 = .ok (.aload_n 0, 1) := by decide +kernel
theorem dX2_ask_39 : decode (mc mX2_ask) 39 = .ok (.getfield 21, 3) := by decide +kernel
theorem dX2_ask_42 : decode (mc mX2_ask) 42 = .ok (.iload_n 1, 1) := by decide +kernel
theorem dX2_ask_43 : decode (mc mX2_ask) 43 = .ok (.ldc 56, 2) := by decide +kernel
theorem dX2_ask_45 : decode (mc mX2_ask) 45 = .ok (.iastore, 1) := by decide +kernel
theorem dX2_ask_46 : decode (mc mX2_ask) 46 = .ok (.iconst 0, 1) := by decide +kernel
theorem dX2_ask_47 : decode (mc mX2_ask) 47 = .ok (.istore_n 3, 1) := by decide +kernel
theorem dX2_ask_48 : decode (mc mX2_ask) 48 = .ok (.iload_n 3, 1) := by decide +kernel
theorem dX2_ask_49 : decode (mc mX2_ask) 49 = .ok (.iconst 1, 1) := by decide +kernel
theorem dX2_ask_50 : decode (mc mX2_ask) 50 = .ok (.aload_n 0, 1) := by decide +kernel
theorem dX2_ask_51 : decode (mc mX2_ask) 51 = .ok (.getfield 27, 3) := by decide +kernel
theorem dX2_ask_54 : decode (mc mX2_ask) 54 = .ok (.getfield 57, 3) := by decide +kernel
theorem dX2_ask_57 : decode (mc mX2_ask) 57 = .ok (.ishl, 1) := by decide +kernel
theorem dX2_ask_58 : decode (mc mX2_ask) 58 = .ok (.if_icmp .ge 43, 3) := by decide +kernel
theorem dX2_ask_61 : decode (mc mX2_ask) 61 = .ok (.aload_n 0, 1) := by decide +kernel
theorem dX2_ask_62 : decode (mc mX2_ask) 62 = .ok (.aload_n 2, 1) := by decide +kernel
theorem dX2_ask_63 : decode (mc mX2_ask) 63 = .ok (.iload_n 3, 1) := by decide +kernel
theorem dX2_ask_64 : decode (mc mX2_ask) 64 = .ok (.invokevirtual 60, 3) := by decide +kernel
theorem dX2_ask_67 : decode (mc mX2_ask) 67 = .ok (.istore 4, 2) := by decide +kernel
theorem dX2_ask_69 : decode (mc mX2_ask) 69 = .ok (.iload 4, 2) := by decide +kernel
theorem dX2_ask_71 : decode (mc mX2_ask) 71 = .ok (.aload_n 0, 1) := by decide +kernel
theorem dX2_ask_72 : decode (mc mX2_ask) 72 = .ok (.getfield 21, 3) := by decide +kernel
theorem dX2_ask_75 : decode (mc mX2_ask) 75 = .ok (.iload_n 1, 1) := by decide +kernel
theorem dX2_ask_76 : decode (mc mX2_ask) 76 = .ok (.iaload, 1) := by decide +kernel
theorem dX2_ask_77 : decode (mc mX2_ask) 77 = .ok (.if_icmp .ge 18, 3) := by decide +kernel
theorem dX2_ask_80 : decode (mc mX2_ask) 80 = .ok (.aload_n 0, 1) := by decide +kernel
theorem dX2_ask_81 : decode (mc mX2_ask) 81 = .ok (.getfield 21, 3) := by decide +kernel
theorem dX2_ask_84 : decode (mc mX2_ask) 84 = .ok (.iload_n 1, 1) := by decide +kernel
theorem dX2_ask_85 : decode (mc mX2_ask) 85 = .ok (.iload 4, 2) := by decide +kernel
theorem dX2_ask_87 : decode (mc mX2_ask) 87 = .ok (.iastore, 1) := by decide +kernel
theorem dX2_ask_88 : decode (mc mX2_ask) 88 = .ok (.aload_n 0, 1) := by decide +kernel
theorem dX2_ask_89 : decode (mc mX2_ask) 89 = .ok (.getfield 18, 3) := by decide +kernel
theorem dX2_ask_92 : decode (mc mX2_ask) 92 = .ok (.iload_n 1, 1) := by decide +kernel
theorem dX2_ask_93 : decode (mc mX2_ask) 93 = .ok (.iload_n 3, 1) := by decide +kernel
theorem dX2_ask_94 : decode (mc mX2_ask) 94 = .ok (.iastore, 1) := by decide +kernel
theorem dX2_ask_95 : decode (mc mX2_ask) 95 = .ok (.iinc 3 1, 3) := by decide +kernel
theorem dX2_ask_98 : decode (mc mX2_ask) 98 = .ok (.goto (-50), 3) := by decide +kernel
theorem dX2_ask_101 : decode (mc mX2_ask) 101 = .ok (.aload_n 0, 1) := by decide +kernel
theorem dX2_ask_102 : decode (mc mX2_ask) 102 = .ok (.aload_n 2, 1) := by decide +kernel
theorem dX2_ask_103 : decode (mc mX2_ask) 103 = .ok (.iload_n 1, 1) := by decide +kernel
theorem dX2_ask_104 : decode (mc mX2_ask) 104 = .ok (.invokevirtual 64, 3) := by decide +kernel
theorem dX2_ask_107 : decode (mc mX2_ask) 107 = .ok (.iinc 1 1, 3) := by decide +kernel
theorem dX2_ask_110 : decode (mc mX2_ask) 110 = .ok (.goto (-100), 3) := by decide +kernel
theorem dX2_ask_113 : decode (mc mX2_ask) 113 = .ok (.return_, 1) := by decide +kernel
theorem dX2_netOf_0 : decode (mc mX2_netOf) 0 = .ok (.iconst 0, 1) := by decide +kernel
theorem dX2_netOf_1 : decode (mc mX2_netOf) 1 = .ok (.istore_n 3, 1) := by decide +kernel
theorem dX2_netOf_2 : decode (mc mX2_netOf) 2 = .ok (.aload_n 1, 1) := by decide +kernel
theorem dX2_netOf_3 : decode (mc mX2_netOf) 3 = .ok (.getfield 68, 3) := by decide +kernel
theorem dX2_netOf_6 : decode (mc mX2_netOf) 6 = .ok (.istore 4, 2) := by decide +kernel
theorem dX2_netOf_8 : decode (mc mX2_netOf) 8 = .ok (.iconst 0, 1) := by decide +kernel
theorem dX2_netOf_9 : decode (mc mX2_netOf) 9 = .ok (.istore 5, 2) := by decide +kernel
theorem dX2_netOf_11 : decode (mc mX2_netOf) 11 = .ok (.iload 5, 2) := by decide +kernel
theorem dX2_netOf_13 : decode (mc mX2_netOf) 13 = .ok (.aload_n 0, 1) := by decide +kernel
theorem dX2_netOf_14 : decode (mc mX2_netOf) 14 = .ok (.getfield 27, 3) := by decide +kernel
theorem dX2_netOf_17 : decode (mc mX2_netOf) 17 = .ok (.getfield 57, 3) := by decide +kernel
theorem dX2_netOf_20 : decode (mc mX2_netOf) 20 = .ok (.if_icmp .ge 110, 3) := by decide +kernel
theorem dX2_netOf_23 : decode (mc mX2_netOf) 23 = .ok (.iload_n 2, 1) := by decide +kernel
theorem dX2_netOf_24 : decode (mc mX2_netOf) 24 = .ok (.iload 5, 2) := by decide +kernel
theorem dX2_netOf_26 : decode (mc mX2_netOf) 26 = .ok (.ishr, 1) := by decide +kernel
theorem dX2_netOf_27 : decode (mc mX2_netOf) 27 = .ok (.iconst 1, 1) := by decide +kernel
theorem dX2_netOf_28 : decode (mc mX2_netOf) 28 = .ok (.iand, 1) := by decide +kernel
theorem dX2_netOf_29 : decode (mc mX2_netOf) 29 = .ok (.iconst 1, 1) := by decide +kernel
theorem dX2_netOf_30 : decode (mc mX2_netOf) 30 = .ok (.if_icmp .ne 7, 3) := by decide +kernel
theorem dX2_netOf_33 : decode (mc mX2_netOf) 33 = .ok (.iconst 1, 1) := by decide +kernel
theorem dX2_netOf_34 : decode (mc mX2_netOf) 34 = .ok (.goto 4, 3) := by decide +kernel
theorem dX2_netOf_37 : decode (mc mX2_netOf) 37 = .ok (.iconst 0, 1) := by decide +kernel
theorem dX2_netOf_38 : decode (mc mX2_netOf) 38 = .ok (.istore 6, 2) := by decide +kernel
theorem dX2_netOf_40 : decode (mc mX2_netOf) 40 = .ok (.aload_n 1, 1) := by decide +kernel
theorem dX2_netOf_41 : decode (mc mX2_netOf) 41 = .ok (.iload 4, 2) := by decide +kernel
theorem dX2_netOf_43 : decode (mc mX2_netOf) 43 = .ok (.iload 6, 2) := by decide +kernel
theorem dX2_netOf_45 : decode (mc mX2_netOf) 45 = .ok (.invokevirtual 73, 3) := by decide +kernel
theorem dX2_netOf_48 : decode (mc mX2_netOf) 48 = .ok (.istore 7, 2) := by decide +kernel
theorem dX2_netOf_50 : decode (mc mX2_netOf) 50 = .ok (.iload 7, 2) := by decide +kernel
theorem dX2_netOf_52 : decode (mc mX2_netOf) 52 = .ok (.ifCond .ne 6, 3) := by decide +kernel
theorem dX2_netOf_55 : decode (mc mX2_netOf) 55 = .ok (.ldc 56, 2) := by decide +kernel
theorem dX2_netOf_57 : decode (mc mX2_netOf) 57 = .ok (.ireturn, 1) := by decide +kernel
theorem dX2_netOf_58 : decode (mc mX2_netOf) 58 = .ok (.iload 6, 2) := by decide +kernel
theorem dX2_netOf_60 : decode (mc mX2_netOf) 60 = .ok (.ifCond .eq 60, 3) := by decide +kernel
theorem dX2_netOf_63 : decode (mc mX2_netOf) 63 = .ok (.iload_n 3, 1) := by decide +kernel
theorem dX2_netOf_64 : decode (mc mX2_netOf) 64 = .ok (.aload_n 1, 1) := by decide +kernel
theorem dX2_netOf_65 : decode (mc mX2_netOf) 65 = .ok (.getfield 77, 3) := by decide +kernel
theorem dX2_netOf_68 : decode (mc mX2_netOf) 68 = .ok (.aload_n 0, 1) := by decide +kernel
theorem dX2_netOf_69 : decode (mc mX2_netOf) 69 = .ok (.aload_n 1, 1) := by decide +kernel
theorem dX2_netOf_70 : decode (mc mX2_netOf) 70 = .ok (.iload 5, 2) := by decide +kernel
theorem dX2_netOf_72 : decode (mc mX2_netOf) 72 = .ok (.iload 4, 2) := by decide +kernel
theorem dX2_netOf_74 : decode (mc mX2_netOf) 74 = .ok (.ifCond .ge 7, 3) := by decide +kernel
theorem dX2_netOf_77 : decode (mc mX2_netOf) 77 = .ok (.iconst 1, 1) := by decide +kernel
theorem dX2_netOf_78 : decode (mc mX2_netOf) 78 = .ok (.goto 4, 3) := by decide +kernel
theorem dX2_netOf_81 : decode (mc mX2_netOf) 81 = .ok (.iconst 0, 1) := by decide +kernel
theorem dX2_netOf_82 : decode (mc mX2_netOf) 82 = .ok (.invokevirtual 80, 3) := by decide +kernel
theorem dX2_netOf_85 : decode (mc mX2_netOf) 85 = .ok (.aload_n 1, 1) := by decide +kernel
theorem dX2_netOf_86 : decode (mc mX2_netOf) 86 = .ok (.getfield 84, 3) := by decide +kernel
theorem dX2_netOf_89 : decode (mc mX2_netOf) 89 = .ok (.aload_n 0, 1) := by decide +kernel
theorem dX2_netOf_90 : decode (mc mX2_netOf) 90 = .ok (.getfield 9, 3) := by decide +kernel
theorem dX2_netOf_93 : decode (mc mX2_netOf) 93 = .ok (.iload 5, 2) := by decide +kernel
theorem dX2_netOf_95 : decode (mc mX2_netOf) 95 = .ok (.iaload, 1) := by decide +kernel
theorem dX2_netOf_96 : decode (mc mX2_netOf) 96 = .ok (.isub, 1) := by decide +kernel
theorem dX2_netOf_97 : decode (mc mX2_netOf) 97 = .ok (.imul, 1) := by decide +kernel
theorem dX2_netOf_98 : decode (mc mX2_netOf) 98 = .ok (.iadd, 1) := by decide +kernel
theorem dX2_netOf_99 : decode (mc mX2_netOf) 99 = .ok (.iadd, 1) := by decide +kernel
theorem dX2_netOf_100 : decode (mc mX2_netOf) 100 = .ok (.istore_n 3, 1) := by decide +kernel
theorem dX2_netOf_101 : decode (mc mX2_netOf) 101 = .ok (.iload_n 3, 1) := by decide +kernel
theorem dX2_netOf_102 : decode (mc mX2_netOf) 102 = .ok (.iload 4, 2) := by decide +kernel
theorem dX2_netOf_104 : decode (mc mX2_netOf) 104 = .ok (.ifCond .ge 13, 3) := by decide +kernel
theorem dX2_netOf_107 : decode (mc mX2_netOf) 107 = .ok (.aload_n 1, 1) := by decide +kernel
theorem dX2_netOf_108 : decode (mc mX2_netOf) 108 = .ok (.iload 4, 2) := by decide +kernel
theorem dX2_netOf_110 : decode (mc mX2_netOf) 110 = .ok (.ineg, 1) := by decide +kernel
theorem dX2_netOf_111 : decode (mc mX2_netOf) 111 = .ok (.invokevirtual 86, 3) := by decide +kernel
theorem dX2_netOf_114 : decode (mc mX2_netOf) 114 = .ok (.goto 4, 3) := by decide +kernel
theorem dX2_netOf_117 : decode (mc mX2_netOf) 117 = .ok (.iconst 0, 1) := by decide +kernel
theorem dX2_netOf_118 : decode (mc mX2_netOf) 118 = .ok (.iadd, 1) := by decide +kernel
theorem dX2_netOf_119 : decode (mc mX2_netOf) 119 = .ok (.istore_n 3, 1) := by decide +kernel
theorem dX2_netOf_120 : decode (mc mX2_netOf) 120 = .ok (.iload 7, 2) := by decide +kernel
theorem dX2_netOf_122 : decode (mc mX2_netOf) 122 = .ok (.istore 4, 2) := by decide +kernel
theorem dX2_netOf_124 : decode (mc mX2_netOf) 124 = .ok (.iinc 5 1, 3) := by decide +kernel
theorem dX2_netOf_127 : decode (mc mX2_netOf) 127 = .ok (.goto (-116), 3) := by decide +kernel
theorem dX2_netOf_130 : decode (mc mX2_netOf) 130 = .ok (.iload_n 3, 1) := by decide +kernel
theorem dX2_netOf_131 : decode (mc mX2_netOf) 131 = .ok (.ireturn, 1) := by decide +kernel
theorem dX2_amountAt_0 : decode (mc mX2_amountAt) 0 = .ok (.aload_n 0, 1) := by decide +kernel
theorem dX2_amountAt_1 : decode (mc mX2_amountAt) 1 = .ok (.getfield 9, 3) := by decide +kernel
theorem dX2_amountAt_4 : decode (mc mX2_amountAt) 4 = .ok (.iload_n 2, 1) := by decide +kernel
theorem dX2_amountAt_5 : decode (mc mX2_amountAt) 5 = .ok (.iaload, 1) := by decide +kernel
theorem dX2_amountAt_6 : decode (mc mX2_amountAt) 6 = .ok (.aload_n 1, 1) := by decide +kernel
theorem dX2_amountAt_7 : decode (mc mX2_amountAt) 7 = .ok (.getfield 84, 3) := by decide +kernel
theorem dX2_amountAt_10 : decode (mc mX2_amountAt) 10 = .ok (.if_icmp .le 11, 3) := by decide +kernel
theorem dX2_amountAt_13 : decode (mc mX2_amountAt) 13 = .ok (.aload_n 1, 1) := by decide +kernel
theorem dX2_amountAt_14 : decode (mc mX2_amountAt) 14 = .ok (.iload_n 3, 1) := by decide +kernel
theorem dX2_amountAt_15 : decode (mc mX2_amountAt) 15 = .ok (.invokevirtual 90, 3) := by decide +kernel
theorem dX2_amountAt_18 : decode (mc mX2_amountAt) 18 = .ok (.goto 7, 3) := by decide +kernel
theorem dX2_amountAt_21 : decode (mc mX2_amountAt) 21 = .ok (.aload_n 1, 1) := by decide +kernel
theorem dX2_amountAt_22 : decode (mc mX2_amountAt) 22 = .ok (.invokevirtual 94, 3) := by decide +kernel
theorem dX2_amountAt_25 : decode (mc mX2_amountAt) 25 = .ok (.ireturn, 1) := by decide +kernel
theorem dX2_addAmounts_0 : decode (mc mX2_addAmounts) 0 = .ok (.aload_n 0, 1) := by decide +kernel
theorem dX2_addAmounts_1 : decode (mc mX2_addAmounts) 1 = .ok (.getfield 24, 3) := by decide +kernel
theorem dX2_addAmounts_4 : decode (mc mX2_addAmounts) 4 = .ok (.iload_n 2, 1) := by decide +kernel
theorem dX2_addAmounts_5 : decode (mc mX2_addAmounts) 5 = .ok (.iconst 0, 1) := by decide +kernel
theorem dX2_addAmounts_6 : decode (mc mX2_addAmounts) 6 = .ok (.iastore, 1) := by decide +kernel
theorem dX2_addAmounts_7 : decode (mc mX2_addAmounts) 7 = .ok (.aload_n 1, 1) := by decide +kernel
theorem dX2_addAmounts_8 : decode (mc mX2_addAmounts) 8 = .ok (.getfield 68, 3) := by decide +kernel
theorem dX2_addAmounts_11 : decode (mc mX2_addAmounts) 11 = .ok (.ifCond .le 7, 3) := by decide +kernel
theorem dX2_addAmounts_14 : decode (mc mX2_addAmounts) 14 = .ok (.iconst 1, 1) := by decide +kernel
theorem dX2_addAmounts_15 : decode (mc mX2_addAmounts) 15 = .ok (.goto 4, 3) := by decide +kernel
theorem dX2_addAmounts_18 : decode (mc mX2_addAmounts) 18 = .ok (.iconst 0, 1) := by decide +kernel
theorem dX2_addAmounts_19 : decode (mc mX2_addAmounts) 19 = .ok (.istore_n 3, 1) := by decide +kernel
theorem dX2_addAmounts_20 : decode (mc mX2_addAmounts) 20 = .ok (.iconst 0, 1) := by decide +kernel
theorem dX2_addAmounts_21 : decode (mc mX2_addAmounts) 21 = .ok (.istore 4, 2) := by decide +kernel
theorem dX2_addAmounts_23 : decode (mc mX2_addAmounts) 23 = .ok (.iload 4, 2) := by decide +kernel
theorem dX2_addAmounts_25 : decode (mc mX2_addAmounts) 25 = .ok (.aload_n 0, 1) := by decide +kernel
theorem dX2_addAmounts_26 : decode (mc mX2_addAmounts) 26 = .ok (.getfield 27, 3) := by decide +kernel
theorem dX2_addAmounts_29 : decode (mc mX2_addAmounts) 29 = .ok (.getfield 57, 3) := by decide +kernel
theorem dX2_addAmounts_32 : decode (mc mX2_addAmounts) 32 = .ok (.if_icmp .ge 80, 3) := by decide +kernel
theorem dX2_addAmounts_35 : decode (mc mX2_addAmounts) 35 = .ok (.aload_n 0, 1) := by decide +kernel
theorem dX2_addAmounts_36 : decode (mc mX2_addAmounts) 36 = .ok (.getfield 18, 3) := by decide +kernel
theorem dX2_addAmounts_39 : decode (mc mX2_addAmounts) 39 = .ok (.iload_n 2, 1) := by decide +kernel
theorem dX2_addAmounts_40 : decode (mc mX2_addAmounts) 40 = .ok (.iaload, 1) := by decide +kernel
theorem dX2_addAmounts_41 : decode (mc mX2_addAmounts) 41 = .ok (.iload 4, 2) := by decide +kernel
theorem dX2_addAmounts_43 : decode (mc mX2_addAmounts) 43 = .ok (.ishr, 1) := by decide +kernel
theorem dX2_addAmounts_44 : decode (mc mX2_addAmounts) 44 = .ok (.iconst 1, 1) := by decide +kernel
theorem dX2_addAmounts_45 : decode (mc mX2_addAmounts) 45 = .ok (.iand, 1) := by decide +kernel
theorem dX2_addAmounts_46 : decode (mc mX2_addAmounts) 46 = .ok (.iconst 1, 1) := by decide +kernel
theorem dX2_addAmounts_47 : decode (mc mX2_addAmounts) 47 = .ok (.if_icmp .ne 7, 3) := by decide +kernel
theorem dX2_addAmounts_50 : decode (mc mX2_addAmounts) 50 = .ok (.iconst 1, 1) := by decide +kernel
theorem dX2_addAmounts_51 : decode (mc mX2_addAmounts) 51 = .ok (.goto 4, 3) := by decide +kernel
theorem dX2_addAmounts_54 : decode (mc mX2_addAmounts) 54 = .ok (.iconst 0, 1) := by decide +kernel
theorem dX2_addAmounts_55 : decode (mc mX2_addAmounts) 55 = .ok (.istore 5, 2) := by decide +kernel
theorem dX2_addAmounts_57 : decode (mc mX2_addAmounts) 57 = .ok (.iload 5, 2) := by decide +kernel
theorem dX2_addAmounts_59 : decode (mc mX2_addAmounts) 59 = .ok (.ifCond .eq 44, 3) := by decide +kernel
theorem dX2_addAmounts_62 : decode (mc mX2_addAmounts) 62 = .ok (.aload_n 0, 1) := by decide +kernel
theorem dX2_addAmounts_63 : decode (mc mX2_addAmounts) 63 = .ok (.aload_n 1, 1) := by decide +kernel
theorem dX2_addAmounts_64 : decode (mc mX2_addAmounts) 64 = .ok (.iload 4, 2) := by decide +kernel
theorem dX2_addAmounts_66 : decode (mc mX2_addAmounts) 66 = .ok (.iload_n 3, 1) := by decide +kernel
theorem dX2_addAmounts_67 : decode (mc mX2_addAmounts) 67 = .ok (.ifCond .ne 7, 3) := by decide +kernel
theorem dX2_addAmounts_70 : decode (mc mX2_addAmounts) 70 = .ok (.iconst 1, 1) := by decide +kernel
theorem dX2_addAmounts_71 : decode (mc mX2_addAmounts) 71 = .ok (.goto 4, 3) := by decide +kernel
theorem dX2_addAmounts_74 : decode (mc mX2_addAmounts) 74 = .ok (.iconst 0, 1) := by decide +kernel
theorem dX2_addAmounts_75 : decode (mc mX2_addAmounts) 75 = .ok (.invokevirtual 80, 3) := by decide +kernel
theorem dX2_addAmounts_78 : decode (mc mX2_addAmounts) 78 = .ok (.istore 6, 2) := by decide +kernel
theorem dX2_addAmounts_80 : decode (mc mX2_addAmounts) 80 = .ok (.aload_n 0, 1) := by decide +kernel
theorem dX2_addAmounts_81 : decode (mc mX2_addAmounts) 81 = .ok (.getfield 24, 3) := by decide +kernel
theorem dX2_addAmounts_84 : decode (mc mX2_addAmounts) 84 = .ok (.iload_n 2, 1) := by decide +kernel
theorem dX2_addAmounts_85 : decode (mc mX2_addAmounts) 85 = .ok (.dup2, 1) := by decide +kernel
theorem dX2_addAmounts_86 : decode (mc mX2_addAmounts) 86 = .ok (.iaload, 1) := by decide +kernel
theorem dX2_addAmounts_87 : decode (mc mX2_addAmounts) 87 = .ok (.iload 6, 2) := by decide +kernel
theorem dX2_addAmounts_89 : decode (mc mX2_addAmounts) 89 = .ok (.iadd, 1) := by decide +kernel
theorem dX2_addAmounts_90 : decode (mc mX2_addAmounts) 90 = .ok (.iastore, 1) := by decide +kernel
theorem dX2_addAmounts_91 : decode (mc mX2_addAmounts) 91 = .ok (.aload_n 0, 1) := by decide +kernel
theorem dX2_addAmounts_92 : decode (mc mX2_addAmounts) 92 = .ok (.getfield 15, 3) := by decide +kernel
theorem dX2_addAmounts_95 : decode (mc mX2_addAmounts) 95 = .ok (.iload 4, 2) := by decide +kernel
theorem dX2_addAmounts_97 : decode (mc mX2_addAmounts) 97 = .ok (.dup2, 1) := by decide +kernel
theorem dX2_addAmounts_98 : decode (mc mX2_addAmounts) 98 = .ok (.iaload, 1) := by decide +kernel
theorem dX2_addAmounts_99 : decode (mc mX2_addAmounts) 99 = .ok (.iload 6, 2) := by decide +kernel
theorem dX2_addAmounts_101 : decode (mc mX2_addAmounts) 101 = .ok (.iadd, 1) := by decide +kernel
theorem dX2_addAmounts_102 : decode (mc mX2_addAmounts) 102 = .ok (.iastore, 1) := by decide +kernel
theorem dX2_addAmounts_103 : decode (mc mX2_addAmounts) 103 = .ok (.iload 5, 2) := by decide +kernel
theorem dX2_addAmounts_105 : decode (mc mX2_addAmounts) 105 = .ok (.istore_n 3, 1) := by decide +kernel
theorem dX2_addAmounts_106 : decode (mc mX2_addAmounts) 106 = .ok (.iinc 4 1, 3) := by decide +kernel
theorem dX2_addAmounts_109 : decode (mc mX2_addAmounts) 109 = .ok (.goto (-86), 3) := by decide +kernel
theorem dX2_addAmounts_112 : decode (mc mX2_addAmounts) 112 = .ok (.return_, 1) := by decide +kernel
theorem dX2_boundNow_0 : decode (mc mX2_boundNow) 0 = .ok (.iconst 0, 1) := by decide +kernel
theorem dX2_boundNow_1 : decode (mc mX2_boundNow) 1 = .ok (.istore_n 1, 1) := by decide +kernel
theorem dX2_boundNow_2 : decode (mc mX2_boundNow) 2 = .ok (.iconst 0, 1) := by decide +kernel
theorem dX2_boundNow_3 : decode (mc mX2_boundNow) 3 = .ok (.istore_n 2, 1) := by decide +kernel
theorem dX2_boundNow_4 : decode (mc mX2_boundNow) 4 = .ok (.iload_n 2, 1) := by decide +kernel
theorem dX2_boundNow_5 : decode (mc mX2_boundNow) 5 = .ok (.aload_n 0, 1) := by decide +kernel
theorem dX2_boundNow_6 : decode (mc mX2_boundNow) 6 = .ok (.getfield 27, 3) := by decide +kernel
theorem dX2_boundNow_9 : decode (mc mX2_boundNow) 9 = .ok (.getfield 57, 3) := by decide +kernel
theorem dX2_boundNow_12 : decode (mc mX2_boundNow) 12 = .ok (.if_icmp .ge 28, 3) := by decide +kernel
theorem dX2_boundNow_15 : decode (mc mX2_boundNow) 15 = .ok (.iload_n 1, 1) := by decide +kernel
theorem dX2_boundNow_16 : decode (mc mX2_boundNow) 16 = .ok (.aload_n 0, 1) := by decide +kernel
theorem dX2_boundNow_17 : decode (mc mX2_boundNow) 17 = .ok (.getfield 9, 3) := by decide +kernel
theorem dX2_boundNow_20 : decode (mc mX2_boundNow) 20 = .ok (.iload_n 2, 1) := by decide +kernel
theorem dX2_boundNow_21 : decode (mc mX2_boundNow) 21 = .ok (.iaload, 1) := by decide +kernel
theorem dX2_boundNow_22 : decode (mc mX2_boundNow) 22 = .ok (.aload_n 0, 1) := by decide +kernel
theorem dX2_boundNow_23 : decode (mc mX2_boundNow) 23 = .ok (.getfield 27, 3) := by decide +kernel
theorem dX2_boundNow_26 : decode (mc mX2_boundNow) 26 = .ok (.getfield 98, 3) := by decide +kernel
theorem dX2_boundNow_29 : decode (mc mX2_boundNow) 29 = .ok (.iload_n 2, 1) := by decide +kernel
theorem dX2_boundNow_30 : decode (mc mX2_boundNow) 30 = .ok (.iaload, 1) := by decide +kernel
theorem dX2_boundNow_31 : decode (mc mX2_boundNow) 31 = .ok (.imul, 1) := by decide +kernel
theorem dX2_boundNow_32 : decode (mc mX2_boundNow) 32 = .ok (.iadd, 1) := by decide +kernel
theorem dX2_boundNow_33 : decode (mc mX2_boundNow) 33 = .ok (.istore_n 1, 1) := by decide +kernel
theorem dX2_boundNow_34 : decode (mc mX2_boundNow) 34 = .ok (.iinc 2 1, 3) := by decide +kernel
theorem dX2_boundNow_37 : decode (mc mX2_boundNow) 37 = .ok (.goto (-33), 3) := by decide +kernel
theorem dX2_boundNow_40 : decode (mc mX2_boundNow) 40 = .ok (.iconst 0, 1) := by decide +kernel
theorem dX2_boundNow_41 : decode (mc mX2_boundNow) 41 = .ok (.istore_n 2, 1) := by decide +kernel
theorem dX2_boundNow_42 : decode (mc mX2_boundNow) 42 = .ok (.iload_n 2, 1) := by decide +kernel
theorem dX2_boundNow_43 : decode (mc mX2_boundNow) 43 = .ok (.aload_n 0, 1) := by decide +kernel
theorem dX2_boundNow_44 : decode (mc mX2_boundNow) 44 = .ok (.getfield 27, 3) := by decide +kernel
theorem dX2_boundNow_47 : decode (mc mX2_boundNow) 47 = .ok (.getfield 48, 3) := by decide +kernel
theorem dX2_boundNow_50 : decode (mc mX2_boundNow) 50 = .ok (.if_icmp .ge 18, 3) := by decide +kernel
theorem dX2_boundNow_53 : decode (mc mX2_boundNow) 53 = .ok (.iload_n 1, 1) := by decide +kernel
theorem dX2_boundNow_54 : decode (mc mX2_boundNow) 54 = .ok (.aload_n 0, 1) := by decide +kernel
theorem dX2_boundNow_55 : decode (mc mX2_boundNow) 55 = .ok (.getfield 21, 3) := by decide +kernel
theorem dX2_boundNow_58 : decode (mc mX2_boundNow) 58 = .ok (.iload_n 2, 1) := by decide +kernel
theorem dX2_boundNow_59 : decode (mc mX2_boundNow) 59 = .ok (.iaload, 1) := by decide +kernel
theorem dX2_boundNow_60 : decode (mc mX2_boundNow) 60 = .ok (.iadd, 1) := by decide +kernel
theorem dX2_boundNow_61 : decode (mc mX2_boundNow) 61 = .ok (.istore_n 1, 1) := by decide +kernel
theorem dX2_boundNow_62 : decode (mc mX2_boundNow) 62 = .ok (.iinc 2 1, 3) := by decide +kernel
theorem dX2_boundNow_65 : decode (mc mX2_boundNow) 65 = .ok (.goto (-23), 3) := by decide +kernel
theorem dX2_boundNow_68 : decode (mc mX2_boundNow) 68 = .ok (.iload_n 1, 1) := by decide +kernel
theorem dX2_boundNow_69 : decode (mc mX2_boundNow) 69 = .ok (.ireturn, 1) := by decide +kernel
theorem dX2_run_0 : decode (mc mX2_run) 0 = .ok (.aload_n 0, 1) := by decide +kernel
theorem dX2_run_1 : decode (mc mX2_run) 1 = .ok (.invokevirtual 101, 3) := by decide +kernel
theorem dX2_run_4 : decode (mc mX2_run) 4 = .ok (.aload_n 0, 1) := by decide +kernel
theorem dX2_run_5 : decode (mc mX2_run) 5 = .ok (.invokevirtual 104, 3) := by decide +kernel
theorem dX2_run_8 : decode (mc mX2_run) 8 = .ok (.aload_n 0, 1) := by decide +kernel
theorem dX2_run_9 : decode (mc mX2_run) 9 = .ok (.invokevirtual 107, 3) := by decide +kernel
theorem dX2_run_12 : decode (mc mX2_run) 12 = .ok (.istore_n 2, 1) := by decide +kernel
theorem dX2_run_13 : decode (mc mX2_run) 13 = .ok (.iconst 1, 1) := by decide +kernel
theorem dX2_run_14 : decode (mc mX2_run) 14 = .ok (.istore_n 3, 1) := by decide +kernel
theorem dX2_run_15 : decode (mc mX2_run) 15 = .ok (.iload_n 3, 1) := by decide +kernel
theorem dX2_run_16 : decode (mc mX2_run) 16 = .ok (.iload_n 1, 1) := by decide +kernel
theorem dX2_run_17 : decode (mc mX2_run) 17 = .ok (.if_icmp .gt 99, 3) := by decide +kernel
theorem dX2_run_20 : decode (mc mX2_run) 20 = .ok (.iconst 0, 1) := by decide +kernel
theorem dX2_run_21 : decode (mc mX2_run) 21 = .ok (.istore 4, 2) := by decide +kernel
theorem dX2_run_23 : decode (mc mX2_run) 23 = .ok (.iload 4, 2) := by decide +kernel
theorem dX2_run_25 : decode (mc mX2_run) 25 = .ok (.aload_n 0, 1) := by decide +kernel
theorem dX2_run_26 : decode (mc mX2_run) 26 = .ok (.getfield 27, 3) := by decide +kernel
theorem dX2_run_29 : decode (mc mX2_run) 29 = .ok (.getfield 57, 3) := by decide +kernel
theorem dX2_run_32 : decode (mc mX2_run) 32 = .ok (.if_icmp .ge 65, 3) := by decide +kernel
theorem dX2_run_35 : decode (mc mX2_run) 35 = .ok (.aload_n 0, 1) := by decide +kernel
theorem dX2_run_36 : decode (mc mX2_run) 36 = .ok (.getfield 27, 3) := by decide +kernel
theorem dX2_run_39 : decode (mc mX2_run) 39 = .ok (.getfield 98, 3) := by decide +kernel
theorem dX2_run_42 : decode (mc mX2_run) 42 = .ok (.iload 4, 2) := by decide +kernel
theorem dX2_run_44 : decode (mc mX2_run) 44 = .ok (.iaload, 1) := by decide +kernel
theorem dX2_run_45 : decode (mc mX2_run) 45 = .ok (.aload_n 0, 1) := by decide +kernel
theorem dX2_run_46 : decode (mc mX2_run) 46 = .ok (.getfield 15, 3) := by decide +kernel
theorem dX2_run_49 : decode (mc mX2_run) 49 = .ok (.iload 4, 2) := by decide +kernel
theorem dX2_run_51 : decode (mc mX2_run) 51 = .ok (.iaload, 1) := by decide +kernel
theorem dX2_run_52 : decode (mc mX2_run) 52 = .ok (.isub, 1) := by decide +kernel
theorem dX2_run_53 : decode (mc mX2_run) 53 = .ok (.aload_n 0, 1) := by decide +kernel
theorem dX2_run_54 : decode (mc mX2_run) 54 = .ok (.getfield 27, 3) := by decide +kernel
theorem dX2_run_57 : decode (mc mX2_run) 57 = .ok (.getfield 110, 3) := by decide +kernel
theorem dX2_run_60 : decode (mc mX2_run) 60 = .ok (.imul, 1) := by decide +kernel
theorem dX2_run_61 : decode (mc mX2_run) 61 = .ok (.iload_n 3, 1) := by decide +kernel
theorem dX2_run_62 : decode (mc mX2_run) 62 = .ok (.idiv, 1) := by decide +kernel
theorem dX2_run_63 : decode (mc mX2_run) 63 = .ok (.istore 5, 2) := by decide +kernel
theorem dX2_run_65 : decode (mc mX2_run) 65 = .ok (.aload_n 0, 1) := by decide +kernel
theorem dX2_run_66 : decode (mc mX2_run) 66 = .ok (.getfield 9, 3) := by decide +kernel
theorem dX2_run_69 : decode (mc mX2_run) 69 = .ok (.iload 4, 2) := by decide +kernel
theorem dX2_run_71 : decode (mc mX2_run) 71 = .ok (.iconst 0, 1) := by decide +kernel
theorem dX2_run_72 : decode (mc mX2_run) 72 = .ok (.bipush 99, 2) := by decide +kernel
theorem dX2_run_74 : decode (mc mX2_run) 74 = .ok (.aload_n 0, 1) := by decide +kernel
theorem dX2_run_75 : decode (mc mX2_run) 75 = .ok (.getfield 9, 3) := by decide +kernel
theorem dX2_run_78 : decode (mc mX2_run) 78 = .ok (.iload 4, 2) := by decide +kernel
theorem dX2_run_80 : decode (mc mX2_run) 80 = .ok (.iaload, 1) := by decide +kernel
theorem dX2_run_81 : decode (mc mX2_run) 81 = .ok (.iload 5, 2) := by decide +kernel
theorem dX2_run_83 : decode (mc mX2_run) 83 = .ok (.iadd, 1) := by decide +kernel
theorem dX2_run_84 : decode (mc mX2_run) 84 = .ok (.invokestatic 113, 3) := by decide +kernel
theorem dX2_run_87 : decode (mc mX2_run) 87 = .ok (.invokestatic 119, 3) := by decide +kernel
theorem dX2_run_90 : decode (mc mX2_run) 90 = .ok (.iastore, 1) := by decide +kernel
theorem dX2_run_91 : decode (mc mX2_run) 91 = .ok (.iinc 4 1, 3) := by decide +kernel
theorem dX2_run_94 : decode (mc mX2_run) 94 = .ok (.goto (-71), 3) := by decide +kernel
theorem dX2_run_97 : decode (mc mX2_run) 97 = .ok (.aload_n 0, 1) := by decide +kernel
theorem dX2_run_98 : decode (mc mX2_run) 98 = .ok (.invokevirtual 104, 3) := by decide +kernel
theorem dX2_run_101 : decode (mc mX2_run) 101 = .ok (.iload_n 2, 1) := by decide +kernel
theorem dX2_run_102 : decode (mc mX2_run) 102 = .ok (.aload_n 0, 1) := by decide +kernel
theorem dX2_run_103 : decode (mc mX2_run) 103 = .ok (.invokevirtual 107, 3) := by decide +kernel
theorem dX2_run_106 : decode (mc mX2_run) 106 = .ok (.invokestatic 119, 3) := by decide +kernel
theorem dX2_run_109 : decode (mc mX2_run) 109 = .ok (.istore_n 2, 1) := by decide +kernel
theorem dX2_run_110 : decode (mc mX2_run) 110 = .ok (.iinc 3 1, 3) := by decide +kernel
theorem dX2_run_113 : decode (mc mX2_run) 113 = .ok (.goto (-98), 3) := by decide +kernel
theorem dX2_run_116 : decode (mc mX2_run) 116 = .ok (.iload_n 2, 1) := by decide +kernel
theorem dX2_run_117 : decode (mc mX2_run) 117 = .ok (.ireturn, 1) := by decide +kernel
theorem dX3_init_0 : decode (mc mX3_init) 0 = .ok (.aload_n 0, 1) := by decide +kernel
theorem dX3_init_1 : decode (mc mX3_init) 1 = .ok (.invokespecial 3, 3) := by decide +kernel
theorem dX3_init_4 : decode (mc mX3_init) 4 = .ok (.return_, 1) := by decide +kernel
theorem dX3_begin_0 : decode (mc mX3_begin) 0 = .ok (.aload_n 0, 1) := by decide +kernel
theorem dX3_begin_1 : decode (mc mX3_begin) 1 = .ok (.iload_n 1, 1) := by decide +kernel
theorem dX3_begin_2 : decode (mc mX3_begin) 2 = .ok (.putfield 9, 3) := by decide +kernel
theorem dX3_begin_5 : decode (mc mX3_begin) 5 = .ok (.aload_n 0, 1) := by decide +kernel
theorem dX3_begin_6 : decode (mc mX3_begin) 6 = .ok (.iload_n 2, 1) := by decide +kernel
theorem dX3_begin_7 : decode (mc mX3_begin) 7 = .ok (.putfield 15, 3) := by decide +kernel
theorem dX3_begin_10 : decode (mc mX3_begin) 10 = .ok (.aload_n 0, 1) := by decide +kernel
theorem dX3_begin_11 : decode (mc mX3_begin) 11 = .ok (.iconst 0, 1) := by decide +kernel
theorem dX3_begin_12 : decode (mc mX3_begin) 12 = .ok (.putfield 18, 3) := by decide +kernel
theorem dX3_begin_15 : decode (mc mX3_begin) 15 = .ok (.aload_n 0, 1) := by decide +kernel
theorem dX3_begin_16 : decode (mc mX3_begin) 16 = .ok (.bipush 10, 2) := by decide +kernel
theorem dX3_begin_18 : decode (mc mX3_begin) 18 = .ok (.putfield 21, 3) := by decide +kernel
theorem dX3_begin_21 : decode (mc mX3_begin) 21 = .ok (.aload_n 0, 1) := by decide +kernel
theorem dX3_begin_22 : decode (mc mX3_begin) 22 = .ok (.iconst 1, 1) := by decide +kernel
theorem dX3_begin_23 : decode (mc mX3_begin) 23 = .ok (.putfield 24, 3) := by decide +kernel
theorem dX3_begin_26 : decode (mc mX3_begin) 26 = .ok (.aload_n 0, 1) := by decide +kernel
theorem dX3_begin_27 : decode (mc mX3_begin) 27 = .ok (.iconst 0, 1) := by decide +kernel
theorem dX3_begin_28 : decode (mc mX3_begin) 28 = .ok (.putfield 27, 3) := by decide +kernel
theorem dX3_begin_31 : decode (mc mX3_begin) 31 = .ok (.aload_n 0, 1) := by decide +kernel
theorem dX3_begin_32 : decode (mc mX3_begin) 32 = .ok (.iconst 0, 1) := by decide +kernel
theorem dX3_begin_33 : decode (mc mX3_begin) 33 = .ok (.putfield 30, 3) := by decide +kernel
theorem dX3_begin_36 : decode (mc mX3_begin) 36 = .ok (.aload_n 0, 1) := by decide +kernel
theorem dX3_begin_37 : decode (mc mX3_begin) 37 = .ok (.iconst 1, 1) := by decide +kernel
theorem dX3_begin_38 : decode (mc mX3_begin) 38 = .ok (.putfield 33, 3) := by decide +kernel
theorem dX3_begin_41 : decode (mc mX3_begin) 41 = .ok (.aload_n 0, 1) := by decide +kernel
theorem dX3_begin_42 : decode (mc mX3_begin) 42 = .ok (.iconst 1, 1) := by decide +kernel
theorem dX3_begin_43 : decode (mc mX3_begin) 43 = .ok (.putfield 36, 3) := by decide +kernel
theorem dX3_begin_46 : decode (mc mX3_begin) 46 = .ok (.aload_n 0, 1) := by decide +kernel
theorem dX3_begin_47 : decode (mc mX3_begin) 47 = .ok (.iconst (-1), 1) := by decide +kernel
theorem dX3_begin_48 : decode (mc mX3_begin) 48 = .ok (.putfield 39, 3) := by decide +kernel
theorem dX3_begin_51 : decode (mc mX3_begin) 51 = .ok (.return_, 1) := by decide +kernel
theorem dX3_copyFrom_0 : decode (mc mX3_copyFrom) 0 = .ok (.aload_n 0, 1) := by decide +kernel
theorem dX3_copyFrom_1 : decode (mc mX3_copyFrom) 1 = .ok (.aload_n 1, 1) := by decide +kernel
theorem dX3_copyFrom_2 : decode (mc mX3_copyFrom) 2 = .ok (.getfield 9, 3) := by decide +kernel
theorem dX3_copyFrom_5 : decode (mc mX3_copyFrom) 5 = .ok (.putfield 9, 3) := by decide +kernel
theorem dX3_copyFrom_8 : decode (mc mX3_copyFrom) 8 = .ok (.aload_n 0, 1) := by decide +kernel
theorem dX3_copyFrom_9 : decode (mc mX3_copyFrom) 9 = .ok (.aload_n 1, 1) := by decide +kernel
theorem dX3_copyFrom_10 : decode (mc mX3_copyFrom) 10 = .ok (.getfield 15, 3) := by decide +kernel
theorem dX3_copyFrom_13 : decode (mc mX3_copyFrom) 13 = .ok (.putfield 15, 3) := by decide +kernel
theorem dX3_copyFrom_16 : decode (mc mX3_copyFrom) 16 = .ok (.aload_n 0, 1) := by decide +kernel
theorem dX3_copyFrom_17 : decode (mc mX3_copyFrom) 17 = .ok (.aload_n 1, 1) := by decide +kernel
theorem dX3_copyFrom_18 : decode (mc mX3_copyFrom) 18 = .ok (.getfield 18, 3) := by decide +kernel
theorem dX3_copyFrom_21 : decode (mc mX3_copyFrom) 21 = .ok (.putfield 18, 3) := by decide +kernel
theorem dX3_copyFrom_24 : decode (mc mX3_copyFrom) 24 = .ok (.aload_n 0, 1) := by decide +kernel
theorem dX3_copyFrom_25 : decode (mc mX3_copyFrom) 25 = .ok (.aload_n 1, 1) := by decide +kernel
theorem dX3_copyFrom_26 : decode (mc mX3_copyFrom) 26 = .ok (.getfield 21, 3) := by decide +kernel
theorem dX3_copyFrom_29 : decode (mc mX3_copyFrom) 29 = .ok (.putfield 21, 3) := by decide +kernel
theorem dX3_copyFrom_32 : decode (mc mX3_copyFrom) 32 = .ok (.aload_n 0, 1) := by decide +kernel
theorem dX3_copyFrom_33 : decode (mc mX3_copyFrom) 33 = .ok (.aload_n 1, 1) := by decide +kernel
theorem dX3_copyFrom_34 : decode (mc mX3_copyFrom) 34 = .ok (.getfield 24, 3) := by decide +kernel
theorem dX3_copyFrom_37 : decode (mc mX3_copyFrom) 37 = .ok (.putfield 24, 3) := by decide +kernel
theorem dX3_copyFrom_40 : decode (mc mX3_copyFrom) 40 = .ok (.aload_n 0, 1) := by decide +kernel
theorem dX3_copyFrom_41 : decode (mc mX3_copyFrom) 41 = .ok (.aload_n 1, 1) := by decide +kernel
theorem dX3_copyFrom_42 : decode (mc mX3_copyFrom) 42 = .ok (.getfield 27, 3) := by decide +kernel
theorem dX3_copyFrom_45 : decode (mc mX3_copyFrom) 45 = .ok (.putfield 27, 3) := by decide +kernel
theorem dX3_copyFrom_48 : decode (mc mX3_copyFrom) 48 = .ok (.aload_n 0, 1) := by decide +kernel
theorem dX3_copyFrom_49 : decode (mc mX3_copyFrom) 49 = .ok (.aload_n 1, 1) := by decide +kernel
theorem dX3_copyFrom_50 : decode (mc mX3_copyFrom) 50 = .ok (.getfield 30, 3) := by decide +kernel
theorem dX3_copyFrom_53 : decode (mc mX3_copyFrom) 53 = .ok (.putfield 30, 3) := by decide +kernel
theorem dX3_copyFrom_56 : decode (mc mX3_copyFrom) 56 = .ok (.aload_n 0, 1) := by decide +kernel
theorem dX3_copyFrom_57 : decode (mc mX3_copyFrom) 57 = .ok (.aload_n 1, 1) := by decide +kernel
theorem dX3_copyFrom_58 : decode (mc mX3_copyFrom) 58 = .ok (.getfield 33, 3) := by decide +kernel
theorem dX3_copyFrom_61 : decode (mc mX3_copyFrom) 61 = .ok (.putfield 33, 3) := by decide +kernel
theorem dX3_copyFrom_64 : decode (mc mX3_copyFrom) 64 = .ok (.aload_n 0, 1) := by decide +kernel
theorem dX3_copyFrom_65 : decode (mc mX3_copyFrom) 65 = .ok (.aload_n 1, 1) := by decide +kernel
theorem dX3_copyFrom_66 : decode (mc mX3_copyFrom) 66 = .ok (.getfield 36, 3) := by decide +kernel
theorem dX3_copyFrom_69 : decode (mc mX3_copyFrom) 69 = .ok (.putfield 36, 3) := by decide +kernel
theorem dX3_copyFrom_72 : decode (mc mX3_copyFrom) 72 = .ok (.aload_n 0, 1) := by decide +kernel
theorem dX3_copyFrom_73 : decode (mc mX3_copyFrom) 73 = .ok (.aload_n 1, 1) := by decide +kernel
theorem dX3_copyFrom_74 : decode (mc mX3_copyFrom) 74 = .ok (.getfield 39, 3) := by decide +kernel
theorem dX3_copyFrom_77 : decode (mc mX3_copyFrom) 77 = .ok (.putfield 39, 3) := by decide +kernel
theorem dX3_copyFrom_80 : decode (mc mX3_copyFrom) 80 = .ok (.return_, 1) := by decide +kernel
theorem dX3_figureOf_0 : decode (mc mX3_figureOf) 0 = .ok (.iload_n 1, 1) := by decide +kernel
theorem dX3_figureOf_1 : decode (mc mX3_figureOf) 1 = .ok (.tableswitch 117 0 10 #[59, 64, 69, 74, 79, 84, 89, 94, 99, 104, 112], 59) := by decide +kernel
theorem dX3_figureOf_60 : decode (mc mX3_figureOf) 60 = .ok (.aload_n 0, 1) := by decide +kernel
theorem dX3_figureOf_61 : decode (mc mX3_figureOf) 61 = .ok (.getfield 9, 3) := by decide +kernel
theorem dX3_figureOf_64 : decode (mc mX3_figureOf) 64 = .ok (.ireturn, 1) := by decide +kernel
theorem dX3_figureOf_65 : decode (mc mX3_figureOf) 65 = .ok (.aload_n 0, 1) := by decide +kernel
theorem dX3_figureOf_66 : decode (mc mX3_figureOf) 66 = .ok (.getfield 15, 3) := by decide +kernel
theorem dX3_figureOf_69 : decode (mc mX3_figureOf) 69 = .ok (.ireturn, 1) := by decide +kernel
theorem dX3_figureOf_70 : decode (mc mX3_figureOf) 70 = .ok (.aload_n 0, 1) := by decide +kernel
theorem dX3_figureOf_71 : decode (mc mX3_figureOf) 71 = .ok (.getfield 18, 3) := by decide +kernel
theorem dX3_figureOf_74 : decode (mc mX3_figureOf) 74 = .ok (.ireturn, 1) := by decide +kernel
theorem dX3_figureOf_75 : decode (mc mX3_figureOf) 75 = .ok (.aload_n 0, 1) := by decide +kernel
theorem dX3_figureOf_76 : decode (mc mX3_figureOf) 76 = .ok (.getfield 21, 3) := by decide +kernel
theorem dX3_figureOf_79 : decode (mc mX3_figureOf) 79 = .ok (.ireturn, 1) := by decide +kernel
theorem dX3_figureOf_80 : decode (mc mX3_figureOf) 80 = .ok (.aload_n 0, 1) := by decide +kernel
theorem dX3_figureOf_81 : decode (mc mX3_figureOf) 81 = .ok (.getfield 24, 3) := by decide +kernel
theorem dX3_figureOf_84 : decode (mc mX3_figureOf) 84 = .ok (.ireturn, 1) := by decide +kernel
theorem dX3_figureOf_85 : decode (mc mX3_figureOf) 85 = .ok (.aload_n 0, 1) := by decide +kernel
theorem dX3_figureOf_86 : decode (mc mX3_figureOf) 86 = .ok (.getfield 27, 3) := by decide +kernel
theorem dX3_figureOf_89 : decode (mc mX3_figureOf) 89 = .ok (.ireturn, 1) := by decide +kernel
theorem dX3_figureOf_90 : decode (mc mX3_figureOf) 90 = .ok (.aload_n 0, 1) := by decide +kernel
theorem dX3_figureOf_91 : decode (mc mX3_figureOf) 91 = .ok (.getfield 30, 3) := by decide +kernel
theorem dX3_figureOf_94 : decode (mc mX3_figureOf) 94 = .ok (.ireturn, 1) := by decide +kernel
theorem dX3_figureOf_95 : decode (mc mX3_figureOf) 95 = .ok (.aload_n 0, 1) := by decide +kernel
theorem dX3_figureOf_96 : decode (mc mX3_figureOf) 96 = .ok (.getfield 33, 3) := by decide +kernel
theorem dX3_figureOf_99 : decode (mc mX3_figureOf) 99 = .ok (.ireturn, 1) := by decide +kernel
theorem dX3_figureOf_100 : decode (mc mX3_figureOf) 100 = .ok (.aload_n 0, 1) := by decide +kernel
theorem dX3_figureOf_101 : decode (mc mX3_figureOf) 101 = .ok (.getfield 36, 3) := by decide +kernel
theorem dX3_figureOf_104 : decode (mc mX3_figureOf) 104 = .ok (.ireturn, 1) := by decide +kernel
theorem dX3_figureOf_105 : decode (mc mX3_figureOf) 105 = .ok (.aload_n 0, 1) := by decide +kernel
theorem dX3_figureOf_106 : decode (mc mX3_figureOf) 106 = .ok (.getfield 39, 3) := by decide +kernel
theorem dX3_figureOf_109 : decode (mc mX3_figureOf) 109 = .ok (.bipush 10, 2) := by decide +kernel
theorem dX3_figureOf_111 : decode (mc mX3_figureOf) 111 = .ok (.iadd, 1) := by decide +kernel
theorem dX3_figureOf_112 : decode (mc mX3_figureOf) 112 = .ok (.ireturn, 1) := by decide +kernel
theorem dX3_figureOf_113 : decode (mc mX3_figureOf) 113 = .ok (.aload_n 0, 1) := by decide +kernel
theorem dX3_figureOf_114 : decode (mc mX3_figureOf) 114 = .ok (.invokevirtual 42, 3) := by decide +kernel
theorem dX3_figureOf_117 : decode (mc mX3_figureOf) 117 = .ok (.ireturn, 1) := by decide +kernel
theorem dX3_figureOf_118 : decode (mc mX3_figureOf) 118 = .ok (.aload_n 0, 1) := by decide +kernel
theorem dX3_figureOf_119 : decode (mc mX3_figureOf) 119 = .ok (.iconst 1, 1) := by decide +kernel
theorem dX3_figureOf_120 : decode (mc mX3_figureOf) 120 = .ok (.invokevirtual 46, 3) := by decide +kernel
theorem dX3_figureOf_123 : decode (mc mX3_figureOf) 123 = .ok (.ireturn, 1) := by decide +kernel
theorem dX3_kindIsUnder_0 : decode (mc mX3_kindIsUnder) 0 = .ok (.iload_n 0, 1) := by decide +kernel
theorem dX3_kindIsUnder_1 : decode (mc mX3_kindIsUnder) 1 = .ok (.istore_n 2, 1) := by decide +kernel
theorem dX3_kindIsUnder_2 : decode (mc mX3_kindIsUnder) 2 = .ok (.iconst 0, 1) := by decide +kernel
theorem dX3_kindIsUnder_3 : decode (mc mX3_kindIsUnder) 3 = .ok (.istore_n 3, 1) := by decide +kernel
theorem dX3_kindIsUnder_4 : decode (mc mX3_kindIsUnder) 4 = .ok (.iload_n 3, 1) := by decide +kernel
theorem dX3_kindIsUnder_5 : decode (mc mX3_kindIsUnder) 5 = .ok (.bipush 6, 2) := by decide +kernel
theorem dX3_kindIsUnder_7 : decode (mc mX3_kindIsUnder) 7 = .ok (.if_icmp .ge 32, 3) := by decide +kernel
theorem dX3_kindIsUnder_10 : decode (mc mX3_kindIsUnder) 10 = .ok (.iload_n 2, 1) := by decide +kernel
theorem dX3_kindIsUnder_11 : decode (mc mX3_kindIsUnder) 11 = .ok (.ifCond .lt 28, 3) := by decide +kernel
theorem dX3_kindIsUnder_14 : decode (mc mX3_kindIsUnder) 14 = .ok (.iload_n 2, 1) := by decide +kernel
theorem dX3_kindIsUnder_15 : decode (mc mX3_kindIsUnder) 15 = .ok (.bipush 6, 2) := by decide +kernel
theorem dX3_kindIsUnder_17 : decode (mc mX3_kindIsUnder) 17 = .ok (.if_icmp .ge 22, 3) := by decide +kernel
theorem dX3_kindIsUnder_20 : decode (mc mX3_kindIsUnder) 20 = .ok (.iload_n 2, 1) := by decide +kernel
theorem dX3_kindIsUnder_21 : decode (mc mX3_kindIsUnder) 21 = .ok (.iload_n 1, 1) := by decide +kernel
theorem dX3_kindIsUnder_22 : decode (mc mX3_kindIsUnder) 22 = .ok (.if_icmp .ne 5, 3) := by decide +kernel
theorem dX3_kindIsUnder_25 : decode (mc mX3_kindIsUnder) 25 = .ok (.iconst 1, 1) := by decide +kernel
theorem dX3_kindIsUnder_26 : decode (mc mX3_kindIsUnder) 26 = .ok (.ireturn, 1) := by decide +kernel
theorem dX3_kindIsUnder_27 : decode (mc mX3_kindIsUnder) 27 = .ok (.getstatic 50, 3) := by decide +kernel
theorem dX3_kindIsUnder_30 : decode (mc mX3_kindIsUnder) 30 = .ok (.iload_n 2, 1) := by decide +kernel
theorem dX3_kindIsUnder_31 : decode (mc mX3_kindIsUnder) 31 = .ok (.iaload, 1) := by decide +kernel
theorem dX3_kindIsUnder_32 : decode (mc mX3_kindIsUnder) 32 = .ok (.istore_n 2, 1) := by decide +kernel
theorem dX3_kindIsUnder_33 : decode (mc mX3_kindIsUnder) 33 = .ok (.iinc 3 1, 3) := by decide +kernel
theorem dX3_kindIsUnder_36 : decode (mc mX3_kindIsUnder) 36 = .ok (.goto (-32), 3) := by decide +kernel
theorem dX3_kindIsUnder_39 : decode (mc mX3_kindIsUnder) 39 = .ok (.iconst 0, 1) := by decide +kernel
theorem dX3_kindIsUnder_40 : decode (mc mX3_kindIsUnder) 40 = .ok (.ireturn, 1) := by decide +kernel
theorem dX3_isUnder_0 : decode (mc mX3_isUnder) 0 = .ok (.aload_n 0, 1) := by decide +kernel
theorem dX3_isUnder_1 : decode (mc mX3_isUnder) 1 = .ok (.getfield 9, 3) := by decide +kernel
theorem dX3_isUnder_4 : decode (mc mX3_isUnder) 4 = .ok (.iload_n 1, 1) := by decide +kernel
theorem dX3_isUnder_5 : decode (mc mX3_isUnder) 5 = .ok (.invokestatic 54, 3) := by decide +kernel
theorem dX3_isUnder_8 : decode (mc mX3_isUnder) 8 = .ok (.ireturn, 1) := by decide +kernel
theorem dX3_startOf_0 : decode (mc mX3_startOf) 0 = .ok (.iload_n 0, 1) := by decide +kernel
theorem dX3_startOf_1 : decode (mc mX3_startOf) 1 = .ok (.iconst 3, 1) := by decide +kernel
theorem dX3_startOf_2 : decode (mc mX3_startOf) 2 = .ok (.invokestatic 54, 3) := by decide +kernel
theorem dX3_startOf_5 : decode (mc mX3_startOf) 5 = .ok (.ifCond .eq 7, 3) := by decide +kernel
theorem dX3_startOf_8 : decode (mc mX3_startOf) 8 = .ok (.iconst 2, 1) := by decide +kernel
theorem dX3_startOf_9 : decode (mc mX3_startOf) 9 = .ok (.iload_n 2, 1) := by decide +kernel
theorem dX3_startOf_10 : decode (mc mX3_startOf) 10 = .ok (.imul, 1) := by decide +kernel
theorem dX3_startOf_11 : decode (mc mX3_startOf) 11 = .ok (.ireturn, 1) := by decide +kernel
theorem dX3_startOf_12 : decode (mc mX3_startOf) 12 = .ok (.iload_n 0, 1) := by decide +kernel
theorem dX3_startOf_13 : decode (mc mX3_startOf) 13 = .ok (.iconst 1, 1) := by decide +kernel
theorem dX3_startOf_14 : decode (mc mX3_startOf) 14 = .ok (.invokestatic 54, 3) := by decide +kernel
theorem dX3_startOf_17 : decode (mc mX3_startOf) 17 = .ok (.ifCond .ne 5, 3) := by decide +kernel
theorem dX3_startOf_20 : decode (mc mX3_startOf) 20 = .ok (.iload_n 2, 1) := by decide +kernel
theorem dX3_startOf_21 : decode (mc mX3_startOf) 21 = .ok (.ireturn, 1) := by decide +kernel
theorem dX3_startOf_22 : decode (mc mX3_startOf) 22 = .ok (.iload_n 2, 1) := by decide +kernel
theorem dX3_startOf_23 : decode (mc mX3_startOf) 23 = .ok (.iload_n 1, 1) := by decide +kernel
theorem dX3_startOf_24 : decode (mc mX3_startOf) 24 = .ok (.iload_n 3, 1) := by decide +kernel
theorem dX3_startOf_25 : decode (mc mX3_startOf) 25 = .ok (.iconst 4, 1) := by decide +kernel
theorem dX3_startOf_26 : decode (mc mX3_startOf) 26 = .ok (.invokestatic 58, 3) := by decide +kernel
theorem dX3_startOf_29 : decode (mc mX3_startOf) 29 = .ok (.imul, 1) := by decide +kernel
theorem dX3_startOf_30 : decode (mc mX3_startOf) 30 = .ok (.iadd, 1) := by decide +kernel
theorem dX3_startOf_31 : decode (mc mX3_startOf) 31 = .ok (.istore 4, 2) := by decide +kernel
theorem dX3_startOf_33 : decode (mc mX3_startOf) 33 = .ok (.iload_n 0, 1) := by decide +kernel
theorem dX3_startOf_34 : decode (mc mX3_startOf) 34 = .ok (.iconst 4, 1) := by decide +kernel
theorem dX3_startOf_35 : decode (mc mX3_startOf) 35 = .ok (.if_icmp .ne 15, 3) := by decide +kernel
theorem dX3_startOf_38 : decode (mc mX3_startOf) 38 = .ok (.iload_n 3, 1) := by decide +kernel
theorem dX3_startOf_39 : decode (mc mX3_startOf) 39 = .ok (.iconst 1, 1) := by decide +kernel
theorem dX3_startOf_40 : decode (mc mX3_startOf) 40 = .ok (.if_icmp .ne 10, 3) := by decide +kernel
theorem dX3_startOf_43 : decode (mc mX3_startOf) 43 = .ok (.iload 4, 2) := by decide +kernel
theorem dX3_startOf_45 : decode (mc mX3_startOf) 45 = .ok (.iconst 2, 1) := by decide +kernel
theorem dX3_startOf_46 : decode (mc mX3_startOf) 46 = .ok (.idiv, 1) := by decide +kernel
theorem dX3_startOf_47 : decode (mc mX3_startOf) 47 = .ok (.goto 5, 3) := by decide +kernel
theorem dX3_startOf_50 : decode (mc mX3_startOf) 50 = .ok (.iload 4, 2) := by decide +kernel
theorem dX3_startOf_52 : decode (mc mX3_startOf) 52 = .ok (.ireturn, 1) := by decide +kernel
theorem dX3_startBehind_0 : decode (mc mX3_startBehind) 0 = .ok (.aload_n 0, 1) := by decide +kernel
theorem dX3_startBehind_1 : decode (mc mX3_startBehind) 1 = .ok (.getfield 9, 3) := by decide +kernel
theorem dX3_startBehind_4 : decode (mc mX3_startBehind) 4 = .ok (.aload_n 0, 1) := by decide +kernel
theorem dX3_startBehind_5 : decode (mc mX3_startBehind) 5 = .ok (.getfield 15, 3) := by decide +kernel
theorem dX3_startBehind_8 : decode (mc mX3_startBehind) 8 = .ok (.aload_n 0, 1) := by decide +kernel
theorem dX3_startBehind_9 : decode (mc mX3_startBehind) 9 = .ok (.getfield 30, 3) := by decide +kernel
theorem dX3_startBehind_12 : decode (mc mX3_startBehind) 12 = .ok (.iload_n 1, 1) := by decide +kernel
theorem dX3_startBehind_13 : decode (mc mX3_startBehind) 13 = .ok (.invokestatic 64, 3) := by decide +kernel
theorem dX3_startBehind_16 : decode (mc mX3_startBehind) 16 = .ok (.ireturn, 1) := by decide +kernel
theorem dX3_least_0 : decode (mc mX3_least) 0 = .ok (.aload_n 0, 1) := by decide +kernel
theorem dX3_least_1 : decode (mc mX3_least) 1 = .ok (.getfield 9, 3) := by decide +kernel
theorem dX3_least_4 : decode (mc mX3_least) 4 = .ok (.iconst 5, 1) := by decide +kernel
theorem dX3_least_5 : decode (mc mX3_least) 5 = .ok (.if_icmp .ne 10, 3) := by decide +kernel
theorem dX3_least_8 : decode (mc mX3_least) 8 = .ok (.aload_n 0, 1) := by decide +kernel
theorem dX3_least_9 : decode (mc mX3_least) 9 = .ok (.getfield 21, 3) := by decide +kernel
theorem dX3_least_12 : decode (mc mX3_least) 12 = .ok (.goto 7, 3) := by decide +kernel
theorem dX3_least_15 : decode (mc mX3_least) 15 = .ok (.aload_n 0, 1) := by decide +kernel
theorem dX3_least_16 : decode (mc mX3_least) 16 = .ok (.getfield 18, 3) := by decide +kernel
theorem dX3_least_19 : decode (mc mX3_least) 19 = .ok (.ireturn, 1) := by decide +kernel
theorem dX3_most_0 : decode (mc mX3_most) 0 = .ok (.iload_n 1, 1) := by decide +kernel
theorem dX3_most_1 : decode (mc mX3_most) 1 = .ok (.ifCond .eq 39, 3) := by decide +kernel
theorem dX3_most_4 : decode (mc mX3_most) 4 = .ok (.aload_n 0, 1) := by decide +kernel
theorem dX3_most_5 : decode (mc mX3_most) 5 = .ok (.getfield 9, 3) := by decide +kernel
theorem dX3_most_8 : decode (mc mX3_most) 8 = .ok (.iconst 5, 1) := by decide +kernel
theorem dX3_most_9 : decode (mc mX3_most) 9 = .ok (.if_icmp .eq 31, 3) := by decide +kernel
theorem dX3_most_12 : decode (mc mX3_most) 12 = .ok (.aload_n 0, 1) := by decide +kernel
theorem dX3_most_13 : decode (mc mX3_most) 13 = .ok (.getfield 9, 3) := by decide +kernel
theorem dX3_most_16 : decode (mc mX3_most) 16 = .ok (.iconst 2, 1) := by decide +kernel
theorem dX3_most_17 : decode (mc mX3_most) 17 = .ok (.invokestatic 54, 3) := by decide +kernel
theorem dX3_most_20 : decode (mc mX3_most) 20 = .ok (.ifCond .eq 20, 3) := by decide +kernel
theorem dX3_most_23 : decode (mc mX3_most) 23 = .ok (.aload_n 0, 1) := by decide +kernel
theorem dX3_most_24 : decode (mc mX3_most) 24 = .ok (.getfield 18, 3) := by decide +kernel
theorem dX3_most_27 : decode (mc mX3_most) 27 = .ok (.aload_n 0, 1) := by decide +kernel
theorem dX3_most_28 : decode (mc mX3_most) 28 = .ok (.getfield 15, 3) := by decide +kernel
theorem dX3_most_31 : decode (mc mX3_most) 31 = .ok (.iadd, 1) := by decide +kernel
theorem dX3_most_32 : decode (mc mX3_most) 32 = .ok (.aload_n 0, 1) := by decide +kernel
theorem dX3_most_33 : decode (mc mX3_most) 33 = .ok (.getfield 21, 3) := by decide +kernel
theorem dX3_most_36 : decode (mc mX3_most) 36 = .ok (.invokestatic 58, 3) := by decide +kernel
theorem dX3_most_39 : decode (mc mX3_most) 39 = .ok (.ireturn, 1) := by decide +kernel
theorem dX3_most_40 : decode (mc mX3_most) 40 = .ok (.aload_n 0, 1) := by decide +kernel
theorem dX3_most_41 : decode (mc mX3_most) 41 = .ok (.getfield 21, 3) := by decide +kernel
theorem dX3_most_44 : decode (mc mX3_most) 44 = .ok (.ireturn, 1) := by decide +kernel
theorem dX3_moved_0 : decode (mc mX3_moved) 0 = .ok (.iload_n 1, 1) := by decide +kernel
theorem dX3_moved_1 : decode (mc mX3_moved) 1 = .ok (.ifCond .le 40, 3) := by decide +kernel
theorem dX3_moved_4 : decode (mc mX3_moved) 4 = .ok (.iload_n 2, 1) := by decide +kernel
theorem dX3_moved_5 : decode (mc mX3_moved) 5 = .ok (.ifCond .eq 11, 3) := by decide +kernel
theorem dX3_moved_8 : decode (mc mX3_moved) 8 = .ok (.iload_n 1, 1) := by decide +kernel
theorem dX3_moved_9 : decode (mc mX3_moved) 9 = .ok (.iconst 1, 1) := by decide +kernel
theorem dX3_moved_10 : decode (mc mX3_moved) 10 = .ok (.iadd, 1) := by decide +kernel
theorem dX3_moved_11 : decode (mc mX3_moved) 11 = .ok (.iconst 4, 1) := by decide +kernel
theorem dX3_moved_12 : decode (mc mX3_moved) 12 = .ok (.invokestatic 58, 3) := by decide +kernel
theorem dX3_moved_15 : decode (mc mX3_moved) 15 = .ok (.ireturn, 1) := by decide +kernel
theorem dX3_moved_16 : decode (mc mX3_moved) 16 = .ok (.iload_n 1, 1) := by decide +kernel
theorem dX3_moved_17 : decode (mc mX3_moved) 17 = .ok (.aload_n 0, 1) := by decide +kernel
theorem dX3_moved_18 : decode (mc mX3_moved) 18 = .ok (.getfield 33, 3) := by decide +kernel
theorem dX3_moved_21 : decode (mc mX3_moved) 21 = .ok (.if_icmp .lt 14, 3) := by decide +kernel
theorem dX3_moved_24 : decode (mc mX3_moved) 24 = .ok (.aload_n 0, 1) := by decide +kernel
theorem dX3_moved_25 : decode (mc mX3_moved) 25 = .ok (.getfield 9, 3) := by decide +kernel
theorem dX3_moved_28 : decode (mc mX3_moved) 28 = .ok (.iconst 3, 1) := by decide +kernel
theorem dX3_moved_29 : decode (mc mX3_moved) 29 = .ok (.invokestatic 54, 3) := by decide +kernel
theorem dX3_moved_32 : decode (mc mX3_moved) 32 = .ok (.ifCond .eq 7, 3) := by decide +kernel
theorem dX3_moved_35 : decode (mc mX3_moved) 35 = .ok (.iconst 0, 1) := by decide +kernel
theorem dX3_moved_36 : decode (mc mX3_moved) 36 = .ok (.goto 4, 3) := by decide +kernel
theorem dX3_moved_39 : decode (mc mX3_moved) 39 = .ok (.iconst (-1), 1) := by decide +kernel
theorem dX3_moved_40 : decode (mc mX3_moved) 40 = .ok (.ireturn, 1) := by decide +kernel
theorem dX3_moved_41 : decode (mc mX3_moved) 41 = .ok (.iload_n 2, 1) := by decide +kernel
theorem dX3_moved_42 : decode (mc mX3_moved) 42 = .ok (.ifCond .eq 18, 3) := by decide +kernel
theorem dX3_moved_45 : decode (mc mX3_moved) 45 = .ok (.iload_n 1, 1) := by decide +kernel
theorem dX3_moved_46 : decode (mc mX3_moved) 46 = .ok (.ineg, 1) := by decide +kernel
theorem dX3_moved_47 : decode (mc mX3_moved) 47 = .ok (.aload_n 0, 1) := by decide +kernel
theorem dX3_moved_48 : decode (mc mX3_moved) 48 = .ok (.getfield 36, 3) := by decide +kernel
theorem dX3_moved_51 : decode (mc mX3_moved) 51 = .ok (.if_icmp .ge 7, 3) := by decide +kernel
theorem dX3_moved_54 : decode (mc mX3_moved) 54 = .ok (.iconst 0, 1) := by decide +kernel
theorem dX3_moved_55 : decode (mc mX3_moved) 55 = .ok (.goto 4, 3) := by decide +kernel
theorem dX3_moved_58 : decode (mc mX3_moved) 58 = .ok (.iconst 1, 1) := by decide +kernel
theorem dX3_moved_59 : decode (mc mX3_moved) 59 = .ok (.ireturn, 1) := by decide +kernel
theorem dX3_moved_60 : decode (mc mX3_moved) 60 = .ok (.iload_n 1, 1) := by decide +kernel
theorem dX3_moved_61 : decode (mc mX3_moved) 61 = .ok (.iconst 1, 1) := by decide +kernel
theorem dX3_moved_62 : decode (mc mX3_moved) 62 = .ok (.isub, 1) := by decide +kernel
theorem dX3_moved_63 : decode (mc mX3_moved) 63 = .ok (.bipush (-4), 2) := by decide +kernel
theorem dX3_moved_65 : decode (mc mX3_moved) 65 = .ok (.invokestatic 68, 3) := by decide +kernel
theorem dX3_moved_68 : decode (mc mX3_moved) 68 = .ok (.ireturn, 1) := by decide +kernel
theorem dX3_mayRun_0 : decode (mc mX3_mayRun) 0 = .ok (.aload_n 0, 1) := by decide +kernel
theorem dX3_mayRun_1 : decode (mc mX3_mayRun) 1 = .ok (.getfield 39, 3) := by decide +kernel
theorem dX3_mayRun_4 : decode (mc mX3_mayRun) 4 = .ok (.istore_n 3, 1) := by decide +kernel
theorem dX3_mayRun_5 : decode (mc mX3_mayRun) 5 = .ok (.iconst 0, 1) := by decide +kernel
theorem dX3_mayRun_6 : decode (mc mX3_mayRun) 6 = .ok (.istore 4, 2) := by decide +kernel
theorem dX3_mayRun_8 : decode (mc mX3_mayRun) 8 = .ok (.iload 4, 2) := by decide +kernel
theorem dX3_mayRun_10 : decode (mc mX3_mayRun) 10 = .ok (.iload_n 2, 1) := by decide +kernel
theorem dX3_mayRun_11 : decode (mc mX3_mayRun) 11 = .ok (.if_icmp .ge 34, 3) := by decide +kernel
theorem dX3_mayRun_14 : decode (mc mX3_mayRun) 14 = .ok (.iload_n 3, 1) := by decide +kernel
theorem dX3_mayRun_15 : decode (mc mX3_mayRun) 15 = .ok (.ifCond .eq 30, 3) := by decide +kernel
theorem dX3_mayRun_18 : decode (mc mX3_mayRun) 18 = .ok (.aload_n 0, 1) := by decide +kernel
theorem dX3_mayRun_19 : decode (mc mX3_mayRun) 19 = .ok (.iload_n 3, 1) := by decide +kernel
theorem dX3_mayRun_20 : decode (mc mX3_mayRun) 20 = .ok (.iload_n 1, 1) := by decide +kernel
theorem dX3_mayRun_21 : decode (mc mX3_mayRun) 21 = .ok (.iload 4, 2) := by decide +kernel
theorem dX3_mayRun_23 : decode (mc mX3_mayRun) 23 = .ok (.ishr, 1) := by decide +kernel
theorem dX3_mayRun_24 : decode (mc mX3_mayRun) 24 = .ok (.iconst 1, 1) := by decide +kernel
theorem dX3_mayRun_25 : decode (mc mX3_mayRun) 25 = .ok (.iand, 1) := by decide +kernel
theorem dX3_mayRun_26 : decode (mc mX3_mayRun) 26 = .ok (.iconst 1, 1) := by decide +kernel
theorem dX3_mayRun_27 : decode (mc mX3_mayRun) 27 = .ok (.if_icmp .ne 7, 3) := by decide +kernel
theorem dX3_mayRun_30 : decode (mc mX3_mayRun) 30 = .ok (.iconst 1, 1) := by decide +kernel
theorem dX3_mayRun_31 : decode (mc mX3_mayRun) 31 = .ok (.goto 4, 3) := by decide +kernel
theorem dX3_mayRun_34 : decode (mc mX3_mayRun) 34 = .ok (.iconst 0, 1) := by decide +kernel
theorem dX3_mayRun_35 : decode (mc mX3_mayRun) 35 = .ok (.invokevirtual 71, 3) := by decide +kernel
theorem dX3_mayRun_38 : decode (mc mX3_mayRun) 38 = .ok (.istore_n 3, 1) := by decide +kernel
theorem dX3_mayRun_39 : decode (mc mX3_mayRun) 39 = .ok (.iinc 4 1, 3) := by decide +kernel
theorem dX3_mayRun_42 : decode (mc mX3_mayRun) 42 = .ok (.goto (-34), 3) := by decide +kernel
theorem dX3_mayRun_45 : decode (mc mX3_mayRun) 45 = .ok (.iload_n 3, 1) := by decide +kernel
theorem dX3_mayRun_46 : decode (mc mX3_mayRun) 46 = .ok (.ifCond .eq 7, 3) := by decide +kernel
theorem dX3_mayRun_49 : decode (mc mX3_mayRun) 49 = .ok (.iconst 1, 1) := by decide +kernel
theorem dX3_mayRun_50 : decode (mc mX3_mayRun) 50 = .ok (.goto 4, 3) := by decide +kernel
theorem dX3_mayRun_53 : decode (mc mX3_mayRun) 53 = .ok (.iconst 0, 1) := by decide +kernel
theorem dX3_mayRun_54 : decode (mc mX3_mayRun) 54 = .ok (.ireturn, 1) := by decide +kernel
theorem dX4_init_0 : decode (mc mX4_init) 0 = .ok (.aload_n 0, 1) := by decide +kernel
theorem dX4_init_1 : decode (mc mX4_init) 1 = .ok (.invokespecial 3, 3) := by decide +kernel
theorem dX4_init_4 : decode (mc mX4_init) 4 = .ok (.aload_n 0, 1) := by decide +kernel
theorem dX4_init_5 : decode (mc mX4_init) 5 = .ok (.iconst 3, 1) := by decide +kernel
theorem dX4_init_6 : decode (mc mX4_init) 6 = .ok (.newarray .int, 2) := by decide +kernel
theorem dX4_init_8 : decode (mc mX4_init) 8 = .ok (.putfield 9, 3) := by decide +kernel
theorem dX4_init_11 : decode (mc mX4_init) 11 = .ok (.aload_n 0, 1) := by decide +kernel
theorem dX4_init_12 : decode (mc mX4_init) 12 = .ok (.aload_n 1, 1) := by decide +kernel
theorem dX4_init_13 : decode (mc mX4_init) 13 = .ok (.putfield 15, 3) := by decide +kernel
theorem dX4_init_16 : decode (mc mX4_init) 16 = .ok (.aload_n 0, 1) := by decide +kernel
theorem dX4_init_17 : decode (mc mX4_init) 17 = .ok (.aload_n 2, 1) := by decide +kernel
theorem dX4_init_18 : decode (mc mX4_init) 18 = .ok (.putfield 19, 3) := by decide +kernel
theorem dX4_init_21 : decode (mc mX4_init) 21 = .ok (.aload_n 0, 1) := by decide +kernel
theorem dX4_init_22 : decode (mc mX4_init) 22 = .ok (.aload_n 3, 1) := by decide +kernel
theorem dX4_init_23 : decode (mc mX4_init) 23 = .ok (.putfield 23, 3) := by decide +kernel
theorem dX4_init_26 : decode (mc mX4_init) 26 = .ok (.return_, 1) := by decide +kernel
theorem dX4_run_0 : decode (mc mX4_run) 0 = .ok (.aload_n 0, 1) := by decide +kernel
theorem dX4_run_1 : decode (mc mX4_run) 1 = .ok (.getfield 9, 3) := by decide +kernel
theorem dX4_run_4 : decode (mc mX4_run) 4 = .ok (.iconst 0, 1) := by decide +kernel
theorem dX4_run_5 : decode (mc mX4_run) 5 = .ok (.invokestatic 27, 3) := by decide +kernel
theorem dX4_run_8 : decode (mc mX4_run) 8 = .ok (.aload_n 0, 1) := by decide +kernel
theorem dX4_run_9 : decode (mc mX4_run) 9 = .ok (.getfield 23, 3) := by decide +kernel
theorem dX4_run_12 : decode (mc mX4_run) 12 = .ok (.invokevirtual 33, 3) := by decide +kernel
theorem dX4_run_15 : decode (mc mX4_run) 15 = .ok (.iconst 0, 1) := by decide +kernel
theorem dX4_run_16 : decode (mc mX4_run) 16 = .ok (.istore_n 1, 1) := by decide +kernel
theorem dX4_run_17 : decode (mc mX4_run) 17 = .ok (.iconst 0, 1) := by decide +kernel
theorem dX4_run_18 : decode (mc mX4_run) 18 = .ok (.istore_n 2, 1) := by decide +kernel
theorem dX4_run_19 : decode (mc mX4_run) 19 = .ok (.iload_n 2, 1) := by decide +kernel
theorem dX4_run_20 : decode (mc mX4_run) 20 = .ok (.aload_n 0, 1) := by decide +kernel
theorem dX4_run_21 : decode (mc mX4_run) 21 = .ok (.getfield 15, 3) := by decide +kernel
theorem dX4_run_24 : decode (mc mX4_run) 24 = .ok (.getfield 38, 3) := by decide +kernel
theorem dX4_run_27 : decode (mc mX4_run) 27 = .ok (.if_icmp .ge 121, 3) := by decide +kernel
theorem dX4_run_30 : decode (mc mX4_run) 30 = .ok (.iconst 0, 1) := by decide +kernel
theorem dX4_run_31 : decode (mc mX4_run) 31 = .ok (.istore_n 3, 1) := by decide +kernel
theorem dX4_run_32 : decode (mc mX4_run) 32 = .ok (.iconst 0, 1) := by decide +kernel
theorem dX4_run_33 : decode (mc mX4_run) 33 = .ok (.istore 4, 2) := by decide +kernel
theorem dX4_run_35 : decode (mc mX4_run) 35 = .ok (.iload 4, 2) := by decide +kernel
theorem dX4_run_37 : decode (mc mX4_run) 37 = .ok (.aload_n 0, 1) := by decide +kernel
theorem dX4_run_38 : decode (mc mX4_run) 38 = .ok (.getfield 15, 3) := by decide +kernel
theorem dX4_run_41 : decode (mc mX4_run) 41 = .ok (.getfield 44, 3) := by decide +kernel
theorem dX4_run_44 : decode (mc mX4_run) 44 = .ok (.if_icmp .ge 29, 3) := by decide +kernel
theorem dX4_run_47 : decode (mc mX4_run) 47 = .ok (.iload_n 3, 1) := by decide +kernel
theorem dX4_run_48 : decode (mc mX4_run) 48 = .ok (.aload_n 0, 1) := by decide +kernel
theorem dX4_run_49 : decode (mc mX4_run) 49 = .ok (.getfield 19, 3) := by decide +kernel
theorem dX4_run_52 : decode (mc mX4_run) 52 = .ok (.getfield 47, 3) := by decide +kernel
theorem dX4_run_55 : decode (mc mX4_run) 55 = .ok (.iload 4, 2) := by decide +kernel
theorem dX4_run_57 : decode (mc mX4_run) 57 = .ok (.iaload, 1) := by decide +kernel
theorem dX4_run_58 : decode (mc mX4_run) 58 = .ok (.iload_n 2, 1) := by decide +kernel
theorem dX4_run_59 : decode (mc mX4_run) 59 = .ok (.ishr, 1) := by decide +kernel
theorem dX4_run_60 : decode (mc mX4_run) 60 = .ok (.iconst 1, 1) := by decide +kernel
theorem dX4_run_61 : decode (mc mX4_run) 61 = .ok (.iand, 1) := by decide +kernel
theorem dX4_run_62 : decode (mc mX4_run) 62 = .ok (.iload 4, 2) := by decide +kernel
theorem dX4_run_64 : decode (mc mX4_run) 64 = .ok (.ishl, 1) := by decide +kernel
theorem dX4_run_65 : decode (mc mX4_run) 65 = .ok (.ior, 1) := by decide +kernel
theorem dX4_run_66 : decode (mc mX4_run) 66 = .ok (.istore_n 3, 1) := by decide +kernel
theorem dX4_run_67 : decode (mc mX4_run) 67 = .ok (.iinc 4 1, 3) := by decide +kernel
theorem dX4_run_70 : decode (mc mX4_run) 70 = .ok (.goto (-35), 3) := by decide +kernel
theorem dX4_run_73 : decode (mc mX4_run) 73 = .ok (.aload_n 0, 1) := by decide +kernel
theorem dX4_run_74 : decode (mc mX4_run) 74 = .ok (.iload_n 2, 1) := by decide +kernel
theorem dX4_run_75 : decode (mc mX4_run) 75 = .ok (.iload_n 3, 1) := by decide +kernel
theorem dX4_run_76 : decode (mc mX4_run) 76 = .ok (.invokevirtual 50, 3) := by decide +kernel
theorem dX4_run_79 : decode (mc mX4_run) 79 = .ok (.istore 4, 2) := by decide +kernel
theorem dX4_run_81 : decode (mc mX4_run) 81 = .ok (.iload 4, 2) := by decide +kernel
theorem dX4_run_83 : decode (mc mX4_run) 83 = .ok (.ifCond .ge 6, 3) := by decide +kernel
theorem dX4_run_86 : decode (mc mX4_run) 86 = .ok (.bipush (-9), 2) := by decide +kernel
theorem dX4_run_88 : decode (mc mX4_run) 88 = .ok (.ireturn, 1) := by decide +kernel
theorem dX4_run_89 : decode (mc mX4_run) 89 = .ok (.iload_n 1, 1) := by decide +kernel
theorem dX4_run_90 : decode (mc mX4_run) 90 = .ok (.aload_n 0, 1) := by decide +kernel
theorem dX4_run_91 : decode (mc mX4_run) 91 = .ok (.getfield 23, 3) := by decide +kernel
theorem dX4_run_94 : decode (mc mX4_run) 94 = .ok (.iload_n 2, 1) := by decide +kernel
theorem dX4_run_95 : decode (mc mX4_run) 95 = .ok (.iload 4, 2) := by decide +kernel
theorem dX4_run_97 : decode (mc mX4_run) 97 = .ok (.invokevirtual 54, 3) := by decide +kernel
theorem dX4_run_100 : decode (mc mX4_run) 100 = .ok (.iadd, 1) := by decide +kernel
theorem dX4_run_101 : decode (mc mX4_run) 101 = .ok (.istore_n 1, 1) := by decide +kernel
theorem dX4_run_102 : decode (mc mX4_run) 102 = .ok (.iconst 0, 1) := by decide +kernel
theorem dX4_run_103 : decode (mc mX4_run) 103 = .ok (.istore 5, 2) := by decide +kernel
theorem dX4_run_105 : decode (mc mX4_run) 105 = .ok (.iload 5, 2) := by decide +kernel
theorem dX4_run_107 : decode (mc mX4_run) 107 = .ok (.aload_n 0, 1) := by decide +kernel
theorem dX4_run_108 : decode (mc mX4_run) 108 = .ok (.getfield 15, 3) := by decide +kernel
theorem dX4_run_111 : decode (mc mX4_run) 111 = .ok (.getfield 44, 3) := by decide +kernel
theorem dX4_run_114 : decode (mc mX4_run) 114 = .ok (.if_icmp .ge 28, 3) := by decide +kernel
theorem dX4_run_117 : decode (mc mX4_run) 117 = .ok (.aload_n 0, 1) := by decide +kernel
theorem dX4_run_118 : decode (mc mX4_run) 118 = .ok (.getfield 9, 3) := by decide +kernel
theorem dX4_run_121 : decode (mc mX4_run) 121 = .ok (.iload 5, 2) := by decide +kernel
theorem dX4_run_123 : decode (mc mX4_run) 123 = .ok (.dup2, 1) := by decide +kernel
theorem dX4_run_124 : decode (mc mX4_run) 124 = .ok (.iaload, 1) := by decide +kernel
theorem dX4_run_125 : decode (mc mX4_run) 125 = .ok (.iload 4, 2) := by decide +kernel
theorem dX4_run_127 : decode (mc mX4_run) 127 = .ok (.iload 5, 2) := by decide +kernel
theorem dX4_run_129 : decode (mc mX4_run) 129 = .ok (.ishr, 1) := by decide +kernel
theorem dX4_run_130 : decode (mc mX4_run) 130 = .ok (.iconst 1, 1) := by decide +kernel
theorem dX4_run_131 : decode (mc mX4_run) 131 = .ok (.iand, 1) := by decide +kernel
theorem dX4_run_132 : decode (mc mX4_run) 132 = .ok (.iload_n 2, 1) := by decide +kernel
theorem dX4_run_133 : decode (mc mX4_run) 133 = .ok (.ishl, 1) := by decide +kernel
theorem dX4_run_134 : decode (mc mX4_run) 134 = .ok (.ior, 1) := by decide +kernel
theorem dX4_run_135 : decode (mc mX4_run) 135 = .ok (.iastore, 1) := by decide +kernel
theorem dX4_run_136 : decode (mc mX4_run) 136 = .ok (.iinc 5 1, 3) := by decide +kernel
theorem dX4_run_139 : decode (mc mX4_run) 139 = .ok (.goto (-34), 3) := by decide +kernel
theorem dX4_run_142 : decode (mc mX4_run) 142 = .ok (.iinc 2 1, 3) := by decide +kernel
theorem dX4_run_145 : decode (mc mX4_run) 145 = .ok (.goto (-126), 3) := by decide +kernel
theorem dX4_run_148 : decode (mc mX4_run) 148 = .ok (.iload_n 1, 1) := by decide +kernel
theorem dX4_run_149 : decode (mc mX4_run) 149 = .ok (.ireturn, 1) := by decide +kernel
theorem dX4_nearest_0 : decode (mc mX4_nearest) 0 = .ok (.bipush (-9), 2) := by decide +kernel
theorem dX4_nearest_2 : decode (mc mX4_nearest) 2 = .ok (.istore_n 3, 1) := by decide +kernel
theorem dX4_nearest_3 : decode (mc mX4_nearest) 3 = .ok (.iconst 0, 1) := by decide +kernel
theorem dX4_nearest_4 : decode (mc mX4_nearest) 4 = .ok (.istore 4, 2) := by decide +kernel
theorem dX4_nearest_6 : decode (mc mX4_nearest) 6 = .ok (.iconst 0, 1) := by decide +kernel
theorem dX4_nearest_7 : decode (mc mX4_nearest) 7 = .ok (.istore 5, 2) := by decide +kernel
theorem dX4_nearest_9 : decode (mc mX4_nearest) 9 = .ok (.iconst 0, 1) := by decide +kernel
theorem dX4_nearest_10 : decode (mc mX4_nearest) 10 = .ok (.istore 6, 2) := by decide +kernel
theorem dX4_nearest_12 : decode (mc mX4_nearest) 12 = .ok (.iload 6, 2) := by decide +kernel
theorem dX4_nearest_14 : decode (mc mX4_nearest) 14 = .ok (.iconst 1, 1) := by decide +kernel
theorem dX4_nearest_15 : decode (mc mX4_nearest) 15 = .ok (.aload_n 0, 1) := by decide +kernel
theorem dX4_nearest_16 : decode (mc mX4_nearest) 16 = .ok (.getfield 15, 3) := by decide +kernel
theorem dX4_nearest_19 : decode (mc mX4_nearest) 19 = .ok (.getfield 44, 3) := by decide +kernel
theorem dX4_nearest_22 : decode (mc mX4_nearest) 22 = .ok (.ishl, 1) := by decide +kernel
theorem dX4_nearest_23 : decode (mc mX4_nearest) 23 = .ok (.if_icmp .ge 83, 3) := by decide +kernel
theorem dX4_nearest_26 : decode (mc mX4_nearest) 26 = .ok (.aload_n 0, 1) := by decide +kernel
theorem dX4_nearest_27 : decode (mc mX4_nearest) 27 = .ok (.getfield 23, 3) := by decide +kernel
theorem dX4_nearest_30 : decode (mc mX4_nearest) 30 = .ok (.iload_n 1, 1) := by decide +kernel
theorem dX4_nearest_31 : decode (mc mX4_nearest) 31 = .ok (.iload 6, 2) := by decide +kernel
theorem dX4_nearest_33 : decode (mc mX4_nearest) 33 = .ok (.invokevirtual 57, 3) := by decide +kernel
theorem dX4_nearest_36 : decode (mc mX4_nearest) 36 = .ok (.istore 7, 2) := by decide +kernel
theorem dX4_nearest_38 : decode (mc mX4_nearest) 38 = .ok (.iload 6, 2) := by decide +kernel
theorem dX4_nearest_40 : decode (mc mX4_nearest) 40 = .ok (.iload_n 2, 1) := by decide +kernel
theorem dX4_nearest_41 : decode (mc mX4_nearest) 41 = .ok (.ixor, 1) := by decide +kernel
theorem dX4_nearest_42 : decode (mc mX4_nearest) 42 = .ok (.invokestatic 60, 3) := by decide +kernel
theorem dX4_nearest_45 : decode (mc mX4_nearest) 45 = .ok (.istore 8, 2) := by decide +kernel
theorem dX4_nearest_47 : decode (mc mX4_nearest) 47 = .ok (.iload 8, 2) := by decide +kernel
theorem dX4_nearest_49 : decode (mc mX4_nearest) 49 = .ok (.iload 4, 2) := by decide +kernel
theorem dX4_nearest_51 : decode (mc mX4_nearest) 51 = .ok (.if_icmp .lt 17, 3) := by decide +kernel
theorem dX4_nearest_54 : decode (mc mX4_nearest) 54 = .ok (.iload 8, 2) := by decide +kernel
theorem dX4_nearest_56 : decode (mc mX4_nearest) 56 = .ok (.iload 4, 2) := by decide +kernel
theorem dX4_nearest_58 : decode (mc mX4_nearest) 58 = .ok (.if_icmp .ne 14, 3) := by decide +kernel
theorem dX4_nearest_61 : decode (mc mX4_nearest) 61 = .ok (.iload 7, 2) := by decide +kernel
theorem dX4_nearest_63 : decode (mc mX4_nearest) 63 = .ok (.iload 5, 2) := by decide +kernel
theorem dX4_nearest_65 : decode (mc mX4_nearest) 65 = .ok (.if_icmp .ge 7, 3) := by decide +kernel
theorem dX4_nearest_68 : decode (mc mX4_nearest) 68 = .ok (.iconst 1, 1) := by decide +kernel
theorem dX4_nearest_69 : decode (mc mX4_nearest) 69 = .ok (.goto 4, 3) := by decide +kernel
theorem dX4_nearest_72 : decode (mc mX4_nearest) 72 = .ok (.iconst 0, 1) := by decide +kernel
theorem dX4_nearest_73 : decode (mc mX4_nearest) 73 = .ok (.istore 9, 2) := by decide +kernel
theorem dX4_nearest_75 : decode (mc mX4_nearest) 75 = .ok (.iload 7, 2) := by decide +kernel
theorem dX4_nearest_77 : decode (mc mX4_nearest) 77 = .ok (.ifCond .lt 23, 3) := by decide +kernel
theorem dX4_nearest_80 : decode (mc mX4_nearest) 80 = .ok (.iload_n 3, 1) := by decide +kernel
theorem dX4_nearest_81 : decode (mc mX4_nearest) 81 = .ok (.ifCond .lt 8, 3) := by decide +kernel
theorem dX4_nearest_84 : decode (mc mX4_nearest) 84 = .ok (.iload 9, 2) := by decide +kernel
theorem dX4_nearest_86 : decode (mc mX4_nearest) 86 = .ok (.ifCond .eq 14, 3) := by decide +kernel
theorem dX4_nearest_89 : decode (mc mX4_nearest) 89 = .ok (.iload 6, 2) := by decide +kernel
theorem dX4_nearest_91 : decode (mc mX4_nearest) 91 = .ok (.istore_n 3, 1) := by decide +kernel
theorem dX4_nearest_92 : decode (mc mX4_nearest) 92 = .ok (.iload 8, 2) := by decide +kernel
theorem dX4_nearest_94 : decode (mc mX4_nearest) 94 = .ok (.istore 4, 2) := by decide +kernel
theorem dX4_nearest_96 : decode (mc mX4_nearest) 96 = .ok (.iload 7, 2) := by decide +kernel
theorem dX4_nearest_98 : decode (mc mX4_nearest) 98 = .ok (.istore 5, 2) := by decide +kernel
theorem dX4_nearest_100 : decode (mc mX4_nearest) 100 = .ok (.iinc 6 1, 3) := by decide +kernel
theorem dX4_nearest_103 : decode (mc mX4_nearest) 103 = .ok (.goto (-91), 3) := by decide +kernel
theorem dX4_nearest_106 : decode (mc mX4_nearest) 106 = .ok (.iload_n 3, 1) := by decide +kernel
theorem dX4_nearest_107 : decode (mc mX4_nearest) 107 = .ok (.ireturn, 1) := by decide +kernel
theorem dX5_init_0 : decode (mc mX5_init) 0 = .ok (.aload_n 0, 1) := by decide +kernel
theorem dX5_init_1 : decode (mc mX5_init) 1 = .ok (.invokespecial 3, 3) := by decide +kernel
theorem dX5_init_4 : decode (mc mX5_init) 4 = .ok (.aload_n 0, 1) := by decide +kernel
theorem dX5_init_5 : decode (mc mX5_init) 5 = .ok (.iconst 4, 1) := by decide +kernel
theorem dX5_init_6 : decode (mc mX5_init) 6 = .ok (.putfield 9, 3) := by decide +kernel
theorem dX5_init_9 : decode (mc mX5_init) 9 = .ok (.aload_n 0, 1) := by decide +kernel
theorem dX5_init_10 : decode (mc mX5_init) 10 = .ok (.iconst 5, 1) := by decide +kernel
theorem dX5_init_11 : decode (mc mX5_init) 11 = .ok (.newarray .int, 2) := by decide +kernel
theorem dX5_init_13 : decode (mc mX5_init) 13 = .ok (.putfield 15, 3) := by decide +kernel
theorem dX5_init_16 : decode (mc mX5_init) 16 = .ok (.aload_n 0, 1) := by decide +kernel
theorem dX5_init_17 : decode (mc mX5_init) 17 = .ok (.iconst 5, 1) := by decide +kernel
theorem dX5_init_18 : decode (mc mX5_init) 18 = .ok (.newarray .int, 2) := by decide +kernel
theorem dX5_init_20 : decode (mc mX5_init) 20 = .ok (.putfield 19, 3) := by decide +kernel
theorem dX5_init_23 : decode (mc mX5_init) 23 = .ok (.aload_n 0, 1) := by decide +kernel
theorem dX5_init_24 : decode (mc mX5_init) 24 = .ok (.iconst 5, 1) := by decide +kernel
theorem dX5_init_25 : decode (mc mX5_init) 25 = .ok (.newarray .int, 2) := by decide +kernel
theorem dX5_init_27 : decode (mc mX5_init) 27 = .ok (.putfield 22, 3) := by decide +kernel
theorem dX5_init_30 : decode (mc mX5_init) 30 = .ok (.aload_n 0, 1) := by decide +kernel
theorem dX5_init_31 : decode (mc mX5_init) 31 = .ok (.iconst 3, 1) := by decide +kernel
theorem dX5_init_32 : decode (mc mX5_init) 32 = .ok (.anewarray 25, 3) := by decide +kernel
theorem dX5_init_35 : decode (mc mX5_init) 35 = .ok (.putfield 27, 3) := by decide +kernel
theorem dX5_init_38 : decode (mc mX5_init) 38 = .ok (.aload_n 0, 1) := by decide +kernel
theorem dX5_init_39 : decode (mc mX5_init) 39 = .ok (.iconst 0, 1) := by decide +kernel
theorem dX5_init_40 : decode (mc mX5_init) 40 = .ok (.putfield 31, 3) := by decide +kernel
theorem dX5_init_43 : decode (mc mX5_init) 43 = .ok (.aload_n 0, 1) := by decide +kernel
theorem dX5_init_44 : decode (mc mX5_init) 44 = .ok (.iconst 0, 1) := by decide +kernel
theorem dX5_init_45 : decode (mc mX5_init) 45 = .ok (.putfield 34, 3) := by decide +kernel
theorem dX5_init_48 : decode (mc mX5_init) 48 = .ok (.aload_n 0, 1) := by decide +kernel
theorem dX5_init_49 : decode (mc mX5_init) 49 = .ok (.iconst 1, 1) := by decide +kernel
theorem dX5_init_50 : decode (mc mX5_init) 50 = .ok (.putfield 37, 3) := by decide +kernel
theorem dX5_init_53 : decode (mc mX5_init) 53 = .ok (.aload_n 0, 1) := by decide +kernel
theorem dX5_init_54 : decode (mc mX5_init) 54 = .ok (.lconst 0, 1) := by decide +kernel
theorem dX5_init_55 : decode (mc mX5_init) 55 = .ok (.putfield 40, 3) := by decide +kernel
theorem dX5_init_58 : decode (mc mX5_init) 58 = .ok (.iconst 0, 1) := by decide +kernel
theorem dX5_init_59 : decode (mc mX5_init) 59 = .ok (.istore_n 1, 1) := by decide +kernel
theorem dX5_init_60 : decode (mc mX5_init) 60 = .ok (.iload_n 1, 1) := by decide +kernel
theorem dX5_init_61 : decode (mc mX5_init) 61 = .ok (.iconst 3, 1) := by decide +kernel
theorem dX5_init_62 : decode (mc mX5_init) 62 = .ok (.if_icmp .ge 22, 3) := by decide +kernel
theorem dX5_init_65 : decode (mc mX5_init) 65 = .ok (.aload_n 0, 1) := by decide +kernel
theorem dX5_init_66 : decode (mc mX5_init) 66 = .ok (.getfield 27, 3) := by decide +kernel
theorem dX5_init_69 : decode (mc mX5_init) 69 = .ok (.iload_n 1, 1) := by decide +kernel
theorem dX5_init_70 : decode (mc mX5_init) 70 = .ok (.new 25, 3) := by decide +kernel
theorem dX5_init_73 : decode (mc mX5_init) 73 = .ok (.dup, 1) := by decide +kernel
theorem dX5_init_74 : decode (mc mX5_init) 74 = .ok (.invokespecial 44, 3) := by decide +kernel
theorem dX5_init_77 : decode (mc mX5_init) 77 = .ok (.aastore, 1) := by decide +kernel
theorem dX5_init_78 : decode (mc mX5_init) 78 = .ok (.iinc 1 1, 3) := by decide +kernel
theorem dX5_init_81 : decode (mc mX5_init) 81 = .ok (.goto (-21), 3) := by decide +kernel
theorem dX5_init_84 : decode (mc mX5_init) 84 = .ok (.return_, 1) := by decide +kernel
theorem dX5_copyFrom_0 : decode (mc mX5_copyFrom) 0 = .ok (.aload_n 0, 1) := by decide +kernel
theorem dX5_copyFrom_1 : decode (mc mX5_copyFrom) 1 = .ok (.aload_n 1, 1) := by decide +kernel
theorem dX5_copyFrom_2 : decode (mc mX5_copyFrom) 2 = .ok (.getfield 9, 3) := by decide +kernel
theorem dX5_copyFrom_5 : decode (mc mX5_copyFrom) 5 = .ok (.putfield 9, 3) := by decide +kernel
theorem dX5_copyFrom_8 : decode (mc mX5_copyFrom) 8 = .ok (.aload_n 1, 1) := by decide +kernel
theorem dX5_copyFrom_9 : decode (mc mX5_copyFrom) 9 = .ok (.getfield 15, 3) := by decide +kernel
theorem dX5_copyFrom_12 : decode (mc mX5_copyFrom) 12 = .ok (.iconst 0, 1) := by decide +kernel
theorem dX5_copyFrom_13 : decode (mc mX5_copyFrom) 13 = .ok (.aload_n 0, 1) := by decide +kernel
theorem dX5_copyFrom_14 : decode (mc mX5_copyFrom) 14 = .ok (.getfield 15, 3) := by decide +kernel
theorem dX5_copyFrom_17 : decode (mc mX5_copyFrom) 17 = .ok (.iconst 0, 1) := by decide +kernel
theorem dX5_copyFrom_18 : decode (mc mX5_copyFrom) 18 = .ok (.iconst 5, 1) := by decide +kernel
theorem dX5_copyFrom_19 : decode (mc mX5_copyFrom) 19 = .ok (.invokestatic 45, 3) := by decide +kernel
theorem dX5_copyFrom_22 : decode (mc mX5_copyFrom) 22 = .ok (.aload_n 1, 1) := by decide +kernel
theorem dX5_copyFrom_23 : decode (mc mX5_copyFrom) 23 = .ok (.getfield 19, 3) := by decide +kernel
theorem dX5_copyFrom_26 : decode (mc mX5_copyFrom) 26 = .ok (.iconst 0, 1) := by decide +kernel
theorem dX5_copyFrom_27 : decode (mc mX5_copyFrom) 27 = .ok (.aload_n 0, 1) := by decide +kernel
theorem dX5_copyFrom_28 : decode (mc mX5_copyFrom) 28 = .ok (.getfield 19, 3) := by decide +kernel
theorem dX5_copyFrom_31 : decode (mc mX5_copyFrom) 31 = .ok (.iconst 0, 1) := by decide +kernel
theorem dX5_copyFrom_32 : decode (mc mX5_copyFrom) 32 = .ok (.iconst 5, 1) := by decide +kernel
theorem dX5_copyFrom_33 : decode (mc mX5_copyFrom) 33 = .ok (.invokestatic 45, 3) := by decide +kernel
theorem dX5_copyFrom_36 : decode (mc mX5_copyFrom) 36 = .ok (.aload_n 1, 1) := by decide +kernel
theorem dX5_copyFrom_37 : decode (mc mX5_copyFrom) 37 = .ok (.getfield 22, 3) := by decide +kernel
theorem dX5_copyFrom_40 : decode (mc mX5_copyFrom) 40 = .ok (.iconst 0, 1) := by decide +kernel
theorem dX5_copyFrom_41 : decode (mc mX5_copyFrom) 41 = .ok (.aload_n 0, 1) := by decide +kernel
theorem dX5_copyFrom_42 : decode (mc mX5_copyFrom) 42 = .ok (.getfield 22, 3) := by decide +kernel
theorem dX5_copyFrom_45 : decode (mc mX5_copyFrom) 45 = .ok (.iconst 0, 1) := by decide +kernel
theorem dX5_copyFrom_46 : decode (mc mX5_copyFrom) 46 = .ok (.iconst 5, 1) := by decide +kernel
theorem dX5_copyFrom_47 : decode (mc mX5_copyFrom) 47 = .ok (.invokestatic 45, 3) := by decide +kernel
theorem dX5_copyFrom_50 : decode (mc mX5_copyFrom) 50 = .ok (.iconst 0, 1) := by decide +kernel
theorem dX5_copyFrom_51 : decode (mc mX5_copyFrom) 51 = .ok (.istore_n 2, 1) := by decide +kernel
theorem dX5_copyFrom_52 : decode (mc mX5_copyFrom) 52 = .ok (.iload_n 2, 1) := by decide +kernel
theorem dX5_copyFrom_53 : decode (mc mX5_copyFrom) 53 = .ok (.iconst 3, 1) := by decide +kernel
theorem dX5_copyFrom_54 : decode (mc mX5_copyFrom) 54 = .ok (.if_icmp .ge 24, 3) := by decide +kernel
theorem dX5_copyFrom_57 : decode (mc mX5_copyFrom) 57 = .ok (.aload_n 0, 1) := by decide +kernel
theorem dX5_copyFrom_58 : decode (mc mX5_copyFrom) 58 = .ok (.getfield 27, 3) := by decide +kernel
theorem dX5_copyFrom_61 : decode (mc mX5_copyFrom) 61 = .ok (.iload_n 2, 1) := by decide +kernel
theorem dX5_copyFrom_62 : decode (mc mX5_copyFrom) 62 = .ok (.aaload, 1) := by decide +kernel
theorem dX5_copyFrom_63 : decode (mc mX5_copyFrom) 63 = .ok (.aload_n 1, 1) := by decide +kernel
theorem dX5_copyFrom_64 : decode (mc mX5_copyFrom) 64 = .ok (.getfield 27, 3) := by decide +kernel
theorem dX5_copyFrom_67 : decode (mc mX5_copyFrom) 67 = .ok (.iload_n 2, 1) := by decide +kernel
theorem dX5_copyFrom_68 : decode (mc mX5_copyFrom) 68 = .ok (.aaload, 1) := by decide +kernel
theorem dX5_copyFrom_69 : decode (mc mX5_copyFrom) 69 = .ok (.invokevirtual 51, 3) := by decide +kernel
theorem dX5_copyFrom_72 : decode (mc mX5_copyFrom) 72 = .ok (.iinc 2 1, 3) := by decide +kernel
theorem dX5_copyFrom_75 : decode (mc mX5_copyFrom) 75 = .ok (.goto (-23), 3) := by decide +kernel
theorem dX5_copyFrom_78 : decode (mc mX5_copyFrom) 78 = .ok (.aload_n 0, 1) := by decide +kernel
theorem dX5_copyFrom_79 : decode (mc mX5_copyFrom) 79 = .ok (.aload_n 1, 1) := by decide +kernel
theorem dX5_copyFrom_80 : decode (mc mX5_copyFrom) 80 = .ok (.getfield 31, 3) := by decide +kernel
theorem dX5_copyFrom_83 : decode (mc mX5_copyFrom) 83 = .ok (.putfield 31, 3) := by decide +kernel
theorem dX5_copyFrom_86 : decode (mc mX5_copyFrom) 86 = .ok (.aload_n 0, 1) := by decide +kernel
theorem dX5_copyFrom_87 : decode (mc mX5_copyFrom) 87 = .ok (.aload_n 1, 1) := by decide +kernel
theorem dX5_copyFrom_88 : decode (mc mX5_copyFrom) 88 = .ok (.getfield 34, 3) := by decide +kernel
theorem dX5_copyFrom_91 : decode (mc mX5_copyFrom) 91 = .ok (.putfield 34, 3) := by decide +kernel
theorem dX5_copyFrom_94 : decode (mc mX5_copyFrom) 94 = .ok (.aload_n 0, 1) := by decide +kernel
theorem dX5_copyFrom_95 : decode (mc mX5_copyFrom) 95 = .ok (.aload_n 1, 1) := by decide +kernel
theorem dX5_copyFrom_96 : decode (mc mX5_copyFrom) 96 = .ok (.getfield 37, 3) := by decide +kernel
theorem dX5_copyFrom_99 : decode (mc mX5_copyFrom) 99 = .ok (.putfield 37, 3) := by decide +kernel
theorem dX5_copyFrom_102 : decode (mc mX5_copyFrom) 102 = .ok (.aload_n 0, 1) := by decide +kernel
theorem dX5_copyFrom_103 : decode (mc mX5_copyFrom) 103 = .ok (.aload_n 1, 1) := by decide +kernel
theorem dX5_copyFrom_104 : decode (mc mX5_copyFrom) 104 = .ok (.getfield 40, 3) := by decide +kernel
theorem dX5_copyFrom_107 : decode (mc mX5_copyFrom) 107 = .ok (.putfield 40, 3) := by decide +kernel
theorem dX5_copyFrom_110 : decode (mc mX5_copyFrom) 110 = .ok (.return_, 1) := by decide +kernel
theorem dX5_noHour_0 : decode (mc mX5_noHour) 0 = .ok (.iload_n 1, 1) := by decide +kernel
theorem dX5_noHour_1 : decode (mc mX5_noHour) 1 = .ok (.ifCond .lt 11, 3) := by decide +kernel
theorem dX5_noHour_4 : decode (mc mX5_noHour) 4 = .ok (.iload_n 1, 1) := by decide +kernel
theorem dX5_noHour_5 : decode (mc mX5_noHour) 5 = .ok (.aload_n 0, 1) := by decide +kernel
theorem dX5_noHour_6 : decode (mc mX5_noHour) 6 = .ok (.getfield 9, 3) := by decide +kernel
theorem dX5_noHour_9 : decode (mc mX5_noHour) 9 = .ok (.if_icmp .lt 7, 3) := by decide +kernel
theorem dX5_noHour_12 : decode (mc mX5_noHour) 12 = .ok (.iconst 1, 1) := by decide +kernel
theorem dX5_noHour_13 : decode (mc mX5_noHour) 13 = .ok (.goto 4, 3) := by decide +kernel
theorem dX5_noHour_16 : decode (mc mX5_noHour) 16 = .ok (.iconst 0, 1) := by decide +kernel
theorem dX5_noHour_17 : decode (mc mX5_noHour) 17 = .ok (.ireturn, 1) := by decide +kernel
theorem dX5_noPlant_0 : decode (mc mX5_noPlant) 0 = .ok (.iload_n 1, 1) := by decide +kernel
theorem dX5_noPlant_1 : decode (mc mX5_noPlant) 1 = .ok (.ifCond .lt 11, 3) := by decide +kernel
theorem dX5_noPlant_4 : decode (mc mX5_noPlant) 4 = .ok (.iload_n 1, 1) := by decide +kernel
theorem dX5_noPlant_5 : decode (mc mX5_noPlant) 5 = .ok (.aload_n 0, 1) := by decide +kernel
theorem dX5_noPlant_6 : decode (mc mX5_noPlant) 6 = .ok (.getfield 31, 3) := by decide +kernel
theorem dX5_noPlant_9 : decode (mc mX5_noPlant) 9 = .ok (.if_icmp .lt 7, 3) := by decide +kernel
theorem dX5_noPlant_12 : decode (mc mX5_noPlant) 12 = .ok (.iconst 1, 1) := by decide +kernel
theorem dX5_noPlant_13 : decode (mc mX5_noPlant) 13 = .ok (.goto 4, 3) := by decide +kernel
theorem dX5_noPlant_16 : decode (mc mX5_noPlant) 16 = .ok (.iconst 0, 1) := by decide +kernel
theorem dX5_noPlant_17 : decode (mc mX5_noPlant) 17 = .ok (.ireturn, 1) := by decide +kernel
theorem dX5_demandOfAll_0 : decode (mc mX5_demandOfAll) 0 = .ok (.iconst 0, 1) := by decide +kernel
theorem dX5_demandOfAll_1 : decode (mc mX5_demandOfAll) 1 = .ok (.istore_n 1, 1) := by decide +kernel
theorem dX5_demandOfAll_2 : decode (mc mX5_demandOfAll) 2 = .ok (.iconst 0, 1) := by decide +kernel
theorem dX5_demandOfAll_3 : decode (mc mX5_demandOfAll) 3 = .ok (.istore_n 2, 1) := by decide +kernel
theorem dX5_demandOfAll_4 : decode (mc mX5_demandOfAll) 4 = .ok (.iload_n 2, 1) := by decide +kernel
theorem dX5_demandOfAll_5 : decode (mc mX5_demandOfAll) 5 = .ok (.aload_n 0, 1) := by decide +kernel
theorem dX5_demandOfAll_6 : decode (mc mX5_demandOfAll) 6 = .ok (.getfield 9, 3) := by decide +kernel
theorem dX5_demandOfAll_9 : decode (mc mX5_demandOfAll) 9 = .ok (.if_icmp .ge 18, 3) := by decide +kernel
theorem dX5_demandOfAll_12 : decode (mc mX5_demandOfAll) 12 = .ok (.iload_n 1, 1) := by decide +kernel
theorem dX5_demandOfAll_13 : decode (mc mX5_demandOfAll) 13 = .ok (.aload_n 0, 1) := by decide +kernel
theorem dX5_demandOfAll_14 : decode (mc mX5_demandOfAll) 14 = .ok (.getfield 15, 3) := by decide +kernel
theorem dX5_demandOfAll_17 : decode (mc mX5_demandOfAll) 17 = .ok (.iload_n 2, 1) := by decide +kernel
theorem dX5_demandOfAll_18 : decode (mc mX5_demandOfAll) 18 = .ok (.iaload, 1) := by decide +kernel
theorem dX5_demandOfAll_19 : decode (mc mX5_demandOfAll) 19 = .ok (.iadd, 1) := by decide +kernel
theorem dX5_demandOfAll_20 : decode (mc mX5_demandOfAll) 20 = .ok (.istore_n 1, 1) := by decide +kernel
theorem dX5_demandOfAll_21 : decode (mc mX5_demandOfAll) 21 = .ok (.iinc 2 1, 3) := by decide +kernel
theorem dX5_demandOfAll_24 : decode (mc mX5_demandOfAll) 24 = .ok (.goto (-20), 3) := by decide +kernel
theorem dX5_demandOfAll_27 : decode (mc mX5_demandOfAll) 27 = .ok (.iload_n 1, 1) := by decide +kernel
theorem dX5_demandOfAll_28 : decode (mc mX5_demandOfAll) 28 = .ok (.ireturn, 1) := by decide +kernel
theorem dX5_setSpan_0 : decode (mc mX5_setSpan) 0 = .ok (.iload_n 1, 1) := by decide +kernel
theorem dX5_setSpan_1 : decode (mc mX5_setSpan) 1 = .ok (.iconst 1, 1) := by decide +kernel
theorem dX5_setSpan_2 : decode (mc mX5_setSpan) 2 = .ok (.if_icmp .ge 6, 3) := by decide +kernel
theorem dX5_setSpan_5 : decode (mc mX5_setSpan) 5 = .ok (.bipush (-4), 2) := by decide +kernel
theorem dX5_setSpan_7 : decode (mc mX5_setSpan) 7 = .ok (.ireturn, 1) := by decide +kernel
theorem dX5_setSpan_8 : decode (mc mX5_setSpan) 8 = .ok (.iload_n 1, 1) := by decide +kernel
theorem dX5_setSpan_9 : decode (mc mX5_setSpan) 9 = .ok (.iconst 5, 1) := by decide +kernel
theorem dX5_setSpan_10 : decode (mc mX5_setSpan) 10 = .ok (.if_icmp .le 6, 3) := by decide +kernel
theorem dX5_setSpan_13 : decode (mc mX5_setSpan) 13 = .ok (.bipush (-6), 2) := by decide +kernel
theorem dX5_setSpan_15 : decode (mc mX5_setSpan) 15 = .ok (.ireturn, 1) := by decide +kernel
theorem dX5_setSpan_16 : decode (mc mX5_setSpan) 16 = .ok (.aload_n 0, 1) := by decide +kernel
theorem dX5_setSpan_17 : decode (mc mX5_setSpan) 17 = .ok (.getfield 9, 3) := by decide +kernel
theorem dX5_setSpan_20 : decode (mc mX5_setSpan) 20 = .ok (.istore_n 2, 1) := by decide +kernel
theorem dX5_setSpan_21 : decode (mc mX5_setSpan) 21 = .ok (.aload_n 0, 1) := by decide +kernel
theorem dX5_setSpan_22 : decode (mc mX5_setSpan) 22 = .ok (.iload_n 1, 1) := by decide +kernel
theorem dX5_setSpan_23 : decode (mc mX5_setSpan) 23 = .ok (.putfield 9, 3) := by decide +kernel
theorem dX5_setSpan_26 : decode (mc mX5_setSpan) 26 = .ok (.iload_n 2, 1) := by decide +kernel
theorem dX5_setSpan_27 : decode (mc mX5_setSpan) 27 = .ok (.ireturn, 1) := by decide +kernel
theorem dX5_setDemand_0 : decode (mc mX5_setDemand) 0 = .ok (.aload_n 0, 1) := by decide +kernel
theorem dX5_setDemand_1 : decode (mc mX5_setDemand) 1 = .ok (.iload_n 1, 1) := by decide +kernel
theorem dX5_setDemand_2 : decode (mc mX5_setDemand) 2 = .ok (.invokevirtual 55, 3) := by decide +kernel
theorem dX5_setDemand_5 : decode (mc mX5_setDemand) 5 = .ok (.ifCond .eq 5, 3) := by decide +kernel
theorem dX5_setDemand_8 : decode (mc mX5_setDemand) 8 = .ok (.iconst (-1), 1) := by decide +kernel
theorem dX5_setDemand_9 : decode (mc mX5_setDemand) 9 = .ok (.ireturn, 1) := by decide +kernel
theorem dX5_setDemand_10 : decode (mc mX5_setDemand) 10 = .ok (.iload_n 2, 1) := by decide +kernel
theorem dX5_setDemand_11 : decode (mc mX5_setDemand) 11 = .ok (.ifCond .lt 7, 3) := by decide +kernel
theorem dX5_setDemand_14 : decode (mc mX5_setDemand) 14 = .ok (.iload_n 3, 1) := by decide +kernel
theorem dX5_setDemand_15 : decode (mc mX5_setDemand) 15 = .ok (.ifCond .ge 6, 3) := by decide +kernel
theorem dX5_setDemand_18 : decode (mc mX5_setDemand) 18 = .ok (.bipush (-4), 2) := by decide +kernel
theorem dX5_setDemand_20 : decode (mc mX5_setDemand) 20 = .ok (.ireturn, 1) := by decide +kernel
theorem dX5_setDemand_21 : decode (mc mX5_setDemand) 21 = .ok (.iload_n 2, 1) := by decide +kernel
theorem dX5_setDemand_22 : decode (mc mX5_setDemand) 22 = .ok (.bipush 99, 2) := by decide +kernel
theorem dX5_setDemand_24 : decode (mc mX5_setDemand) 24 = .ok (.if_icmp .gt 9, 3) := by decide +kernel
theorem dX5_setDemand_27 : decode (mc mX5_setDemand) 27 = .ok (.iload_n 3, 1) := by decide +kernel
theorem dX5_setDemand_28 : decode (mc mX5_setDemand) 28 = .ok (.bipush 20, 2) := by decide +kernel
theorem dX5_setDemand_30 : decode (mc mX5_setDemand) 30 = .ok (.if_icmp .le 6, 3) := by decide +kernel
theorem dX5_setDemand_33 : decode (mc mX5_setDemand) 33 = .ok (.bipush (-6), 2) := by decide +kernel
theorem dX5_setDemand_35 : decode (mc mX5_setDemand) 35 = .ok (.ireturn, 1) := by decide +kernel
theorem dX5_setDemand_36 : decode (mc mX5_setDemand) 36 = .ok (.bipush 100, 2) := by decide +kernel
theorem dX5_setDemand_38 : decode (mc mX5_setDemand) 38 = .ok (.aload_n 0, 1) := by decide +kernel
theorem dX5_setDemand_39 : decode (mc mX5_setDemand) 39 = .ok (.getfield 15, 3) := by decide +kernel
theorem dX5_setDemand_42 : decode (mc mX5_setDemand) 42 = .ok (.iload_n 1, 1) := by decide +kernel
theorem dX5_setDemand_43 : decode (mc mX5_setDemand) 43 = .ok (.iaload, 1) := by decide +kernel
theorem dX5_setDemand_44 : decode (mc mX5_setDemand) 44 = .ok (.imul, 1) := by decide +kernel
theorem dX5_setDemand_45 : decode (mc mX5_setDemand) 45 = .ok (.aload_n 0, 1) := by decide +kernel
theorem dX5_setDemand_46 : decode (mc mX5_setDemand) 46 = .ok (.getfield 19, 3) := by decide +kernel
theorem dX5_setDemand_49 : decode (mc mX5_setDemand) 49 = .ok (.iload_n 1, 1) := by decide +kernel
theorem dX5_setDemand_50 : decode (mc mX5_setDemand) 50 = .ok (.iaload, 1) := by decide +kernel
theorem dX5_setDemand_51 : decode (mc mX5_setDemand) 51 = .ok (.iadd, 1) := by decide +kernel
theorem dX5_setDemand_52 : decode (mc mX5_setDemand) 52 = .ok (.istore 4, 2) := by decide +kernel
theorem dX5_setDemand_54 : decode (mc mX5_setDemand) 54 = .ok (.aload_n 0, 1) := by decide +kernel
theorem dX5_setDemand_55 : decode (mc mX5_setDemand) 55 = .ok (.getfield 15, 3) := by decide +kernel
theorem dX5_setDemand_58 : decode (mc mX5_setDemand) 58 = .ok (.iload_n 1, 1) := by decide +kernel
theorem dX5_setDemand_59 : decode (mc mX5_setDemand) 59 = .ok (.iload_n 2, 1) := by decide +kernel
theorem dX5_setDemand_60 : decode (mc mX5_setDemand) 60 = .ok (.iastore, 1) := by decide +kernel
theorem dX5_setDemand_61 : decode (mc mX5_setDemand) 61 = .ok (.aload_n 0, 1) := by decide +kernel
theorem dX5_setDemand_62 : decode (mc mX5_setDemand) 62 = .ok (.getfield 19, 3) := by decide +kernel
theorem dX5_setDemand_65 : decode (mc mX5_setDemand) 65 = .ok (.iload_n 1, 1) := by decide +kernel
theorem dX5_setDemand_66 : decode (mc mX5_setDemand) 66 = .ok (.iload_n 3, 1) := by decide +kernel
theorem dX5_setDemand_67 : decode (mc mX5_setDemand) 67 = .ok (.iastore, 1) := by decide +kernel
theorem dX5_setDemand_68 : decode (mc mX5_setDemand) 68 = .ok (.iload 4, 2) := by decide +kernel
theorem dX5_setDemand_70 : decode (mc mX5_setDemand) 70 = .ok (.ireturn, 1) := by decide +kernel
theorem dX5_addPlant_0 : decode (mc mX5_addPlant) 0 = .ok (.iload_n 1, 1) := by decide +kernel
theorem dX5_addPlant_1 : decode (mc mX5_addPlant) 1 = .ok (.ifCond .lt 9, 3) := by decide +kernel
theorem dX5_addPlant_4 : decode (mc mX5_addPlant) 4 = .ok (.iload_n 1, 1) := by decide +kernel
theorem dX5_addPlant_5 : decode (mc mX5_addPlant) 5 = .ok (.bipush 6, 2) := by decide +kernel
theorem dX5_addPlant_7 : decode (mc mX5_addPlant) 7 = .ok (.if_icmp .lt 6, 3) := by decide +kernel
theorem dX5_addPlant_10 : decode (mc mX5_addPlant) 10 = .ok (.bipush (-2), 2) := by decide +kernel
theorem dX5_addPlant_12 : decode (mc mX5_addPlant) 12 = .ok (.ireturn, 1) := by decide +kernel
theorem dX5_addPlant_13 : decode (mc mX5_addPlant) 13 = .ok (.iload_n 2, 1) := by decide +kernel
theorem dX5_addPlant_14 : decode (mc mX5_addPlant) 14 = .ok (.ifCond .ge 6, 3) := by decide +kernel
theorem dX5_addPlant_17 : decode (mc mX5_addPlant) 17 = .ok (.bipush (-4), 2) := by decide +kernel
theorem dX5_addPlant_19 : decode (mc mX5_addPlant) 19 = .ok (.ireturn, 1) := by decide +kernel
theorem dX5_addPlant_20 : decode (mc mX5_addPlant) 20 = .ok (.iload_n 2, 1) := by decide +kernel
theorem dX5_addPlant_21 : decode (mc mX5_addPlant) 21 = .ok (.bipush 10, 2) := by decide +kernel
theorem dX5_addPlant_23 : decode (mc mX5_addPlant) 23 = .ok (.if_icmp .ge 11, 3) := by decide +kernel
theorem dX5_addPlant_26 : decode (mc mX5_addPlant) 26 = .ok (.aload_n 0, 1) := by decide +kernel
theorem dX5_addPlant_27 : decode (mc mX5_addPlant) 27 = .ok (.getfield 31, 3) := by decide +kernel
theorem dX5_addPlant_30 : decode (mc mX5_addPlant) 30 = .ok (.iconst 3, 1) := by decide +kernel
theorem dX5_addPlant_31 : decode (mc mX5_addPlant) 31 = .ok (.if_icmp .lt 6, 3) := by decide +kernel
theorem dX5_addPlant_34 : decode (mc mX5_addPlant) 34 = .ok (.bipush (-6), 2) := by decide +kernel
theorem dX5_addPlant_36 : decode (mc mX5_addPlant) 36 = .ok (.ireturn, 1) := by decide +kernel
theorem dX5_addPlant_37 : decode (mc mX5_addPlant) 37 = .ok (.aload_n 0, 1) := by decide +kernel
theorem dX5_addPlant_38 : decode (mc mX5_addPlant) 38 = .ok (.getfield 27, 3) := by decide +kernel
theorem dX5_addPlant_41 : decode (mc mX5_addPlant) 41 = .ok (.aload_n 0, 1) := by decide +kernel
theorem dX5_addPlant_42 : decode (mc mX5_addPlant) 42 = .ok (.getfield 31, 3) := by decide +kernel
theorem dX5_addPlant_45 : decode (mc mX5_addPlant) 45 = .ok (.aaload, 1) := by decide +kernel
theorem dX5_addPlant_46 : decode (mc mX5_addPlant) 46 = .ok (.iload_n 1, 1) := by decide +kernel
theorem dX5_addPlant_47 : decode (mc mX5_addPlant) 47 = .ok (.iload_n 2, 1) := by decide +kernel
theorem dX5_addPlant_48 : decode (mc mX5_addPlant) 48 = .ok (.invokevirtual 59, 3) := by decide +kernel
theorem dX5_addPlant_51 : decode (mc mX5_addPlant) 51 = .ok (.aload_n 0, 1) := by decide +kernel
theorem dX5_addPlant_52 : decode (mc mX5_addPlant) 52 = .ok (.dup, 1) := by decide +kernel
theorem dX5_addPlant_53 : decode (mc mX5_addPlant) 53 = .ok (.getfield 31, 3) := by decide +kernel
theorem dX5_addPlant_56 : decode (mc mX5_addPlant) 56 = .ok (.iconst 1, 1) := by decide +kernel
theorem dX5_addPlant_57 : decode (mc mX5_addPlant) 57 = .ok (.iadd, 1) := by decide +kernel
theorem dX5_addPlant_58 : decode (mc mX5_addPlant) 58 = .ok (.putfield 31, 3) := by decide +kernel
theorem dX5_addPlant_61 : decode (mc mX5_addPlant) 61 = .ok (.aload_n 0, 1) := by decide +kernel
theorem dX5_addPlant_62 : decode (mc mX5_addPlant) 62 = .ok (.getfield 31, 3) := by decide +kernel
theorem dX5_addPlant_65 : decode (mc mX5_addPlant) 65 = .ok (.iconst 1, 1) := by decide +kernel
theorem dX5_addPlant_66 : decode (mc mX5_addPlant) 66 = .ok (.isub, 1) := by decide +kernel
theorem dX5_addPlant_67 : decode (mc mX5_addPlant) 67 = .ok (.ireturn, 1) := by decide +kernel
theorem dX5_setRange_0 : decode (mc mX5_setRange) 0 = .ok (.aload_n 0, 1) := by decide +kernel
theorem dX5_setRange_1 : decode (mc mX5_setRange) 1 = .ok (.iload_n 1, 1) := by decide +kernel
theorem dX5_setRange_2 : decode (mc mX5_setRange) 2 = .ok (.invokevirtual 63, 3) := by decide +kernel
theorem dX5_setRange_5 : decode (mc mX5_setRange) 5 = .ok (.ifCond .eq 5, 3) := by decide +kernel
theorem dX5_setRange_8 : decode (mc mX5_setRange) 8 = .ok (.iconst (-1), 1) := by decide +kernel
theorem dX5_setRange_9 : decode (mc mX5_setRange) 9 = .ok (.ireturn, 1) := by decide +kernel
theorem dX5_setRange_10 : decode (mc mX5_setRange) 10 = .ok (.iload_n 2, 1) := by decide +kernel
theorem dX5_setRange_11 : decode (mc mX5_setRange) 11 = .ok (.ifCond .lt 7, 3) := by decide +kernel
theorem dX5_setRange_14 : decode (mc mX5_setRange) 14 = .ok (.iload_n 3, 1) := by decide +kernel
theorem dX5_setRange_15 : decode (mc mX5_setRange) 15 = .ok (.ifCond .ge 6, 3) := by decide +kernel
theorem dX5_setRange_18 : decode (mc mX5_setRange) 18 = .ok (.bipush (-4), 2) := by decide +kernel
theorem dX5_setRange_20 : decode (mc mX5_setRange) 20 = .ok (.ireturn, 1) := by decide +kernel
theorem dX5_setRange_21 : decode (mc mX5_setRange) 21 = .ok (.iload_n 2, 1) := by decide +kernel
theorem dX5_setRange_22 : decode (mc mX5_setRange) 22 = .ok (.bipush 30, 2) := by decide +kernel
theorem dX5_setRange_24 : decode (mc mX5_setRange) 24 = .ok (.if_icmp .gt 9, 3) := by decide +kernel
theorem dX5_setRange_27 : decode (mc mX5_setRange) 27 = .ok (.iload_n 3, 1) := by decide +kernel
theorem dX5_setRange_28 : decode (mc mX5_setRange) 28 = .ok (.bipush 60, 2) := by decide +kernel
theorem dX5_setRange_30 : decode (mc mX5_setRange) 30 = .ok (.if_icmp .le 6, 3) := by decide +kernel
theorem dX5_setRange_33 : decode (mc mX5_setRange) 33 = .ok (.bipush (-6), 2) := by decide +kernel
theorem dX5_setRange_35 : decode (mc mX5_setRange) 35 = .ok (.ireturn, 1) := by decide +kernel
theorem dX5_setRange_36 : decode (mc mX5_setRange) 36 = .ok (.iload_n 2, 1) := by decide +kernel
theorem dX5_setRange_37 : decode (mc mX5_setRange) 37 = .ok (.iload_n 3, 1) := by decide +kernel
theorem dX5_setRange_38 : decode (mc mX5_setRange) 38 = .ok (.if_icmp .le 6, 3) := by decide +kernel
theorem dX5_setRange_41 : decode (mc mX5_setRange) 41 = .ok (.bipush (-3), 2) := by decide +kernel
theorem dX5_setRange_43 : decode (mc mX5_setRange) 43 = .ok (.ireturn, 1) := by decide +kernel
theorem dX5_setRange_44 : decode (mc mX5_setRange) 44 = .ok (.bipush 100, 2) := by decide +kernel
theorem dX5_setRange_46 : decode (mc mX5_setRange) 46 = .ok (.aload_n 0, 1) := by decide +kernel
theorem dX5_setRange_47 : decode (mc mX5_setRange) 47 = .ok (.getfield 27, 3) := by decide +kernel
theorem dX5_setRange_50 : decode (mc mX5_setRange) 50 = .ok (.iload_n 1, 1) := by decide +kernel
theorem dX5_setRange_51 : decode (mc mX5_setRange) 51 = .ok (.aaload, 1) := by decide +kernel
theorem dX5_setRange_52 : decode (mc mX5_setRange) 52 = .ok (.getfield 66, 3) := by decide +kernel
theorem dX5_setRange_55 : decode (mc mX5_setRange) 55 = .ok (.imul, 1) := by decide +kernel
theorem dX5_setRange_56 : decode (mc mX5_setRange) 56 = .ok (.aload_n 0, 1) := by decide +kernel
theorem dX5_setRange_57 : decode (mc mX5_setRange) 57 = .ok (.getfield 27, 3) := by decide +kernel
theorem dX5_setRange_60 : decode (mc mX5_setRange) 60 = .ok (.iload_n 1, 1) := by decide +kernel
theorem dX5_setRange_61 : decode (mc mX5_setRange) 61 = .ok (.aaload, 1) := by decide +kernel
theorem dX5_setRange_62 : decode (mc mX5_setRange) 62 = .ok (.getfield 69, 3) := by decide +kernel
theorem dX5_setRange_65 : decode (mc mX5_setRange) 65 = .ok (.iadd, 1) := by decide +kernel
theorem dX5_setRange_66 : decode (mc mX5_setRange) 66 = .ok (.istore 4, 2) := by decide +kernel
theorem dX5_setRange_68 : decode (mc mX5_setRange) 68 = .ok (.aload_n 0, 1) := by decide +kernel
theorem dX5_setRange_69 : decode (mc mX5_setRange) 69 = .ok (.getfield 27, 3) := by decide +kernel
theorem dX5_setRange_72 : decode (mc mX5_setRange) 72 = .ok (.iload_n 1, 1) := by decide +kernel
theorem dX5_setRange_73 : decode (mc mX5_setRange) 73 = .ok (.aaload, 1) := by decide +kernel
theorem dX5_setRange_74 : decode (mc mX5_setRange) 74 = .ok (.iload_n 2, 1) := by decide +kernel
theorem dX5_setRange_75 : decode (mc mX5_setRange) 75 = .ok (.putfield 66, 3) := by decide +kernel
theorem dX5_setRange_78 : decode (mc mX5_setRange) 78 = .ok (.aload_n 0, 1) := by decide +kernel
theorem dX5_setRange_79 : decode (mc mX5_setRange) 79 = .ok (.getfield 27, 3) := by decide +kernel
theorem dX5_setRange_82 : decode (mc mX5_setRange) 82 = .ok (.iload_n 1, 1) := by decide +kernel
theorem dX5_setRange_83 : decode (mc mX5_setRange) 83 = .ok (.aaload, 1) := by decide +kernel
theorem dX5_setRange_84 : decode (mc mX5_setRange) 84 = .ok (.iload_n 3, 1) := by decide +kernel
theorem dX5_setRange_85 : decode (mc mX5_setRange) 85 = .ok (.putfield 69, 3) := by decide +kernel
theorem dX5_setRange_88 : decode (mc mX5_setRange) 88 = .ok (.iload 4, 2) := by decide +kernel
theorem dX5_setRange_90 : decode (mc mX5_setRange) 90 = .ok (.ireturn, 1) := by decide +kernel
theorem dX5_setCosts_0 : decode (mc mX5_setCosts) 0 = .ok (.aload_n 0, 1) := by decide +kernel
theorem dX5_setCosts_1 : decode (mc mX5_setCosts) 1 = .ok (.iload_n 1, 1) := by decide +kernel
theorem dX5_setCosts_2 : decode (mc mX5_setCosts) 2 = .ok (.invokevirtual 63, 3) := by decide +kernel
theorem dX5_setCosts_5 : decode (mc mX5_setCosts) 5 = .ok (.ifCond .eq 5, 3) := by decide +kernel
theorem dX5_setCosts_8 : decode (mc mX5_setCosts) 8 = .ok (.iconst (-1), 1) := by decide +kernel
theorem dX5_setCosts_9 : decode (mc mX5_setCosts) 9 = .ok (.ireturn, 1) := by decide +kernel
theorem dX5_setCosts_10 : decode (mc mX5_setCosts) 10 = .ok (.iload_n 2, 1) := by decide +kernel
theorem dX5_setCosts_11 : decode (mc mX5_setCosts) 11 = .ok (.ifCond .lt 12, 3) := by decide +kernel
theorem dX5_setCosts_14 : decode (mc mX5_setCosts) 14 = .ok (.iload_n 3, 1) := by decide +kernel
theorem dX5_setCosts_15 : decode (mc mX5_setCosts) 15 = .ok (.ifCond .lt 8, 3) := by decide +kernel
theorem dX5_setCosts_18 : decode (mc mX5_setCosts) 18 = .ok (.iload 4, 2) := by decide +kernel
theorem dX5_setCosts_20 : decode (mc mX5_setCosts) 20 = .ok (.ifCond .ge 6, 3) := by decide +kernel
theorem dX5_setCosts_23 : decode (mc mX5_setCosts) 23 = .ok (.bipush (-4), 2) := by decide +kernel
theorem dX5_setCosts_25 : decode (mc mX5_setCosts) 25 = .ok (.ireturn, 1) := by decide +kernel
theorem dX5_setCosts_26 : decode (mc mX5_setCosts) 26 = .ok (.iload_n 2, 1) := by decide +kernel
theorem dX5_setCosts_27 : decode (mc mX5_setCosts) 27 = .ok (.bipush 9, 2) := by decide +kernel
theorem dX5_setCosts_29 : decode (mc mX5_setCosts) 29 = .ok (.if_icmp .gt 16, 3) := by decide +kernel
theorem dX5_setCosts_32 : decode (mc mX5_setCosts) 32 = .ok (.iload_n 3, 1) := by decide +kernel
theorem dX5_setCosts_33 : decode (mc mX5_setCosts) 33 = .ok (.bipush 30, 2) := by decide +kernel
theorem dX5_setCosts_35 : decode (mc mX5_setCosts) 35 = .ok (.if_icmp .gt 10, 3) := by decide +kernel
theorem dX5_setCosts_38 : decode (mc mX5_setCosts) 38 = .ok (.iload 4, 2) := by decide +kernel
theorem dX5_setCosts_40 : decode (mc mX5_setCosts) 40 = .ok (.bipush 50, 2) := by decide +kernel
theorem dX5_setCosts_42 : decode (mc mX5_setCosts) 42 = .ok (.if_icmp .le 6, 3) := by decide +kernel
theorem dX5_setCosts_45 : decode (mc mX5_setCosts) 45 = .ok (.bipush (-6), 2) := by decide +kernel
theorem dX5_setCosts_47 : decode (mc mX5_setCosts) 47 = .ok (.ireturn, 1) := by decide +kernel
theorem dX5_setCosts_48 : decode (mc mX5_setCosts) 48 = .ok (.sipush 10000, 3) := by decide +kernel
theorem dX5_setCosts_51 : decode (mc mX5_setCosts) 51 = .ok (.aload_n 0, 1) := by decide +kernel
theorem dX5_setCosts_52 : decode (mc mX5_setCosts) 52 = .ok (.getfield 27, 3) := by decide +kernel
theorem dX5_setCosts_55 : decode (mc mX5_setCosts) 55 = .ok (.iload_n 1, 1) := by decide +kernel
theorem dX5_setCosts_56 : decode (mc mX5_setCosts) 56 = .ok (.aaload, 1) := by decide +kernel
theorem dX5_setCosts_57 : decode (mc mX5_setCosts) 57 = .ok (.getfield 72, 3) := by decide +kernel
theorem dX5_setCosts_60 : decode (mc mX5_setCosts) 60 = .ok (.imul, 1) := by decide +kernel
theorem dX5_setCosts_61 : decode (mc mX5_setCosts) 61 = .ok (.bipush 100, 2) := by decide +kernel
theorem dX5_setCosts_63 : decode (mc mX5_setCosts) 63 = .ok (.aload_n 0, 1) := by decide +kernel
theorem dX5_setCosts_64 : decode (mc mX5_setCosts) 64 = .ok (.getfield 27, 3) := by decide +kernel
theorem dX5_setCosts_67 : decode (mc mX5_setCosts) 67 = .ok (.iload_n 1, 1) := by decide +kernel
theorem dX5_setCosts_68 : decode (mc mX5_setCosts) 68 = .ok (.aaload, 1) := by decide +kernel
theorem dX5_setCosts_69 : decode (mc mX5_setCosts) 69 = .ok (.getfield 74, 3) := by decide +kernel
theorem dX5_setCosts_72 : decode (mc mX5_setCosts) 72 = .ok (.imul, 1) := by decide +kernel
theorem dX5_setCosts_73 : decode (mc mX5_setCosts) 73 = .ok (.iadd, 1) := by decide +kernel
theorem dX5_setCosts_74 : decode (mc mX5_setCosts) 74 = .ok (.aload_n 0, 1) := by decide +kernel
theorem dX5_setCosts_75 : decode (mc mX5_setCosts) 75 = .ok (.getfield 27, 3) := by decide +kernel
theorem dX5_setCosts_78 : decode (mc mX5_setCosts) 78 = .ok (.iload_n 1, 1) := by decide +kernel
theorem dX5_setCosts_79 : decode (mc mX5_setCosts) 79 = .ok (.aaload, 1) := by decide +kernel
theorem dX5_setCosts_80 : decode (mc mX5_setCosts) 80 = .ok (.getfield 77, 3) := by decide +kernel
theorem dX5_setCosts_83 : decode (mc mX5_setCosts) 83 = .ok (.iadd, 1) := by decide +kernel
theorem dX5_setCosts_84 : decode (mc mX5_setCosts) 84 = .ok (.istore 5, 2) := by decide +kernel
theorem dX5_setCosts_86 : decode (mc mX5_setCosts) 86 = .ok (.aload_n 0, 1) := by decide +kernel
theorem dX5_setCosts_87 : decode (mc mX5_setCosts) 87 = .ok (.getfield 27, 3) := by decide +kernel
theorem dX5_setCosts_90 : decode (mc mX5_setCosts) 90 = .ok (.iload_n 1, 1) := by decide +kernel
theorem dX5_setCosts_91 : decode (mc mX5_setCosts) 91 = .ok (.aaload, 1) := by decide +kernel
theorem dX5_setCosts_92 : decode (mc mX5_setCosts) 92 = .ok (.iload_n 2, 1) := by decide +kernel
theorem dX5_setCosts_93 : decode (mc mX5_setCosts) 93 = .ok (.putfield 72, 3) := by decide +kernel
theorem dX5_setCosts_96 : decode (mc mX5_setCosts) 96 = .ok (.aload_n 0, 1) := by decide +kernel
theorem dX5_setCosts_97 : decode (mc mX5_setCosts) 97 = .ok (.getfield 27, 3) := by decide +kernel
theorem dX5_setCosts_100 : decode (mc mX5_setCosts) 100 = .ok (.iload_n 1, 1) := by decide +kernel
theorem dX5_setCosts_101 : decode (mc mX5_setCosts) 101 = .ok (.aaload, 1) := by decide +kernel
theorem dX5_setCosts_102 : decode (mc mX5_setCosts) 102 = .ok (.iload_n 3, 1) := by decide +kernel
theorem dX5_setCosts_103 : decode (mc mX5_setCosts) 103 = .ok (.putfield 74, 3) := by decide +kernel
theorem dX5_setCosts_106 : decode (mc mX5_setCosts) 106 = .ok (.aload_n 0, 1) := by decide +kernel
theorem dX5_setCosts_107 : decode (mc mX5_setCosts) 107 = .ok (.getfield 27, 3) := by decide +kernel
theorem dX5_setCosts_110 : decode (mc mX5_setCosts) 110 = .ok (.iload_n 1, 1) := by decide +kernel
theorem dX5_setCosts_111 : decode (mc mX5_setCosts) 111 = .ok (.aaload, 1) := by decide +kernel
theorem dX5_setCosts_112 : decode (mc mX5_setCosts) 112 = .ok (.iload 4, 2) := by decide +kernel
theorem dX5_setCosts_114 : decode (mc mX5_setCosts) 114 = .ok (.putfield 77, 3) := by decide +kernel
theorem dX5_setCosts_117 : decode (mc mX5_setCosts) 117 = .ok (.iload 5, 2) := by decide +kernel
theorem dX5_setCosts_119 : decode (mc mX5_setCosts) 119 = .ok (.ireturn, 1) := by decide +kernel
theorem dX5_setTimes_0 : decode (mc mX5_setTimes) 0 = .ok (.aload_n 0, 1) := by decide +kernel
theorem dX5_setTimes_1 : decode (mc mX5_setTimes) 1 = .ok (.iload_n 1, 1) := by decide +kernel
theorem dX5_setTimes_2 : decode (mc mX5_setTimes) 2 = .ok (.invokevirtual 63, 3) := by decide +kernel
theorem dX5_setTimes_5 : decode (mc mX5_setTimes) 5 = .ok (.ifCond .eq 5, 3) := by decide +kernel
theorem dX5_setTimes_8 : decode (mc mX5_setTimes) 8 = .ok (.iconst (-1), 1) := by decide +kernel
theorem dX5_setTimes_9 : decode (mc mX5_setTimes) 9 = .ok (.ireturn, 1) := by decide +kernel
theorem dX5_setTimes_10 : decode (mc mX5_setTimes) 10 = .ok (.iload_n 2, 1) := by decide +kernel
theorem dX5_setTimes_11 : decode (mc mX5_setTimes) 11 = .ok (.iconst 1, 1) := by decide +kernel
theorem dX5_setTimes_12 : decode (mc mX5_setTimes) 12 = .ok (.if_icmp .lt 8, 3) := by decide +kernel
theorem dX5_setTimes_15 : decode (mc mX5_setTimes) 15 = .ok (.iload_n 3, 1) := by decide +kernel
theorem dX5_setTimes_16 : decode (mc mX5_setTimes) 16 = .ok (.iconst 1, 1) := by decide +kernel
theorem dX5_setTimes_17 : decode (mc mX5_setTimes) 17 = .ok (.if_icmp .ge 6, 3) := by decide +kernel
theorem dX5_setTimes_20 : decode (mc mX5_setTimes) 20 = .ok (.bipush (-4), 2) := by decide +kernel
theorem dX5_setTimes_22 : decode (mc mX5_setTimes) 22 = .ok (.ireturn, 1) := by decide +kernel
theorem dX5_setTimes_23 : decode (mc mX5_setTimes) 23 = .ok (.iload_n 2, 1) := by decide +kernel
theorem dX5_setTimes_24 : decode (mc mX5_setTimes) 24 = .ok (.iconst 3, 1) := by decide +kernel
theorem dX5_setTimes_25 : decode (mc mX5_setTimes) 25 = .ok (.if_icmp .gt 8, 3) := by decide +kernel
theorem dX5_setTimes_28 : decode (mc mX5_setTimes) 28 = .ok (.iload_n 3, 1) := by decide +kernel
theorem dX5_setTimes_29 : decode (mc mX5_setTimes) 29 = .ok (.iconst 3, 1) := by decide +kernel
theorem dX5_setTimes_30 : decode (mc mX5_setTimes) 30 = .ok (.if_icmp .le 6, 3) := by decide +kernel
theorem dX5_setTimes_33 : decode (mc mX5_setTimes) 33 = .ok (.bipush (-6), 2) := by decide +kernel
theorem dX5_setTimes_35 : decode (mc mX5_setTimes) 35 = .ok (.ireturn, 1) := by decide +kernel
theorem dX5_setTimes_36 : decode (mc mX5_setTimes) 36 = .ok (.bipush 10, 2) := by decide +kernel
theorem dX5_setTimes_38 : decode (mc mX5_setTimes) 38 = .ok (.aload_n 0, 1) := by decide +kernel
theorem dX5_setTimes_39 : decode (mc mX5_setTimes) 39 = .ok (.getfield 27, 3) := by decide +kernel
theorem dX5_setTimes_42 : decode (mc mX5_setTimes) 42 = .ok (.iload_n 1, 1) := by decide +kernel
theorem dX5_setTimes_43 : decode (mc mX5_setTimes) 43 = .ok (.aaload, 1) := by decide +kernel
theorem dX5_setTimes_44 : decode (mc mX5_setTimes) 44 = .ok (.getfield 80, 3) := by decide +kernel
theorem dX5_setTimes_47 : decode (mc mX5_setTimes) 47 = .ok (.imul, 1) := by decide +kernel
theorem dX5_setTimes_48 : decode (mc mX5_setTimes) 48 = .ok (.aload_n 0, 1) := by decide +kernel
theorem dX5_setTimes_49 : decode (mc mX5_setTimes) 49 = .ok (.getfield 27, 3) := by decide +kernel
theorem dX5_setTimes_52 : decode (mc mX5_setTimes) 52 = .ok (.iload_n 1, 1) := by decide +kernel
theorem dX5_setTimes_53 : decode (mc mX5_setTimes) 53 = .ok (.aaload, 1) := by decide +kernel
theorem dX5_setTimes_54 : decode (mc mX5_setTimes) 54 = .ok (.getfield 83, 3) := by decide +kernel
theorem dX5_setTimes_57 : decode (mc mX5_setTimes) 57 = .ok (.iadd, 1) := by decide +kernel
theorem dX5_setTimes_58 : decode (mc mX5_setTimes) 58 = .ok (.istore 4, 2) := by decide +kernel
theorem dX5_setTimes_60 : decode (mc mX5_setTimes) 60 = .ok (.aload_n 0, 1) := by decide +kernel
theorem dX5_setTimes_61 : decode (mc mX5_setTimes) 61 = .ok (.getfield 27, 3) := by decide +kernel
theorem dX5_setTimes_64 : decode (mc mX5_setTimes) 64 = .ok (.iload_n 1, 1) := by decide +kernel
theorem dX5_setTimes_65 : decode (mc mX5_setTimes) 65 = .ok (.aaload, 1) := by decide +kernel
theorem dX5_setTimes_66 : decode (mc mX5_setTimes) 66 = .ok (.iload_n 2, 1) := by decide +kernel
theorem dX5_setTimes_67 : decode (mc mX5_setTimes) 67 = .ok (.putfield 80, 3) := by decide +kernel
theorem dX5_setTimes_70 : decode (mc mX5_setTimes) 70 = .ok (.aload_n 0, 1) := by decide +kernel
theorem dX5_setTimes_71 : decode (mc mX5_setTimes) 71 = .ok (.getfield 27, 3) := by decide +kernel
theorem dX5_setTimes_74 : decode (mc mX5_setTimes) 74 = .ok (.iload_n 1, 1) := by decide +kernel
theorem dX5_setTimes_75 : decode (mc mX5_setTimes) 75 = .ok (.aaload, 1) := by decide +kernel
theorem dX5_setTimes_76 : decode (mc mX5_setTimes) 76 = .ok (.iload_n 3, 1) := by decide +kernel
theorem dX5_setTimes_77 : decode (mc mX5_setTimes) 77 = .ok (.putfield 83, 3) := by decide +kernel
theorem dX5_setTimes_80 : decode (mc mX5_setTimes) 80 = .ok (.iload 4, 2) := by decide +kernel
theorem dX5_setTimes_82 : decode (mc mX5_setTimes) 82 = .ok (.ireturn, 1) := by decide +kernel
theorem dX5_setAge_0 : decode (mc mX5_setAge) 0 = .ok (.aload_n 0, 1) := by decide +kernel
theorem dX5_setAge_1 : decode (mc mX5_setAge) 1 = .ok (.iload_n 1, 1) := by decide +kernel
theorem dX5_setAge_2 : decode (mc mX5_setAge) 2 = .ok (.invokevirtual 63, 3) := by decide +kernel
theorem dX5_setAge_5 : decode (mc mX5_setAge) 5 = .ok (.ifCond .eq 5, 3) := by decide +kernel
theorem dX5_setAge_8 : decode (mc mX5_setAge) 8 = .ok (.iconst (-1), 1) := by decide +kernel
theorem dX5_setAge_9 : decode (mc mX5_setAge) 9 = .ok (.ireturn, 1) := by decide +kernel
theorem dX5_setAge_10 : decode (mc mX5_setAge) 10 = .ok (.iload_n 2, 1) := by decide +kernel
theorem dX5_setAge_11 : decode (mc mX5_setAge) 11 = .ok (.bipush (-4), 2) := by decide +kernel
theorem dX5_setAge_13 : decode (mc mX5_setAge) 13 = .ok (.if_icmp .ge 6, 3) := by decide +kernel
theorem dX5_setAge_16 : decode (mc mX5_setAge) 16 = .ok (.bipush (-4), 2) := by decide +kernel
theorem dX5_setAge_18 : decode (mc mX5_setAge) 18 = .ok (.ireturn, 1) := by decide +kernel
theorem dX5_setAge_19 : decode (mc mX5_setAge) 19 = .ok (.iload_n 2, 1) := by decide +kernel
theorem dX5_setAge_20 : decode (mc mX5_setAge) 20 = .ok (.iconst 4, 1) := by decide +kernel
theorem dX5_setAge_21 : decode (mc mX5_setAge) 21 = .ok (.if_icmp .le 6, 3) := by decide +kernel
theorem dX5_setAge_24 : decode (mc mX5_setAge) 24 = .ok (.bipush (-6), 2) := by decide +kernel
theorem dX5_setAge_26 : decode (mc mX5_setAge) 26 = .ok (.ireturn, 1) := by decide +kernel
theorem dX5_setAge_27 : decode (mc mX5_setAge) 27 = .ok (.iload_n 2, 1) := by decide +kernel
theorem dX5_setAge_28 : decode (mc mX5_setAge) 28 = .ok (.ifCond .ne 6, 3) := by decide +kernel
theorem dX5_setAge_31 : decode (mc mX5_setAge) 31 = .ok (.bipush (-3), 2) := by decide +kernel
theorem dX5_setAge_33 : decode (mc mX5_setAge) 33 = .ok (.ireturn, 1) := by decide +kernel
theorem dX5_setAge_34 : decode (mc mX5_setAge) 34 = .ok (.aload_n 0, 1) := by decide +kernel
theorem dX5_setAge_35 : decode (mc mX5_setAge) 35 = .ok (.getfield 27, 3) := by decide +kernel
theorem dX5_setAge_38 : decode (mc mX5_setAge) 38 = .ok (.iload_n 1, 1) := by decide +kernel
theorem dX5_setAge_39 : decode (mc mX5_setAge) 39 = .ok (.aaload, 1) := by decide +kernel
theorem dX5_setAge_40 : decode (mc mX5_setAge) 40 = .ok (.getfield 86, 3) := by decide +kernel
theorem dX5_setAge_43 : decode (mc mX5_setAge) 43 = .ok (.bipush 10, 2) := by decide +kernel
theorem dX5_setAge_45 : decode (mc mX5_setAge) 45 = .ok (.iadd, 1) := by decide +kernel
theorem dX5_setAge_46 : decode (mc mX5_setAge) 46 = .ok (.istore_n 3, 1) := by decide +kernel
theorem dX5_setAge_47 : decode (mc mX5_setAge) 47 = .ok (.aload_n 0, 1) := by decide +kernel
theorem dX5_setAge_48 : decode (mc mX5_setAge) 48 = .ok (.getfield 27, 3) := by decide +kernel
theorem dX5_setAge_51 : decode (mc mX5_setAge) 51 = .ok (.iload_n 1, 1) := by decide +kernel
theorem dX5_setAge_52 : decode (mc mX5_setAge) 52 = .ok (.aaload, 1) := by decide +kernel
theorem dX5_setAge_53 : decode (mc mX5_setAge) 53 = .ok (.iload_n 2, 1) := by decide +kernel
theorem dX5_setAge_54 : decode (mc mX5_setAge) 54 = .ok (.putfield 86, 3) := by decide +kernel
theorem dX5_setAge_57 : decode (mc mX5_setAge) 57 = .ok (.iload_n 3, 1) := by decide +kernel
theorem dX5_setAge_58 : decode (mc mX5_setAge) 58 = .ok (.ireturn, 1) := by decide +kernel
theorem dX6_init_0 : decode (mc mX6_init) 0 = .ok (.aload_n 0, 1) := by decide +kernel
theorem dX6_init_1 : decode (mc mX6_init) 1 = .ok (.invokespecial 3, 3) := by decide +kernel
theorem dX6_init_4 : decode (mc mX6_init) 4 = .ok (.aload_n 0, 1) := by decide +kernel
theorem dX6_init_5 : decode (mc mX6_init) 5 = .ok (.bipush 9, 2) := by decide +kernel
theorem dX6_init_7 : decode (mc mX6_init) 7 = .ok (.anewarray 9, 3) := by decide +kernel
theorem dX6_init_10 : decode (mc mX6_init) 10 = .ok (.putfield 11, 3) := by decide +kernel
theorem dX6_init_13 : decode (mc mX6_init) 13 = .ok (.aload_n 0, 1) := by decide +kernel
theorem dX6_init_14 : decode (mc mX6_init) 14 = .ok (.bipush 9, 2) := by decide +kernel
theorem dX6_init_16 : decode (mc mX6_init) 16 = .ok (.newarray .boolean, 2) := by decide +kernel
theorem dX6_init_18 : decode (mc mX6_init) 18 = .ok (.putfield 17, 3) := by decide +kernel
theorem dX6_init_21 : decode (mc mX6_init) 21 = .ok (.aload_n 0, 1) := by decide +kernel
theorem dX6_init_22 : decode (mc mX6_init) 22 = .ok (.iconst 0, 1) := by decide +kernel
theorem dX6_init_23 : decode (mc mX6_init) 23 = .ok (.putfield 21, 3) := by decide +kernel
theorem dX6_init_26 : decode (mc mX6_init) 26 = .ok (.aload_n 0, 1) := by decide +kernel
theorem dX6_init_27 : decode (mc mX6_init) 27 = .ok (.iconst (-1), 1) := by decide +kernel
theorem dX6_init_28 : decode (mc mX6_init) 28 = .ok (.putfield 25, 3) := by decide +kernel
theorem dX6_init_31 : decode (mc mX6_init) 31 = .ok (.iconst 0, 1) := by decide +kernel
theorem dX6_init_32 : decode (mc mX6_init) 32 = .ok (.istore_n 1, 1) := by decide +kernel
theorem dX6_init_33 : decode (mc mX6_init) 33 = .ok (.iload_n 1, 1) := by decide +kernel
theorem dX6_init_34 : decode (mc mX6_init) 34 = .ok (.bipush 9, 2) := by decide +kernel
theorem dX6_init_36 : decode (mc mX6_init) 36 = .ok (.if_icmp .ge 22, 3) := by decide +kernel
theorem dX6_init_39 : decode (mc mX6_init) 39 = .ok (.aload_n 0, 1) := by decide +kernel
theorem dX6_init_40 : decode (mc mX6_init) 40 = .ok (.getfield 11, 3) := by decide +kernel
theorem dX6_init_43 : decode (mc mX6_init) 43 = .ok (.iload_n 1, 1) := by decide +kernel
theorem dX6_init_44 : decode (mc mX6_init) 44 = .ok (.new 9, 3) := by decide +kernel
theorem dX6_init_47 : decode (mc mX6_init) 47 = .ok (.dup, 1) := by decide +kernel
theorem dX6_init_48 : decode (mc mX6_init) 48 = .ok (.invokespecial 28, 3) := by decide +kernel
theorem dX6_init_51 : decode (mc mX6_init) 51 = .ok (.aastore, 1) := by decide +kernel
theorem dX6_init_52 : decode (mc mX6_init) 52 = .ok (.iinc 1 1, 3) := by decide +kernel
theorem dX6_init_55 : decode (mc mX6_init) 55 = .ok (.goto (-22), 3) := by decide +kernel
theorem dX6_init_58 : decode (mc mX6_init) 58 = .ok (.return_, 1) := by decide +kernel
theorem dX6_make_0 : decode (mc mX6_make) 0 = .ok (.aload_n 0, 1) := by decide +kernel
theorem dX6_make_1 : decode (mc mX6_make) 1 = .ok (.iload_n 1, 1) := by decide +kernel
theorem dX6_make_2 : decode (mc mX6_make) 2 = .ok (.putfield 21, 3) := by decide +kernel
theorem dX6_make_5 : decode (mc mX6_make) 5 = .ok (.aload_n 0, 1) := by decide +kernel
theorem dX6_make_6 : decode (mc mX6_make) 6 = .ok (.iload_n 2, 1) := by decide +kernel
theorem dX6_make_7 : decode (mc mX6_make) 7 = .ok (.putfield 25, 3) := by decide +kernel
theorem dX6_make_10 : decode (mc mX6_make) 10 = .ok (.iconst 0, 1) := by decide +kernel
theorem dX6_make_11 : decode (mc mX6_make) 11 = .ok (.istore_n 3, 1) := by decide +kernel
theorem dX6_make_12 : decode (mc mX6_make) 12 = .ok (.iload_n 3, 1) := by decide +kernel
theorem dX6_make_13 : decode (mc mX6_make) 13 = .ok (.bipush 9, 2) := by decide +kernel
theorem dX6_make_15 : decode (mc mX6_make) 15 = .ok (.if_icmp .ge 16, 3) := by decide +kernel
theorem dX6_make_18 : decode (mc mX6_make) 18 = .ok (.aload_n 0, 1) := by decide +kernel
theorem dX6_make_19 : decode (mc mX6_make) 19 = .ok (.getfield 17, 3) := by decide +kernel
theorem dX6_make_22 : decode (mc mX6_make) 22 = .ok (.iload_n 3, 1) := by decide +kernel
theorem dX6_make_23 : decode (mc mX6_make) 23 = .ok (.iconst 0, 1) := by decide +kernel
theorem dX6_make_24 : decode (mc mX6_make) 24 = .ok (.bastore, 1) := by decide +kernel
theorem dX6_make_25 : decode (mc mX6_make) 25 = .ok (.iinc 3 1, 3) := by decide +kernel
theorem dX6_make_28 : decode (mc mX6_make) 28 = .ok (.goto (-16), 3) := by decide +kernel
theorem dX6_make_31 : decode (mc mX6_make) 31 = .ok (.return_, 1) := by decide +kernel
theorem dX6_noPlace_0 : decode (mc mX6_noPlace) 0 = .ok (.iload_n 1, 1) := by decide +kernel
theorem dX6_noPlace_1 : decode (mc mX6_noPlace) 1 = .ok (.ifCond .lt 17, 3) := by decide +kernel
theorem dX6_noPlace_4 : decode (mc mX6_noPlace) 4 = .ok (.iload_n 1, 1) := by decide +kernel
theorem dX6_noPlace_5 : decode (mc mX6_noPlace) 5 = .ok (.aload_n 0, 1) := by decide +kernel
theorem dX6_noPlace_6 : decode (mc mX6_noPlace) 6 = .ok (.getfield 25, 3) := by decide +kernel
theorem dX6_noPlace_9 : decode (mc mX6_noPlace) 9 = .ok (.if_icmp .ge 9, 3) := by decide +kernel
theorem dX6_noPlace_12 : decode (mc mX6_noPlace) 12 = .ok (.iload_n 1, 1) := by decide +kernel
theorem dX6_noPlace_13 : decode (mc mX6_noPlace) 13 = .ok (.bipush 9, 2) := by decide +kernel
theorem dX6_noPlace_15 : decode (mc mX6_noPlace) 15 = .ok (.if_icmp .lt 7, 3) := by decide +kernel
theorem dX6_noPlace_18 : decode (mc mX6_noPlace) 18 = .ok (.iconst 1, 1) := by decide +kernel
theorem dX6_noPlace_19 : decode (mc mX6_noPlace) 19 = .ok (.goto 4, 3) := by decide +kernel
theorem dX6_noPlace_22 : decode (mc mX6_noPlace) 22 = .ok (.iconst 0, 1) := by decide +kernel
theorem dX6_noPlace_23 : decode (mc mX6_noPlace) 23 = .ok (.ireturn, 1) := by decide +kernel
theorem dX6_copyFrom_0 : decode (mc mX6_copyFrom) 0 = .ok (.aload_n 0, 1) := by decide +kernel
theorem dX6_copyFrom_1 : decode (mc mX6_copyFrom) 1 = .ok (.aload_n 1, 1) := by decide +kernel
theorem dX6_copyFrom_2 : decode (mc mX6_copyFrom) 2 = .ok (.getfield 21, 3) := by decide +kernel
theorem dX6_copyFrom_5 : decode (mc mX6_copyFrom) 5 = .ok (.putfield 21, 3) := by decide +kernel
theorem dX6_copyFrom_8 : decode (mc mX6_copyFrom) 8 = .ok (.aload_n 0, 1) := by decide +kernel
theorem dX6_copyFrom_9 : decode (mc mX6_copyFrom) 9 = .ok (.aload_n 1, 1) := by decide +kernel
theorem dX6_copyFrom_10 : decode (mc mX6_copyFrom) 10 = .ok (.getfield 25, 3) := by decide +kernel
theorem dX6_copyFrom_13 : decode (mc mX6_copyFrom) 13 = .ok (.putfield 25, 3) := by decide +kernel
theorem dX6_copyFrom_16 : decode (mc mX6_copyFrom) 16 = .ok (.iconst 0, 1) := by decide +kernel
theorem dX6_copyFrom_17 : decode (mc mX6_copyFrom) 17 = .ok (.istore_n 2, 1) := by decide +kernel
theorem dX6_copyFrom_18 : decode (mc mX6_copyFrom) 18 = .ok (.iload_n 2, 1) := by decide +kernel
theorem dX6_copyFrom_19 : decode (mc mX6_copyFrom) 19 = .ok (.bipush 9, 2) := by decide +kernel
theorem dX6_copyFrom_21 : decode (mc mX6_copyFrom) 21 = .ok (.if_icmp .ge 36, 3) := by decide +kernel
theorem dX6_copyFrom_24 : decode (mc mX6_copyFrom) 24 = .ok (.aload_n 0, 1) := by decide +kernel
theorem dX6_copyFrom_25 : decode (mc mX6_copyFrom) 25 = .ok (.getfield 17, 3) := by decide +kernel
theorem dX6_copyFrom_28 : decode (mc mX6_copyFrom) 28 = .ok (.iload_n 2, 1) := by decide +kernel
theorem dX6_copyFrom_29 : decode (mc mX6_copyFrom) 29 = .ok (.aload_n 1, 1) := by decide +kernel
theorem dX6_copyFrom_30 : decode (mc mX6_copyFrom) 30 = .ok (.getfield 17, 3) := by decide +kernel
theorem dX6_copyFrom_33 : decode (mc mX6_copyFrom) 33 = .ok (.iload_n 2, 1) := by decide +kernel
theorem dX6_copyFrom_34 : decode (mc mX6_copyFrom) 34 = .ok (.baload, 1) := by decide +kernel
theorem dX6_copyFrom_35 : decode (mc mX6_copyFrom) 35 = .ok (.bastore, 1) := by decide +kernel
theorem dX6_copyFrom_36 : decode (mc mX6_copyFrom) 36 = .ok (.aload_n 0, 1) := by decide +kernel
theorem dX6_copyFrom_37 : decode (mc mX6_copyFrom) 37 = .ok (.getfield 11, 3) := by decide +kernel
theorem dX6_copyFrom_40 : decode (mc mX6_copyFrom) 40 = .ok (.iload_n 2, 1) := by decide +kernel
theorem dX6_copyFrom_41 : decode (mc mX6_copyFrom) 41 = .ok (.aaload, 1) := by decide +kernel
theorem dX6_copyFrom_42 : decode (mc mX6_copyFrom) 42 = .ok (.aload_n 1, 1) := by decide +kernel
theorem dX6_copyFrom_43 : decode (mc mX6_copyFrom) 43 = .ok (.getfield 11, 3) := by decide +kernel
theorem dX6_copyFrom_46 : decode (mc mX6_copyFrom) 46 = .ok (.iload_n 2, 1) := by decide +kernel
theorem dX6_copyFrom_47 : decode (mc mX6_copyFrom) 47 = .ok (.aaload, 1) := by decide +kernel
theorem dX6_copyFrom_48 : decode (mc mX6_copyFrom) 48 = .ok (.invokevirtual 29, 3) := by decide +kernel
theorem dX6_copyFrom_51 : decode (mc mX6_copyFrom) 51 = .ok (.iinc 2 1, 3) := by decide +kernel
theorem dX6_copyFrom_54 : decode (mc mX6_copyFrom) 54 = .ok (.goto (-36), 3) := by decide +kernel
theorem dX6_copyFrom_57 : decode (mc mX6_copyFrom) 57 = .ok (.return_, 1) := by decide +kernel
theorem dX7_init_0 : decode (mc mX7_init) 0 = .ok (.aload_n 0, 1) := by decide +kernel
theorem dX7_init_1 : decode (mc mX7_init) 1 = .ok (.invokespecial 3, 3) := by decide +kernel
theorem dX7_init_4 : decode (mc mX7_init) 4 = .ok (.aload_n 0, 1) := by decide +kernel
theorem dX7_init_5 : decode (mc mX7_init) 5 = .ok (.iconst 5, 1) := by decide +kernel
theorem dX7_init_6 : decode (mc mX7_init) 6 = .ok (.newarray .int, 2) := by decide +kernel
theorem dX7_init_8 : decode (mc mX7_init) 8 = .ok (.putfield 9, 3) := by decide +kernel
theorem dX7_init_11 : decode (mc mX7_init) 11 = .ok (.aload_n 0, 1) := by decide +kernel
theorem dX7_init_12 : decode (mc mX7_init) 12 = .ok (.iconst 5, 1) := by decide +kernel
theorem dX7_init_13 : decode (mc mX7_init) 13 = .ok (.newarray .int, 2) := by decide +kernel
theorem dX7_init_15 : decode (mc mX7_init) 15 = .ok (.putfield 15, 3) := by decide +kernel
theorem dX7_init_18 : decode (mc mX7_init) 18 = .ok (.aload_n 0, 1) := by decide +kernel
theorem dX7_init_19 : decode (mc mX7_init) 19 = .ok (.iconst 0, 1) := by decide +kernel
theorem dX7_init_20 : decode (mc mX7_init) 20 = .ok (.putfield 18, 3) := by decide +kernel
theorem dX7_init_23 : decode (mc mX7_init) 23 = .ok (.aload_n 0, 1) := by decide +kernel
theorem dX7_init_24 : decode (mc mX7_init) 24 = .ok (.iconst 3, 1) := by decide +kernel
theorem dX7_init_25 : decode (mc mX7_init) 25 = .ok (.newarray .int, 2) := by decide +kernel
theorem dX7_init_27 : decode (mc mX7_init) 27 = .ok (.putfield 22, 3) := by decide +kernel
theorem dX7_init_30 : decode (mc mX7_init) 30 = .ok (.aload_n 0, 1) := by decide +kernel
theorem dX7_init_31 : decode (mc mX7_init) 31 = .ok (.iconst 3, 1) := by decide +kernel
theorem dX7_init_32 : decode (mc mX7_init) 32 = .ok (.newarray .int, 2) := by decide +kernel
theorem dX7_init_34 : decode (mc mX7_init) 34 = .ok (.putfield 25, 3) := by decide +kernel
theorem dX7_init_37 : decode (mc mX7_init) 37 = .ok (.aload_n 0, 1) := by decide +kernel
theorem dX7_init_38 : decode (mc mX7_init) 38 = .ok (.iconst 3, 1) := by decide +kernel
theorem dX7_init_39 : decode (mc mX7_init) 39 = .ok (.bipush 14, 2) := by decide +kernel
theorem dX7_init_41 : decode (mc mX7_init) 41 = .ok (.multianewarray 28 2, 4) := by decide +kernel
theorem dX7_init_45 : decode (mc mX7_init) 45 = .ok (.putfield 30, 3) := by decide +kernel
theorem dX7_init_48 : decode (mc mX7_init) 48 = .ok (.aload_n 0, 1) := by decide +kernel
theorem dX7_init_49 : decode (mc mX7_init) 49 = .ok (.iconst 3, 1) := by decide +kernel
theorem dX7_init_50 : decode (mc mX7_init) 50 = .ok (.bipush 14, 2) := by decide +kernel
theorem dX7_init_52 : decode (mc mX7_init) 52 = .ok (.multianewarray 28 2, 4) := by decide +kernel
theorem dX7_init_56 : decode (mc mX7_init) 56 = .ok (.putfield 33, 3) := by decide +kernel
theorem dX7_init_59 : decode (mc mX7_init) 59 = .ok (.aload_n 0, 1) := by decide +kernel
theorem dX7_init_60 : decode (mc mX7_init) 60 = .ok (.iconst 3, 1) := by decide +kernel
theorem dX7_init_61 : decode (mc mX7_init) 61 = .ok (.bipush 14, 2) := by decide +kernel
theorem dX7_init_63 : decode (mc mX7_init) 63 = .ok (.multianewarray 28 2, 4) := by decide +kernel
theorem dX7_init_67 : decode (mc mX7_init) 67 = .ok (.putfield 36, 3) := by decide +kernel
theorem dX7_init_70 : decode (mc mX7_init) 70 = .ok (.aload_n 0, 1) := by decide +kernel
theorem dX7_init_71 : decode (mc mX7_init) 71 = .ok (.bipush 27, 2) := by decide +kernel
theorem dX7_init_73 : decode (mc mX7_init) 73 = .ok (.newarray .int, 2) := by decide +kernel
theorem dX7_init_75 : decode (mc mX7_init) 75 = .ok (.putfield 39, 3) := by decide +kernel
theorem dX7_init_78 : decode (mc mX7_init) 78 = .ok (.aload_n 0, 1) := by decide +kernel
theorem dX7_init_79 : decode (mc mX7_init) 79 = .ok (.sipush 343, 3) := by decide +kernel
theorem dX7_init_82 : decode (mc mX7_init) 82 = .ok (.newarray .int, 2) := by decide +kernel
theorem dX7_init_84 : decode (mc mX7_init) 84 = .ok (.putfield 42, 3) := by decide +kernel
theorem dX7_init_87 : decode (mc mX7_init) 87 = .ok (.aload_n 0, 1) := by decide +kernel
theorem dX7_init_88 : decode (mc mX7_init) 88 = .ok (.sipush 343, 3) := by decide +kernel
theorem dX7_init_91 : decode (mc mX7_init) 91 = .ok (.newarray .int, 2) := by decide +kernel
theorem dX7_init_93 : decode (mc mX7_init) 93 = .ok (.putfield 45, 3) := by decide +kernel
theorem dX7_init_96 : decode (mc mX7_init) 96 = .ok (.aload_n 0, 1) := by decide +kernel
theorem dX7_init_97 : decode (mc mX7_init) 97 = .ok (.aload_n 1, 1) := by decide +kernel
theorem dX7_init_98 : decode (mc mX7_init) 98 = .ok (.putfield 48, 3) := by decide +kernel
theorem dX7_init_101 : decode (mc mX7_init) 101 = .ok (.aload_n 0, 1) := by decide +kernel
theorem dX7_init_102 : decode (mc mX7_init) 102 = .ok (.aload_n 2, 1) := by decide +kernel
theorem dX7_init_103 : decode (mc mX7_init) 103 = .ok (.putfield 52, 3) := by decide +kernel
theorem dX7_init_106 : decode (mc mX7_init) 106 = .ok (.return_, 1) := by decide +kernel
theorem dX7_load_0 : decode (mc mX7_load) 0 = .ok (.aload_n 0, 1) := by decide +kernel
theorem dX7_load_1 : decode (mc mX7_load) 1 = .ok (.getfield 48, 3) := by decide +kernel
theorem dX7_load_4 : decode (mc mX7_load) 4 = .ok (.getfield 56, 3) := by decide +kernel
theorem dX7_load_7 : decode (mc mX7_load) 7 = .ok (.iconst 0, 1) := by decide +kernel
theorem dX7_load_8 : decode (mc mX7_load) 8 = .ok (.aload_n 0, 1) := by decide +kernel
theorem dX7_load_9 : decode (mc mX7_load) 9 = .ok (.getfield 9, 3) := by decide +kernel
theorem dX7_load_12 : decode (mc mX7_load) 12 = .ok (.iconst 0, 1) := by decide +kernel
theorem dX7_load_13 : decode (mc mX7_load) 13 = .ok (.iconst 5, 1) := by decide +kernel
theorem dX7_load_14 : decode (mc mX7_load) 14 = .ok (.invokestatic 59, 3) := by decide +kernel
theorem dX7_load_17 : decode (mc mX7_load) 17 = .ok (.aload_n 0, 1) := by decide +kernel
theorem dX7_load_18 : decode (mc mX7_load) 18 = .ok (.getfield 48, 3) := by decide +kernel
theorem dX7_load_21 : decode (mc mX7_load) 21 = .ok (.getfield 65, 3) := by decide +kernel
theorem dX7_load_24 : decode (mc mX7_load) 24 = .ok (.iconst 0, 1) := by decide +kernel
theorem dX7_load_25 : decode (mc mX7_load) 25 = .ok (.aload_n 0, 1) := by decide +kernel
theorem dX7_load_26 : decode (mc mX7_load) 26 = .ok (.getfield 15, 3) := by decide +kernel
theorem dX7_load_29 : decode (mc mX7_load) 29 = .ok (.iconst 0, 1) := by decide +kernel
theorem dX7_load_30 : decode (mc mX7_load) 30 = .ok (.iconst 5, 1) := by decide +kernel
theorem dX7_load_31 : decode (mc mX7_load) 31 = .ok (.invokestatic 59, 3) := by decide +kernel
theorem dX7_load_34 : decode (mc mX7_load) 34 = .ok (.aload_n 0, 1) := by decide +kernel
theorem dX7_load_35 : decode (mc mX7_load) 35 = .ok (.iconst 1, 1) := by decide +kernel
theorem dX7_load_36 : decode (mc mX7_load) 36 = .ok (.aload_n 0, 1) := by decide +kernel
theorem dX7_load_37 : decode (mc mX7_load) 37 = .ok (.getfield 48, 3) := by decide +kernel
theorem dX7_load_40 : decode (mc mX7_load) 40 = .ok (.getfield 66, 3) := by decide +kernel
theorem dX7_load_43 : decode (mc mX7_load) 43 = .ok (.ishl, 1) := by decide +kernel
theorem dX7_load_44 : decode (mc mX7_load) 44 = .ok (.iconst 1, 1) := by decide +kernel
theorem dX7_load_45 : decode (mc mX7_load) 45 = .ok (.isub, 1) := by decide +kernel
theorem dX7_load_46 : decode (mc mX7_load) 46 = .ok (.putfield 18, 3) := by decide +kernel
theorem dX7_load_49 : decode (mc mX7_load) 49 = .ok (.return_, 1) := by decide +kernel
theorem dX7_solve_0 : decode (mc mX7_solve) 0 = .ok (.aload_n 0, 1) := by decide +kernel
theorem dX7_solve_1 : decode (mc mX7_solve) 1 = .ok (.getfield 52, 3) := by decide +kernel
theorem dX7_solve_4 : decode (mc mX7_solve) 4 = .ok (.aload_n 0, 1) := by decide +kernel
theorem dX7_solve_5 : decode (mc mX7_solve) 5 = .ok (.getfield 48, 3) := by decide +kernel
theorem dX7_solve_8 : decode (mc mX7_solve) 8 = .ok (.invokevirtual 69, 3) := by decide +kernel
theorem dX7_solve_11 : decode (mc mX7_solve) 11 = .ok (.iconst 1, 1) := by decide +kernel
theorem dX7_solve_12 : decode (mc mX7_solve) 12 = .ok (.istore_n 1, 1) := by decide +kernel
theorem dX7_solve_13 : decode (mc mX7_solve) 13 = .ok (.iconst 0, 1) := by decide +kernel
theorem dX7_solve_14 : decode (mc mX7_solve) 14 = .ok (.istore_n 2, 1) := by decide +kernel
theorem dX7_solve_15 : decode (mc mX7_solve) 15 = .ok (.iconst 2, 1) := by decide +kernel
theorem dX7_solve_16 : decode (mc mX7_solve) 16 = .ok (.istore_n 3, 1) := by decide +kernel
theorem dX7_solve_17 : decode (mc mX7_solve) 17 = .ok (.iload_n 3, 1) := by decide +kernel
theorem dX7_solve_18 : decode (mc mX7_solve) 18 = .ok (.ifCond .lt 36, 3) := by decide +kernel
theorem dX7_solve_21 : decode (mc mX7_solve) 21 = .ok (.iload_n 2, 1) := by decide +kernel
theorem dX7_solve_22 : decode (mc mX7_solve) 22 = .ok (.aload_n 0, 1) := by decide +kernel
theorem dX7_solve_23 : decode (mc mX7_solve) 23 = .ok (.aload_n 0, 1) := by decide +kernel
theorem dX7_solve_24 : decode (mc mX7_solve) 24 = .ok (.getfield 48, 3) := by decide +kernel
theorem dX7_solve_27 : decode (mc mX7_solve) 27 = .ok (.getfield 75, 3) := by decide +kernel
theorem dX7_solve_30 : decode (mc mX7_solve) 30 = .ok (.iload_n 3, 1) := by decide +kernel
theorem dX7_solve_31 : decode (mc mX7_solve) 31 = .ok (.aaload, 1) := by decide +kernel
theorem dX7_solve_32 : decode (mc mX7_solve) 32 = .ok (.iload_n 3, 1) := by decide +kernel
theorem dX7_solve_33 : decode (mc mX7_solve) 33 = .ok (.iload_n 1, 1) := by decide +kernel
theorem dX7_solve_34 : decode (mc mX7_solve) 34 = .ok (.invokevirtual 79, 3) := by decide +kernel
theorem dX7_solve_37 : decode (mc mX7_solve) 37 = .ok (.iadd, 1) := by decide +kernel
theorem dX7_solve_38 : decode (mc mX7_solve) 38 = .ok (.istore_n 2, 1) := by decide +kernel
theorem dX7_solve_39 : decode (mc mX7_solve) 39 = .ok (.iload_n 1, 1) := by decide +kernel
theorem dX7_solve_40 : decode (mc mX7_solve) 40 = .ok (.aload_n 0, 1) := by decide +kernel
theorem dX7_solve_41 : decode (mc mX7_solve) 41 = .ok (.getfield 25, 3) := by decide +kernel
theorem dX7_solve_44 : decode (mc mX7_solve) 44 = .ok (.iload_n 3, 1) := by decide +kernel
theorem dX7_solve_45 : decode (mc mX7_solve) 45 = .ok (.iaload, 1) := by decide +kernel
theorem dX7_solve_46 : decode (mc mX7_solve) 46 = .ok (.imul, 1) := by decide +kernel
theorem dX7_solve_47 : decode (mc mX7_solve) 47 = .ok (.istore_n 1, 1) := by decide +kernel
theorem dX7_solve_48 : decode (mc mX7_solve) 48 = .ok (.iinc 3 (-1), 3) := by decide +kernel
theorem dX7_solve_51 : decode (mc mX7_solve) 51 = .ok (.goto (-34), 3) := by decide +kernel
theorem dX7_solve_54 : decode (mc mX7_solve) 54 = .ok (.aload_n 0, 1) := by decide +kernel
theorem dX7_solve_55 : decode (mc mX7_solve) 55 = .ok (.getfield 42, 3) := by decide +kernel
theorem dX7_solve_58 : decode (mc mX7_solve) 58 = .ok (.iconst 0, 1) := by decide +kernel
theorem dX7_solve_59 : decode (mc mX7_solve) 59 = .ok (.iload_n 1, 1) := by decide +kernel
theorem dX7_solve_60 : decode (mc mX7_solve) 60 = .ok (.ldc 83, 2) := by decide +kernel
theorem dX7_solve_62 : decode (mc mX7_solve) 62 = .ok (.invokestatic 84, 3) := by decide +kernel
theorem dX7_solve_65 : decode (mc mX7_solve) 65 = .ok (.aload_n 0, 1) := by decide +kernel
theorem dX7_solve_66 : decode (mc mX7_solve) 66 = .ok (.getfield 42, 3) := by decide +kernel
theorem dX7_solve_69 : decode (mc mX7_solve) 69 = .ok (.iload_n 2, 1) := by decide +kernel
theorem dX7_solve_70 : decode (mc mX7_solve) 70 = .ok (.iconst 0, 1) := by decide +kernel
theorem dX7_solve_71 : decode (mc mX7_solve) 71 = .ok (.iastore, 1) := by decide +kernel
theorem dX7_solve_72 : decode (mc mX7_solve) 72 = .ok (.iconst 0, 1) := by decide +kernel
theorem dX7_solve_73 : decode (mc mX7_solve) 73 = .ok (.istore_n 3, 1) := by decide +kernel
theorem dX7_solve_74 : decode (mc mX7_solve) 74 = .ok (.iload_n 3, 1) := by decide +kernel
theorem dX7_solve_75 : decode (mc mX7_solve) 75 = .ok (.aload_n 0, 1) := by decide +kernel
theorem dX7_solve_76 : decode (mc mX7_solve) 76 = .ok (.getfield 48, 3) := by decide +kernel
theorem dX7_solve_79 : decode (mc mX7_solve) 79 = .ok (.getfield 90, 3) := by decide +kernel
theorem dX7_solve_82 : decode (mc mX7_solve) 82 = .ok (.if_icmp .ge 50, 3) := by decide +kernel
theorem dX7_solve_85 : decode (mc mX7_solve) 85 = .ok (.aload_n 0, 1) := by decide +kernel
theorem dX7_solve_86 : decode (mc mX7_solve) 86 = .ok (.iload_n 3, 1) := by decide +kernel
theorem dX7_solve_87 : decode (mc mX7_solve) 87 = .ok (.invokevirtual 93, 3) := by decide +kernel
theorem dX7_solve_90 : decode (mc mX7_solve) 90 = .ok (.aload_n 0, 1) := by decide +kernel
theorem dX7_solve_91 : decode (mc mX7_solve) 91 = .ok (.getfield 45, 3) := by decide +kernel
theorem dX7_solve_94 : decode (mc mX7_solve) 94 = .ok (.iconst 0, 1) := by decide +kernel
theorem dX7_solve_95 : decode (mc mX7_solve) 95 = .ok (.iload_n 1, 1) := by decide +kernel
theorem dX7_solve_96 : decode (mc mX7_solve) 96 = .ok (.ldc 83, 2) := by decide +kernel
theorem dX7_solve_98 : decode (mc mX7_solve) 98 = .ok (.invokestatic 84, 3) := by decide +kernel
theorem dX7_solve_101 : decode (mc mX7_solve) 101 = .ok (.aload_n 0, 1) := by decide +kernel
theorem dX7_solve_102 : decode (mc mX7_solve) 102 = .ok (.iload_n 3, 1) := by decide +kernel
theorem dX7_solve_103 : decode (mc mX7_solve) 103 = .ok (.invokevirtual 97, 3) := by decide +kernel
theorem dX7_solve_106 : decode (mc mX7_solve) 106 = .ok (.aload_n 0, 1) := by decide +kernel
theorem dX7_solve_107 : decode (mc mX7_solve) 107 = .ok (.getfield 42, 3) := by decide +kernel
theorem dX7_solve_110 : decode (mc mX7_solve) 110 = .ok (.astore 4, 2) := by decide +kernel
theorem dX7_solve_112 : decode (mc mX7_solve) 112 = .ok (.aload_n 0, 1) := by decide +kernel
theorem dX7_solve_113 : decode (mc mX7_solve) 113 = .ok (.aload_n 0, 1) := by decide +kernel
theorem dX7_solve_114 : decode (mc mX7_solve) 114 = .ok (.getfield 45, 3) := by decide +kernel
theorem dX7_solve_117 : decode (mc mX7_solve) 117 = .ok (.putfield 42, 3) := by decide +kernel
theorem dX7_solve_120 : decode (mc mX7_solve) 120 = .ok (.aload_n 0, 1) := by decide +kernel
theorem dX7_solve_121 : decode (mc mX7_solve) 121 = .ok (.aload 4, 2) := by decide +kernel
theorem dX7_solve_123 : decode (mc mX7_solve) 123 = .ok (.putfield 45, 3) := by decide +kernel
theorem dX7_solve_126 : decode (mc mX7_solve) 126 = .ok (.iinc 3 1, 3) := by decide +kernel
theorem dX7_solve_129 : decode (mc mX7_solve) 129 = .ok (.goto (-55), 3) := by decide +kernel
theorem dX7_solve_132 : decode (mc mX7_solve) 132 = .ok (.ldc 83, 2) := by decide +kernel
theorem dX7_solve_134 : decode (mc mX7_solve) 134 = .ok (.istore_n 3, 1) := by decide +kernel
theorem dX7_solve_135 : decode (mc mX7_solve) 135 = .ok (.iconst 0, 1) := by decide +kernel
theorem dX7_solve_136 : decode (mc mX7_solve) 136 = .ok (.istore 4, 2) := by decide +kernel
theorem dX7_solve_138 : decode (mc mX7_solve) 138 = .ok (.iload 4, 2) := by decide +kernel
theorem dX7_solve_140 : decode (mc mX7_solve) 140 = .ok (.iload_n 1, 1) := by decide +kernel
theorem dX7_solve_141 : decode (mc mX7_solve) 141 = .ok (.if_icmp .ge 21, 3) := by decide +kernel
theorem dX7_solve_144 : decode (mc mX7_solve) 144 = .ok (.iload_n 3, 1) := by decide +kernel
theorem dX7_solve_145 : decode (mc mX7_solve) 145 = .ok (.aload_n 0, 1) := by decide +kernel
theorem dX7_solve_146 : decode (mc mX7_solve) 146 = .ok (.getfield 42, 3) := by decide +kernel
theorem dX7_solve_149 : decode (mc mX7_solve) 149 = .ok (.iload 4, 2) := by decide +kernel
theorem dX7_solve_151 : decode (mc mX7_solve) 151 = .ok (.iaload, 1) := by decide +kernel
theorem dX7_solve_152 : decode (mc mX7_solve) 152 = .ok (.invokestatic 100, 3) := by decide +kernel
theorem dX7_solve_155 : decode (mc mX7_solve) 155 = .ok (.istore_n 3, 1) := by decide +kernel
theorem dX7_solve_156 : decode (mc mX7_solve) 156 = .ok (.iinc 4 1, 3) := by decide +kernel
theorem dX7_solve_159 : decode (mc mX7_solve) 159 = .ok (.goto (-21), 3) := by decide +kernel
theorem dX7_solve_162 : decode (mc mX7_solve) 162 = .ok (.aload_n 0, 1) := by decide +kernel
theorem dX7_solve_163 : decode (mc mX7_solve) 163 = .ok (.iload_n 3, 1) := by decide +kernel
theorem dX7_solve_164 : decode (mc mX7_solve) 164 = .ok (.invokevirtual 106, 3) := by decide +kernel
theorem dX7_solve_167 : decode (mc mX7_solve) 167 = .ok (.ireturn, 1) := by decide +kernel
theorem dX7_keepRows_0 : decode (mc mX7_keepRows) 0 = .ok (.iload_n 1, 1) := by decide +kernel
theorem dX7_keepRows_1 : decode (mc mX7_keepRows) 1 = .ok (.ldc 83, 2) := by decide +kernel
theorem dX7_keepRows_3 : decode (mc mX7_keepRows) 3 = .ok (.if_icmp .ne 6, 3) := by decide +kernel
theorem dX7_keepRows_6 : decode (mc mX7_keepRows) 6 = .ok (.bipush (-9), 2) := by decide +kernel
theorem dX7_keepRows_8 : decode (mc mX7_keepRows) 8 = .ok (.ireturn, 1) := by decide +kernel
theorem dX7_keepRows_9 : decode (mc mX7_keepRows) 9 = .ok (.iconst 0, 1) := by decide +kernel
theorem dX7_keepRows_10 : decode (mc mX7_keepRows) 10 = .ok (.istore_n 2, 1) := by decide +kernel
theorem dX7_keepRows_11 : decode (mc mX7_keepRows) 11 = .ok (.iload_n 2, 1) := by decide +kernel
theorem dX7_keepRows_12 : decode (mc mX7_keepRows) 12 = .ok (.iconst 3, 1) := by decide +kernel
theorem dX7_keepRows_13 : decode (mc mX7_keepRows) 13 = .ok (.if_icmp .ge 24, 3) := by decide +kernel
theorem dX7_keepRows_16 : decode (mc mX7_keepRows) 16 = .ok (.aload_n 0, 1) := by decide +kernel
theorem dX7_keepRows_17 : decode (mc mX7_keepRows) 17 = .ok (.getfield 22, 3) := by decide +kernel
theorem dX7_keepRows_20 : decode (mc mX7_keepRows) 20 = .ok (.iload_n 2, 1) := by decide +kernel
theorem dX7_keepRows_21 : decode (mc mX7_keepRows) 21 = .ok (.iload_n 1, 1) := by decide +kernel
theorem dX7_keepRows_22 : decode (mc mX7_keepRows) 22 = .ok (.iload_n 2, 1) := by decide +kernel
theorem dX7_keepRows_23 : decode (mc mX7_keepRows) 23 = .ok (.invokestatic 110, 3) := by decide +kernel
theorem dX7_keepRows_26 : decode (mc mX7_keepRows) 26 = .ok (.ishr, 1) := by decide +kernel
theorem dX7_keepRows_27 : decode (mc mX7_keepRows) 27 = .ok (.bipush 31, 2) := by decide +kernel
theorem dX7_keepRows_29 : decode (mc mX7_keepRows) 29 = .ok (.iand, 1) := by decide +kernel
theorem dX7_keepRows_30 : decode (mc mX7_keepRows) 30 = .ok (.iastore, 1) := by decide +kernel
theorem dX7_keepRows_31 : decode (mc mX7_keepRows) 31 = .ok (.iinc 2 1, 3) := by decide +kernel
theorem dX7_keepRows_34 : decode (mc mX7_keepRows) 34 = .ok (.goto (-23), 3) := by decide +kernel
theorem dX7_keepRows_37 : decode (mc mX7_keepRows) 37 = .ok (.iload_n 1, 1) := by decide +kernel
theorem dX7_keepRows_38 : decode (mc mX7_keepRows) 38 = .ok (.bipush 15, 2) := by decide +kernel
theorem dX7_keepRows_40 : decode (mc mX7_keepRows) 40 = .ok (.ishr, 1) := by decide +kernel
theorem dX7_keepRows_41 : decode (mc mX7_keepRows) 41 = .ok (.ireturn, 1) := by decide +kernel
theorem dX7_rowShift_0 : decode (mc mX7_rowShift) 0 = .ok (.iconst 5, 1) := by decide +kernel
theorem dX7_rowShift_1 : decode (mc mX7_rowShift) 1 = .ok (.iconst 2, 1) := by decide +kernel
theorem dX7_rowShift_2 : decode (mc mX7_rowShift) 2 = .ok (.iload_n 0, 1) := by decide +kernel
theorem dX7_rowShift_3 : decode (mc mX7_rowShift) 3 = .ok (.isub, 1) := by decide +kernel
theorem dX7_rowShift_4 : decode (mc mX7_rowShift) 4 = .ok (.imul, 1) := by decide +kernel
theorem dX7_rowShift_5 : decode (mc mX7_rowShift) 5 = .ok (.ireturn, 1) := by decide +kernel
theorem dX7_setAt_0 : decode (mc mX7_setAt) 0 = .ok (.iconst 0, 1) := by decide +kernel
theorem dX7_setAt_1 : decode (mc mX7_setAt) 1 = .ok (.istore_n 2, 1) := by decide +kernel
theorem dX7_setAt_2 : decode (mc mX7_setAt) 2 = .ok (.iconst 0, 1) := by decide +kernel
theorem dX7_setAt_3 : decode (mc mX7_setAt) 3 = .ok (.istore_n 3, 1) := by decide +kernel
theorem dX7_setAt_4 : decode (mc mX7_setAt) 4 = .ok (.iload_n 3, 1) := by decide +kernel
theorem dX7_setAt_5 : decode (mc mX7_setAt) 5 = .ok (.iconst 3, 1) := by decide +kernel
theorem dX7_setAt_6 : decode (mc mX7_setAt) 6 = .ok (.if_icmp .ge 24, 3) := by decide +kernel
theorem dX7_setAt_9 : decode (mc mX7_setAt) 9 = .ok (.iload_n 2, 1) := by decide +kernel
theorem dX7_setAt_10 : decode (mc mX7_setAt) 10 = .ok (.aload_n 0, 1) := by decide +kernel
theorem dX7_setAt_11 : decode (mc mX7_setAt) 11 = .ok (.getfield 22, 3) := by decide +kernel
theorem dX7_setAt_14 : decode (mc mX7_setAt) 14 = .ok (.iload_n 3, 1) := by decide +kernel
theorem dX7_setAt_15 : decode (mc mX7_setAt) 15 = .ok (.iaload, 1) := by decide +kernel
theorem dX7_setAt_16 : decode (mc mX7_setAt) 16 = .ok (.iload_n 1, 1) := by decide +kernel
theorem dX7_setAt_17 : decode (mc mX7_setAt) 17 = .ok (.ishr, 1) := by decide +kernel
theorem dX7_setAt_18 : decode (mc mX7_setAt) 18 = .ok (.iconst 1, 1) := by decide +kernel
theorem dX7_setAt_19 : decode (mc mX7_setAt) 19 = .ok (.iand, 1) := by decide +kernel
theorem dX7_setAt_20 : decode (mc mX7_setAt) 20 = .ok (.iload_n 3, 1) := by decide +kernel
theorem dX7_setAt_21 : decode (mc mX7_setAt) 21 = .ok (.ishl, 1) := by decide +kernel
theorem dX7_setAt_22 : decode (mc mX7_setAt) 22 = .ok (.ior, 1) := by decide +kernel
theorem dX7_setAt_23 : decode (mc mX7_setAt) 23 = .ok (.istore_n 2, 1) := by decide +kernel
theorem dX7_setAt_24 : decode (mc mX7_setAt) 24 = .ok (.iinc 3 1, 3) := by decide +kernel
theorem dX7_setAt_27 : decode (mc mX7_setAt) 27 = .ok (.goto (-23), 3) := by decide +kernel
theorem dX7_setAt_30 : decode (mc mX7_setAt) 30 = .ok (.iload_n 2, 1) := by decide +kernel
theorem dX7_setAt_31 : decode (mc mX7_setAt) 31 = .ok (.ireturn, 1) := by decide +kernel
theorem dX7_layTables_0 : decode (mc mX7_layTables) 0 = .ok (.aload_n 0, 1) := by decide +kernel
theorem dX7_layTables_1 : decode (mc mX7_layTables) 1 = .ok (.getfield 18, 3) := by decide +kernel
theorem dX7_layTables_4 : decode (mc mX7_layTables) 4 = .ok (.iload_n 2, 1) := by decide +kernel
theorem dX7_layTables_5 : decode (mc mX7_layTables) 5 = .ok (.ishr, 1) := by decide +kernel
theorem dX7_layTables_6 : decode (mc mX7_layTables) 6 = .ok (.iconst 1, 1) := by decide +kernel
theorem dX7_layTables_7 : decode (mc mX7_layTables) 7 = .ok (.iand, 1) := by decide +kernel
theorem dX7_layTables_8 : decode (mc mX7_layTables) 8 = .ok (.ifCond .ne 30, 3) := by decide +kernel
theorem dX7_layTables_11 : decode (mc mX7_layTables) 11 = .ok (.aload_n 0, 1) := by decide +kernel
theorem dX7_layTables_12 : decode (mc mX7_layTables) 12 = .ok (.getfield 25, 3) := by decide +kernel
theorem dX7_layTables_15 : decode (mc mX7_layTables) 15 = .ok (.iload_n 2, 1) := by decide +kernel
theorem dX7_layTables_16 : decode (mc mX7_layTables) 16 = .ok (.iconst 1, 1) := by decide +kernel
theorem dX7_layTables_17 : decode (mc mX7_layTables) 17 = .ok (.iastore, 1) := by decide +kernel
theorem dX7_layTables_18 : decode (mc mX7_layTables) 18 = .ok (.aload_n 0, 1) := by decide +kernel
theorem dX7_layTables_19 : decode (mc mX7_layTables) 19 = .ok (.iload_n 2, 1) := by decide +kernel
theorem dX7_layTables_20 : decode (mc mX7_layTables) 20 = .ok (.iconst 0, 1) := by decide +kernel
theorem dX7_layTables_21 : decode (mc mX7_layTables) 21 = .ok (.iconst 0, 1) := by decide +kernel
theorem dX7_layTables_22 : decode (mc mX7_layTables) 22 = .ok (.iconst 0, 1) := by decide +kernel
theorem dX7_layTables_23 : decode (mc mX7_layTables) 23 = .ok (.iconst 0, 1) := by decide +kernel
theorem dX7_layTables_24 : decode (mc mX7_layTables) 24 = .ok (.invokevirtual 113, 3) := by decide +kernel
theorem dX7_layTables_27 : decode (mc mX7_layTables) 27 = .ok (.aload_n 0, 1) := by decide +kernel
theorem dX7_layTables_28 : decode (mc mX7_layTables) 28 = .ok (.iload_n 2, 1) := by decide +kernel
theorem dX7_layTables_29 : decode (mc mX7_layTables) 29 = .ok (.iconst 1, 1) := by decide +kernel
theorem dX7_layTables_30 : decode (mc mX7_layTables) 30 = .ok (.iconst (-1), 1) := by decide +kernel
theorem dX7_layTables_31 : decode (mc mX7_layTables) 31 = .ok (.iconst 0, 1) := by decide +kernel
theorem dX7_layTables_32 : decode (mc mX7_layTables) 32 = .ok (.iconst 0, 1) := by decide +kernel
theorem dX7_layTables_33 : decode (mc mX7_layTables) 33 = .ok (.invokevirtual 113, 3) := by decide +kernel
theorem dX7_layTables_36 : decode (mc mX7_layTables) 36 = .ok (.iconst 0, 1) := by decide +kernel
theorem dX7_layTables_37 : decode (mc mX7_layTables) 37 = .ok (.ireturn, 1) := by decide +kernel
theorem dX7_layTables_38 : decode (mc mX7_layTables) 38 = .ok (.aload_n 1, 1) := by decide +kernel
theorem dX7_layTables_39 : decode (mc mX7_layTables) 39 = .ok (.iconst 1, 1) := by decide +kernel
theorem dX7_layTables_40 : decode (mc mX7_layTables) 40 = .ok (.invokevirtual 117, 3) := by decide +kernel
theorem dX7_layTables_43 : decode (mc mX7_layTables) 43 = .ok (.ifCond .eq 7, 3) := by decide +kernel
theorem dX7_layTables_46 : decode (mc mX7_layTables) 46 = .ok (.iconst 4, 1) := by decide +kernel
theorem dX7_layTables_47 : decode (mc mX7_layTables) 47 = .ok (.goto 7, 3) := by decide +kernel
theorem dX7_layTables_50 : decode (mc mX7_layTables) 50 = .ok (.aload_n 1, 1) := by decide +kernel
theorem dX7_layTables_51 : decode (mc mX7_layTables) 51 = .ok (.getfield 123, 3) := by decide +kernel
theorem dX7_layTables_54 : decode (mc mX7_layTables) 54 = .ok (.istore 4, 2) := by decide +kernel
theorem dX7_layTables_56 : decode (mc mX7_layTables) 56 = .ok (.aload_n 1, 1) := by decide +kernel
theorem dX7_layTables_57 : decode (mc mX7_layTables) 57 = .ok (.iconst 3, 1) := by decide +kernel
theorem dX7_layTables_58 : decode (mc mX7_layTables) 58 = .ok (.invokevirtual 117, 3) := by decide +kernel
theorem dX7_layTables_61 : decode (mc mX7_layTables) 61 = .ok (.ifCond .eq 7, 3) := by decide +kernel
theorem dX7_layTables_64 : decode (mc mX7_layTables) 64 = .ok (.iconst 1, 1) := by decide +kernel
theorem dX7_layTables_65 : decode (mc mX7_layTables) 65 = .ok (.goto 7, 3) := by decide +kernel
theorem dX7_layTables_68 : decode (mc mX7_layTables) 68 = .ok (.aload_n 1, 1) := by decide +kernel
theorem dX7_layTables_69 : decode (mc mX7_layTables) 69 = .ok (.getfield 126, 3) := by decide +kernel
theorem dX7_layTables_72 : decode (mc mX7_layTables) 72 = .ok (.istore 5, 2) := by decide +kernel
theorem dX7_layTables_74 : decode (mc mX7_layTables) 74 = .ok (.aload_n 0, 1) := by decide +kernel
theorem dX7_layTables_75 : decode (mc mX7_layTables) 75 = .ok (.getfield 25, 3) := by decide +kernel
theorem dX7_layTables_78 : decode (mc mX7_layTables) 78 = .ok (.iload_n 2, 1) := by decide +kernel
theorem dX7_layTables_79 : decode (mc mX7_layTables) 79 = .ok (.iload 4, 2) := by decide +kernel
theorem dX7_layTables_81 : decode (mc mX7_layTables) 81 = .ok (.iload 5, 2) := by decide +kernel
theorem dX7_layTables_83 : decode (mc mX7_layTables) 83 = .ok (.iadd, 1) := by decide +kernel
theorem dX7_layTables_84 : decode (mc mX7_layTables) 84 = .ok (.iastore, 1) := by decide +kernel
theorem dX7_layTables_85 : decode (mc mX7_layTables) 85 = .ok (.iconst 0, 1) := by decide +kernel
theorem dX7_layTables_86 : decode (mc mX7_layTables) 86 = .ok (.istore 6, 2) := by decide +kernel
theorem dX7_layTables_88 : decode (mc mX7_layTables) 88 = .ok (.iload 6, 2) := by decide +kernel
theorem dX7_layTables_90 : decode (mc mX7_layTables) 90 = .ok (.iload 4, 2) := by decide +kernel
theorem dX7_layTables_92 : decode (mc mX7_layTables) 92 = .ok (.iload 5, 2) := by decide +kernel
theorem dX7_layTables_94 : decode (mc mX7_layTables) 94 = .ok (.iadd, 1) := by decide +kernel
theorem dX7_layTables_95 : decode (mc mX7_layTables) 95 = .ok (.if_icmp .ge 133, 3) := by decide +kernel
theorem dX7_layTables_98 : decode (mc mX7_layTables) 98 = .ok (.iload 6, 2) := by decide +kernel
theorem dX7_layTables_100 : decode (mc mX7_layTables) 100 = .ok (.iload 4, 2) := by decide +kernel
theorem dX7_layTables_102 : decode (mc mX7_layTables) 102 = .ok (.if_icmp .ge 10, 3) := by decide +kernel
theorem dX7_layTables_105 : decode (mc mX7_layTables) 105 = .ok (.iconst (-1), 1) := by decide +kernel
theorem dX7_layTables_106 : decode (mc mX7_layTables) 106 = .ok (.iload 6, 2) := by decide +kernel
theorem dX7_layTables_108 : decode (mc mX7_layTables) 108 = .ok (.isub, 1) := by decide +kernel
theorem dX7_layTables_109 : decode (mc mX7_layTables) 109 = .ok (.goto 10, 3) := by decide +kernel
theorem dX7_layTables_112 : decode (mc mX7_layTables) 112 = .ok (.iload 6, 2) := by decide +kernel
theorem dX7_layTables_114 : decode (mc mX7_layTables) 114 = .ok (.iload 4, 2) := by decide +kernel
theorem dX7_layTables_116 : decode (mc mX7_layTables) 116 = .ok (.isub, 1) := by decide +kernel
theorem dX7_layTables_117 : decode (mc mX7_layTables) 117 = .ok (.iconst 1, 1) := by decide +kernel
theorem dX7_layTables_118 : decode (mc mX7_layTables) 118 = .ok (.iadd, 1) := by decide +kernel
theorem dX7_layTables_119 : decode (mc mX7_layTables) 119 = .ok (.istore 7, 2) := by decide +kernel
theorem dX7_layTables_121 : decode (mc mX7_layTables) 121 = .ok (.aload_n 1, 1) := by decide +kernel
theorem dX7_layTables_122 : decode (mc mX7_layTables) 122 = .ok (.iload 7, 2) := by decide +kernel
theorem dX7_layTables_124 : decode (mc mX7_layTables) 124 = .ok (.iconst 0, 1) := by decide +kernel
theorem dX7_layTables_125 : decode (mc mX7_layTables) 125 = .ok (.invokevirtual 129, 3) := by decide +kernel
theorem dX7_layTables_128 : decode (mc mX7_layTables) 128 = .ok (.istore 8, 2) := by decide +kernel
theorem dX7_layTables_130 : decode (mc mX7_layTables) 130 = .ok (.aload_n 1, 1) := by decide +kernel
theorem dX7_layTables_131 : decode (mc mX7_layTables) 131 = .ok (.iload 7, 2) := by decide +kernel
theorem dX7_layTables_133 : decode (mc mX7_layTables) 133 = .ok (.iconst 1, 1) := by decide +kernel
theorem dX7_layTables_134 : decode (mc mX7_layTables) 134 = .ok (.invokevirtual 129, 3) := by decide +kernel
theorem dX7_layTables_137 : decode (mc mX7_layTables) 137 = .ok (.istore 9, 2) := by decide +kernel
theorem dX7_layTables_139 : decode (mc mX7_layTables) 139 = .ok (.iload 7, 2) := by decide +kernel
theorem dX7_layTables_141 : decode (mc mX7_layTables) 141 = .ok (.ifCond .ge 7, 3) := by decide +kernel
theorem dX7_layTables_144 : decode (mc mX7_layTables) 144 = .ok (.iconst 1, 1) := by decide +kernel
theorem dX7_layTables_145 : decode (mc mX7_layTables) 145 = .ok (.goto 4, 3) := by decide +kernel
theorem dX7_layTables_148 : decode (mc mX7_layTables) 148 = .ok (.iconst 0, 1) := by decide +kernel
theorem dX7_layTables_149 : decode (mc mX7_layTables) 149 = .ok (.istore 10, 2) := by decide +kernel
theorem dX7_layTables_151 : decode (mc mX7_layTables) 151 = .ok (.aload_n 0, 1) := by decide +kernel
theorem dX7_layTables_152 : decode (mc mX7_layTables) 152 = .ok (.iload_n 2, 1) := by decide +kernel
theorem dX7_layTables_153 : decode (mc mX7_layTables) 153 = .ok (.iconst 2, 1) := by decide +kernel
theorem dX7_layTables_154 : decode (mc mX7_layTables) 154 = .ok (.iload 6, 2) := by decide +kernel
theorem dX7_layTables_156 : decode (mc mX7_layTables) 156 = .ok (.imul, 1) := by decide +kernel
theorem dX7_layTables_157 : decode (mc mX7_layTables) 157 = .ok (.iload 8, 2) := by decide +kernel
theorem dX7_layTables_159 : decode (mc mX7_layTables) 159 = .ok (.iload 4, 2) := by decide +kernel
theorem dX7_layTables_161 : decode (mc mX7_layTables) 161 = .ok (.iload 5, 2) := by decide +kernel
theorem dX7_layTables_163 : decode (mc mX7_layTables) 163 = .ok (.iload_n 3, 1) := by decide +kernel
theorem dX7_layTables_164 : decode (mc mX7_layTables) 164 = .ok (.invokestatic 133, 3) := by decide +kernel
theorem dX7_layTables_167 : decode (mc mX7_layTables) 167 = .ok (.iconst 0, 1) := by decide +kernel
theorem dX7_layTables_168 : decode (mc mX7_layTables) 168 = .ok (.iconst 0, 1) := by decide +kernel
theorem dX7_layTables_169 : decode (mc mX7_layTables) 169 = .ok (.invokevirtual 113, 3) := by decide +kernel
theorem dX7_layTables_172 : decode (mc mX7_layTables) 172 = .ok (.aload_n 0, 1) := by decide +kernel
theorem dX7_layTables_173 : decode (mc mX7_layTables) 173 = .ok (.iload_n 2, 1) := by decide +kernel
theorem dX7_layTables_174 : decode (mc mX7_layTables) 174 = .ok (.iconst 2, 1) := by decide +kernel
theorem dX7_layTables_175 : decode (mc mX7_layTables) 175 = .ok (.iload 6, 2) := by decide +kernel
theorem dX7_layTables_177 : decode (mc mX7_layTables) 177 = .ok (.imul, 1) := by decide +kernel
theorem dX7_layTables_178 : decode (mc mX7_layTables) 178 = .ok (.iconst 1, 1) := by decide +kernel
theorem dX7_layTables_179 : decode (mc mX7_layTables) 179 = .ok (.iadd, 1) := by decide +kernel
theorem dX7_layTables_180 : decode (mc mX7_layTables) 180 = .ok (.iload 9, 2) := by decide +kernel
theorem dX7_layTables_182 : decode (mc mX7_layTables) 182 = .ok (.iload 4, 2) := by decide +kernel
theorem dX7_layTables_184 : decode (mc mX7_layTables) 184 = .ok (.iload 5, 2) := by decide +kernel
theorem dX7_layTables_186 : decode (mc mX7_layTables) 186 = .ok (.iload_n 3, 1) := by decide +kernel
theorem dX7_layTables_187 : decode (mc mX7_layTables) 187 = .ok (.invokestatic 133, 3) := by decide +kernel
theorem dX7_layTables_190 : decode (mc mX7_layTables) 190 = .ok (.iload 10, 2) := by decide +kernel
theorem dX7_layTables_192 : decode (mc mX7_layTables) 192 = .ok (.ifCond .eq 7, 3) := by decide +kernel
theorem dX7_layTables_195 : decode (mc mX7_layTables) 195 = .ok (.iconst 2, 1) := by decide +kernel
theorem dX7_layTables_196 : decode (mc mX7_layTables) 196 = .ok (.goto 4, 3) := by decide +kernel
theorem dX7_layTables_199 : decode (mc mX7_layTables) 199 = .ok (.iconst 1, 1) := by decide +kernel
theorem dX7_layTables_200 : decode (mc mX7_layTables) 200 = .ok (.iload 10, 2) := by decide +kernel
theorem dX7_layTables_202 : decode (mc mX7_layTables) 202 = .ok (.ifCond .eq 16, 3) := by decide +kernel
theorem dX7_layTables_205 : decode (mc mX7_layTables) 205 = .ok (.aload_n 1, 1) := by decide +kernel
theorem dX7_layTables_206 : decode (mc mX7_layTables) 206 = .ok (.iload 7, 2) := by decide +kernel
theorem dX7_layTables_208 : decode (mc mX7_layTables) 208 = .ok (.ineg, 1) := by decide +kernel
theorem dX7_layTables_209 : decode (mc mX7_layTables) 209 = .ok (.invokevirtual 137, 3) := by decide +kernel
theorem dX7_layTables_212 : decode (mc mX7_layTables) 212 = .ok (.bipush 15, 2) := by decide +kernel
theorem dX7_layTables_214 : decode (mc mX7_layTables) 214 = .ok (.ishl, 1) := by decide +kernel
theorem dX7_layTables_215 : decode (mc mX7_layTables) 215 = .ok (.goto 4, 3) := by decide +kernel
theorem dX7_layTables_218 : decode (mc mX7_layTables) 218 = .ok (.iconst 0, 1) := by decide +kernel
theorem dX7_layTables_219 : decode (mc mX7_layTables) 219 = .ok (.invokevirtual 113, 3) := by decide +kernel
theorem dX7_layTables_222 : decode (mc mX7_layTables) 222 = .ok (.iinc 6 1, 3) := by decide +kernel
theorem dX7_layTables_225 : decode (mc mX7_layTables) 225 = .ok (.goto (-137), 3) := by decide +kernel
theorem dX7_layTables_228 : decode (mc mX7_layTables) 228 = .ok (.aload_n 1, 1) := by decide +kernel
theorem dX7_layTables_229 : decode (mc mX7_layTables) 229 = .ok (.getfield 140, 3) := by decide +kernel
theorem dX7_layTables_232 : decode (mc mX7_layTables) 232 = .ok (.iload 4, 2) := by decide +kernel
theorem dX7_layTables_234 : decode (mc mX7_layTables) 234 = .ok (.iload 5, 2) := by decide +kernel
theorem dX7_layTables_236 : decode (mc mX7_layTables) 236 = .ok (.iload_n 3, 1) := by decide +kernel
theorem dX7_layTables_237 : decode (mc mX7_layTables) 237 = .ok (.invokestatic 133, 3) := by decide +kernel
theorem dX7_layTables_240 : decode (mc mX7_layTables) 240 = .ok (.ireturn, 1) := by decide +kernel
theorem dX7_layMove_0 : decode (mc mX7_layMove) 0 = .ok (.aload_n 0, 1) := by decide +kernel
theorem dX7_layMove_1 : decode (mc mX7_layMove) 1 = .ok (.getfield 30, 3) := by decide +kernel
theorem dX7_layMove_4 : decode (mc mX7_layMove) 4 = .ok (.iload_n 1, 1) := by decide +kernel
theorem dX7_layMove_5 : decode (mc mX7_layMove) 5 = .ok (.aaload, 1) := by decide +kernel
theorem dX7_layMove_6 : decode (mc mX7_layMove) 6 = .ok (.iload_n 2, 1) := by decide +kernel
theorem dX7_layMove_7 : decode (mc mX7_layMove) 7 = .ok (.iload_n 3, 1) := by decide +kernel
theorem dX7_layMove_8 : decode (mc mX7_layMove) 8 = .ok (.iastore, 1) := by decide +kernel
theorem dX7_layMove_9 : decode (mc mX7_layMove) 9 = .ok (.aload_n 0, 1) := by decide +kernel
theorem dX7_layMove_10 : decode (mc mX7_layMove) 10 = .ok (.getfield 33, 3) := by decide +kernel
theorem dX7_layMove_13 : decode (mc mX7_layMove) 13 = .ok (.iload_n 1, 1) := by decide +kernel
theorem dX7_layMove_14 : decode (mc mX7_layMove) 14 = .ok (.aaload, 1) := by decide +kernel
theorem dX7_layMove_15 : decode (mc mX7_layMove) 15 = .ok (.iload_n 2, 1) := by decide +kernel
theorem dX7_layMove_16 : decode (mc mX7_layMove) 16 = .ok (.iload 4, 2) := by decide +kernel
theorem dX7_layMove_18 : decode (mc mX7_layMove) 18 = .ok (.iastore, 1) := by decide +kernel
theorem dX7_layMove_19 : decode (mc mX7_layMove) 19 = .ok (.aload_n 0, 1) := by decide +kernel
theorem dX7_layMove_20 : decode (mc mX7_layMove) 20 = .ok (.getfield 36, 3) := by decide +kernel
theorem dX7_layMove_23 : decode (mc mX7_layMove) 23 = .ok (.iload_n 1, 1) := by decide +kernel
theorem dX7_layMove_24 : decode (mc mX7_layMove) 24 = .ok (.aaload, 1) := by decide +kernel
theorem dX7_layMove_25 : decode (mc mX7_layMove) 25 = .ok (.iload_n 2, 1) := by decide +kernel
theorem dX7_layMove_26 : decode (mc mX7_layMove) 26 = .ok (.iload 5, 2) := by decide +kernel
theorem dX7_layMove_28 : decode (mc mX7_layMove) 28 = .ok (.iastore, 1) := by decide +kernel
theorem dX7_layMove_29 : decode (mc mX7_layMove) 29 = .ok (.return_, 1) := by decide +kernel
theorem dX7_placeOf_0 : decode (mc mX7_placeOf) 0 = .ok (.iload_n 0, 1) := by decide +kernel
theorem dX7_placeOf_1 : decode (mc mX7_placeOf) 1 = .ok (.ifCond .ne 5, 3) := by decide +kernel
theorem dX7_placeOf_4 : decode (mc mX7_placeOf) 4 = .ok (.iconst (-1), 1) := by decide +kernel
theorem dX7_placeOf_5 : decode (mc mX7_placeOf) 5 = .ok (.ireturn, 1) := by decide +kernel
theorem dX7_placeOf_6 : decode (mc mX7_placeOf) 6 = .ok (.iload_n 0, 1) := by decide +kernel
theorem dX7_placeOf_7 : decode (mc mX7_placeOf) 7 = .ok (.ifCond .ge 14, 3) := by decide +kernel
theorem dX7_placeOf_10 : decode (mc mX7_placeOf) 10 = .ok (.iload_n 0, 1) := by decide +kernel
theorem dX7_placeOf_11 : decode (mc mX7_placeOf) 11 = .ok (.ineg, 1) := by decide +kernel
theorem dX7_placeOf_12 : decode (mc mX7_placeOf) 12 = .ok (.iload_n 1, 1) := by decide +kernel
theorem dX7_placeOf_13 : decode (mc mX7_placeOf) 13 = .ok (.invokestatic 100, 3) := by decide +kernel
theorem dX7_placeOf_16 : decode (mc mX7_placeOf) 16 = .ok (.iconst 1, 1) := by decide +kernel
theorem dX7_placeOf_17 : decode (mc mX7_placeOf) 17 = .ok (.isub, 1) := by decide +kernel
theorem dX7_placeOf_18 : decode (mc mX7_placeOf) 18 = .ok (.goto 12, 3) := by decide +kernel
theorem dX7_placeOf_21 : decode (mc mX7_placeOf) 21 = .ok (.iload_n 1, 1) := by decide +kernel
theorem dX7_placeOf_22 : decode (mc mX7_placeOf) 22 = .ok (.iload_n 0, 1) := by decide +kernel
theorem dX7_placeOf_23 : decode (mc mX7_placeOf) 23 = .ok (.iload_n 2, 1) := by decide +kernel
theorem dX7_placeOf_24 : decode (mc mX7_placeOf) 24 = .ok (.invokestatic 100, 3) := by decide +kernel
theorem dX7_placeOf_27 : decode (mc mX7_placeOf) 27 = .ok (.iadd, 1) := by decide +kernel
theorem dX7_placeOf_28 : decode (mc mX7_placeOf) 28 = .ok (.iconst 1, 1) := by decide +kernel
theorem dX7_placeOf_29 : decode (mc mX7_placeOf) 29 = .ok (.isub, 1) := by decide +kernel
theorem dX7_placeOf_30 : decode (mc mX7_placeOf) 30 = .ok (.istore 4, 2) := by decide +kernel
theorem dX7_placeOf_32 : decode (mc mX7_placeOf) 32 = .ok (.iload 4, 2) := by decide +kernel
theorem dX7_placeOf_34 : decode (mc mX7_placeOf) 34 = .ok (.iload_n 3, 1) := by decide +kernel
theorem dX7_placeOf_35 : decode (mc mX7_placeOf) 35 = .ok (.imul, 1) := by decide +kernel
theorem dX7_placeOf_36 : decode (mc mX7_placeOf) 36 = .ok (.ireturn, 1) := by decide +kernel
theorem dX7_layHourCosts_0 : decode (mc mX7_layHourCosts) 0 = .ok (.iconst 0, 1) := by decide +kernel
theorem dX7_layHourCosts_1 : decode (mc mX7_layHourCosts) 1 = .ok (.istore_n 2, 1) := by decide +kernel
theorem dX7_layHourCosts_2 : decode (mc mX7_layHourCosts) 2 = .ok (.iload_n 2, 1) := by decide +kernel
theorem dX7_layHourCosts_3 : decode (mc mX7_layHourCosts) 3 = .ok (.bipush 27, 2) := by decide +kernel
theorem dX7_layHourCosts_5 : decode (mc mX7_layHourCosts) 5 = .ok (.if_icmp .ge 134, 3) := by decide +kernel
theorem dX7_layHourCosts_8 : decode (mc mX7_layHourCosts) 8 = .ok (.iconst 0, 1) := by decide +kernel
theorem dX7_layHourCosts_9 : decode (mc mX7_layHourCosts) 9 = .ok (.istore_n 3, 1) := by decide +kernel
theorem dX7_layHourCosts_10 : decode (mc mX7_layHourCosts) 10 = .ok (.iconst 0, 1) := by decide +kernel
theorem dX7_layHourCosts_11 : decode (mc mX7_layHourCosts) 11 = .ok (.istore 4, 2) := by decide +kernel
theorem dX7_layHourCosts_13 : decode (mc mX7_layHourCosts) 13 = .ok (.iload_n 2, 1) := by decide +kernel
theorem dX7_layHourCosts_14 : decode (mc mX7_layHourCosts) 14 = .ok (.istore 5, 2) := by decide +kernel
theorem dX7_layHourCosts_16 : decode (mc mX7_layHourCosts) 16 = .ok (.iconst 2, 1) := by decide +kernel
theorem dX7_layHourCosts_17 : decode (mc mX7_layHourCosts) 17 = .ok (.istore 6, 2) := by decide +kernel
theorem dX7_layHourCosts_19 : decode (mc mX7_layHourCosts) 19 = .ok (.iload 6, 2) := by decide +kernel
theorem dX7_layHourCosts_21 : decode (mc mX7_layHourCosts) 21 = .ok (.ifCond .lt 56, 3) := by decide +kernel
theorem dX7_layHourCosts_24 : decode (mc mX7_layHourCosts) 24 = .ok (.iload 5, 2) := by decide +kernel
theorem dX7_layHourCosts_26 : decode (mc mX7_layHourCosts) 26 = .ok (.iconst 3, 1) := by decide +kernel
theorem dX7_layHourCosts_27 : decode (mc mX7_layHourCosts) 27 = .ok (.irem, 1) := by decide +kernel
theorem dX7_layHourCosts_28 : decode (mc mX7_layHourCosts) 28 = .ok (.istore 7, 2) := by decide +kernel
theorem dX7_layHourCosts_30 : decode (mc mX7_layHourCosts) 30 = .ok (.iload 5, 2) := by decide +kernel
theorem dX7_layHourCosts_32 : decode (mc mX7_layHourCosts) 32 = .ok (.iconst 3, 1) := by decide +kernel
theorem dX7_layHourCosts_33 : decode (mc mX7_layHourCosts) 33 = .ok (.idiv, 1) := by decide +kernel
theorem dX7_layHourCosts_34 : decode (mc mX7_layHourCosts) 34 = .ok (.istore 5, 2) := by decide +kernel
theorem dX7_layHourCosts_36 : decode (mc mX7_layHourCosts) 36 = .ok (.iload_n 3, 1) := by decide +kernel
theorem dX7_layHourCosts_37 : decode (mc mX7_layHourCosts) 37 = .ok (.iload 7, 2) := by decide +kernel
theorem dX7_layHourCosts_39 : decode (mc mX7_layHourCosts) 39 = .ok (.ifCond .ne 7, 3) := by decide +kernel
theorem dX7_layHourCosts_42 : decode (mc mX7_layHourCosts) 42 = .ok (.iconst 0, 1) := by decide +kernel
theorem dX7_layHourCosts_43 : decode (mc mX7_layHourCosts) 43 = .ok (.goto 4, 3) := by decide +kernel
theorem dX7_layHourCosts_46 : decode (mc mX7_layHourCosts) 46 = .ok (.iconst 1, 1) := by decide +kernel
theorem dX7_layHourCosts_47 : decode (mc mX7_layHourCosts) 47 = .ok (.iload 6, 2) := by decide +kernel
theorem dX7_layHourCosts_49 : decode (mc mX7_layHourCosts) 49 = .ok (.ishl, 1) := by decide +kernel
theorem dX7_layHourCosts_50 : decode (mc mX7_layHourCosts) 50 = .ok (.ior, 1) := by decide +kernel
theorem dX7_layHourCosts_51 : decode (mc mX7_layHourCosts) 51 = .ok (.istore_n 3, 1) := by decide +kernel
theorem dX7_layHourCosts_52 : decode (mc mX7_layHourCosts) 52 = .ok (.iload 4, 2) := by decide +kernel
theorem dX7_layHourCosts_54 : decode (mc mX7_layHourCosts) 54 = .ok (.iload 7, 2) := by decide +kernel
theorem dX7_layHourCosts_56 : decode (mc mX7_layHourCosts) 56 = .ok (.iconst 2, 1) := by decide +kernel
theorem dX7_layHourCosts_57 : decode (mc mX7_layHourCosts) 57 = .ok (.if_icmp .ne 7, 3) := by decide +kernel
theorem dX7_layHourCosts_60 : decode (mc mX7_layHourCosts) 60 = .ok (.iconst 1, 1) := by decide +kernel
theorem dX7_layHourCosts_61 : decode (mc mX7_layHourCosts) 61 = .ok (.goto 4, 3) := by decide +kernel
theorem dX7_layHourCosts_64 : decode (mc mX7_layHourCosts) 64 = .ok (.iconst 0, 1) := by decide +kernel
theorem dX7_layHourCosts_65 : decode (mc mX7_layHourCosts) 65 = .ok (.iload 6, 2) := by decide +kernel
theorem dX7_layHourCosts_67 : decode (mc mX7_layHourCosts) 67 = .ok (.ishl, 1) := by decide +kernel
theorem dX7_layHourCosts_68 : decode (mc mX7_layHourCosts) 68 = .ok (.ior, 1) := by decide +kernel
theorem dX7_layHourCosts_69 : decode (mc mX7_layHourCosts) 69 = .ok (.istore 4, 2) := by decide +kernel
theorem dX7_layHourCosts_71 : decode (mc mX7_layHourCosts) 71 = .ok (.iinc 6 (-1), 3) := by decide +kernel
theorem dX7_layHourCosts_74 : decode (mc mX7_layHourCosts) 74 = .ok (.goto (-55), 3) := by decide +kernel
theorem dX7_layHourCosts_77 : decode (mc mX7_layHourCosts) 77 = .ok (.iload_n 3, 1) := by decide +kernel
theorem dX7_layHourCosts_78 : decode (mc mX7_layHourCosts) 78 = .ok (.aload_n 0, 1) := by decide +kernel
theorem dX7_layHourCosts_79 : decode (mc mX7_layHourCosts) 79 = .ok (.getfield 18, 3) := by decide +kernel
theorem dX7_layHourCosts_82 : decode (mc mX7_layHourCosts) 82 = .ok (.iconst (-1), 1) := by decide +kernel
theorem dX7_layHourCosts_83 : decode (mc mX7_layHourCosts) 83 = .ok (.ixor, 1) := by decide +kernel
theorem dX7_layHourCosts_84 : decode (mc mX7_layHourCosts) 84 = .ok (.iand, 1) := by decide +kernel
theorem dX7_layHourCosts_85 : decode (mc mX7_layHourCosts) 85 = .ok (.ifCond .ne 7, 3) := by decide +kernel
theorem dX7_layHourCosts_88 : decode (mc mX7_layHourCosts) 88 = .ok (.iconst 1, 1) := by decide +kernel
theorem dX7_layHourCosts_89 : decode (mc mX7_layHourCosts) 89 = .ok (.goto 4, 3) := by decide +kernel
theorem dX7_layHourCosts_92 : decode (mc mX7_layHourCosts) 92 = .ok (.iconst 0, 1) := by decide +kernel
theorem dX7_layHourCosts_93 : decode (mc mX7_layHourCosts) 93 = .ok (.istore 6, 2) := by decide +kernel
theorem dX7_layHourCosts_95 : decode (mc mX7_layHourCosts) 95 = .ok (.aload_n 0, 1) := by decide +kernel
theorem dX7_layHourCosts_96 : decode (mc mX7_layHourCosts) 96 = .ok (.getfield 39, 3) := by decide +kernel
theorem dX7_layHourCosts_99 : decode (mc mX7_layHourCosts) 99 = .ok (.iload_n 2, 1) := by decide +kernel
theorem dX7_layHourCosts_100 : decode (mc mX7_layHourCosts) 100 = .ok (.iload 6, 2) := by decide +kernel
theorem dX7_layHourCosts_102 : decode (mc mX7_layHourCosts) 102 = .ok (.ifCond .eq 28, 3) := by decide +kernel
theorem dX7_layHourCosts_105 : decode (mc mX7_layHourCosts) 105 = .ok (.aload_n 0, 1) := by decide +kernel
theorem dX7_layHourCosts_106 : decode (mc mX7_layHourCosts) 106 = .ok (.getfield 52, 3) := by decide +kernel
theorem dX7_layHourCosts_109 : decode (mc mX7_layHourCosts) 109 = .ok (.aload_n 0, 1) := by decide +kernel
theorem dX7_layHourCosts_110 : decode (mc mX7_layHourCosts) 110 = .ok (.getfield 9, 3) := by decide +kernel
theorem dX7_layHourCosts_113 : decode (mc mX7_layHourCosts) 113 = .ok (.iload_n 1, 1) := by decide +kernel
theorem dX7_layHourCosts_114 : decode (mc mX7_layHourCosts) 114 = .ok (.iaload, 1) := by decide +kernel
theorem dX7_layHourCosts_115 : decode (mc mX7_layHourCosts) 115 = .ok (.aload_n 0, 1) := by decide +kernel
theorem dX7_layHourCosts_116 : decode (mc mX7_layHourCosts) 116 = .ok (.getfield 15, 3) := by decide +kernel
theorem dX7_layHourCosts_119 : decode (mc mX7_layHourCosts) 119 = .ok (.iload_n 1, 1) := by decide +kernel
theorem dX7_layHourCosts_120 : decode (mc mX7_layHourCosts) 120 = .ok (.iaload, 1) := by decide +kernel
theorem dX7_layHourCosts_121 : decode (mc mX7_layHourCosts) 121 = .ok (.iload_n 3, 1) := by decide +kernel
theorem dX7_layHourCosts_122 : decode (mc mX7_layHourCosts) 122 = .ok (.iload 4, 2) := by decide +kernel
theorem dX7_layHourCosts_124 : decode (mc mX7_layHourCosts) 124 = .ok (.invokevirtual 143, 3) := by decide +kernel
theorem dX7_layHourCosts_127 : decode (mc mX7_layHourCosts) 127 = .ok (.goto 5, 3) := by decide +kernel
theorem dX7_layHourCosts_130 : decode (mc mX7_layHourCosts) 130 = .ok (.bipush (-9), 2) := by decide +kernel
theorem dX7_layHourCosts_132 : decode (mc mX7_layHourCosts) 132 = .ok (.iastore, 1) := by decide +kernel
theorem dX7_layHourCosts_133 : decode (mc mX7_layHourCosts) 133 = .ok (.iinc 2 1, 3) := by decide +kernel
theorem dX7_layHourCosts_136 : decode (mc mX7_layHourCosts) 136 = .ok (.goto (-134), 3) := by decide +kernel
theorem dX7_layHourCosts_139 : decode (mc mX7_layHourCosts) 139 = .ok (.return_, 1) := by decide +kernel
theorem dX7_spread_0 : decode (mc mX7_spread) 0 = .ok (.iconst 0, 1) := by decide +kernel
theorem dX7_spread_1 : decode (mc mX7_spread) 1 = .ok (.istore_n 2, 1) := by decide +kernel
theorem dX7_spread_2 : decode (mc mX7_spread) 2 = .ok (.iconst 0, 1) := by decide +kernel
theorem dX7_spread_3 : decode (mc mX7_spread) 3 = .ok (.istore_n 3, 1) := by decide +kernel
theorem dX7_spread_4 : decode (mc mX7_spread) 4 = .ok (.iload_n 3, 1) := by decide +kernel
theorem dX7_spread_5 : decode (mc mX7_spread) 5 = .ok (.aload_n 0, 1) := by decide +kernel
theorem dX7_spread_6 : decode (mc mX7_spread) 6 = .ok (.getfield 25, 3) := by decide +kernel
theorem dX7_spread_9 : decode (mc mX7_spread) 9 = .ok (.iconst 0, 1) := by decide +kernel
theorem dX7_spread_10 : decode (mc mX7_spread) 10 = .ok (.iaload, 1) := by decide +kernel
theorem dX7_spread_11 : decode (mc mX7_spread) 11 = .ok (.if_icmp .ge 85, 3) := by decide +kernel
theorem dX7_spread_14 : decode (mc mX7_spread) 14 = .ok (.iconst 0, 1) := by decide +kernel
theorem dX7_spread_15 : decode (mc mX7_spread) 15 = .ok (.istore 4, 2) := by decide +kernel
theorem dX7_spread_17 : decode (mc mX7_spread) 17 = .ok (.iload 4, 2) := by decide +kernel
theorem dX7_spread_19 : decode (mc mX7_spread) 19 = .ok (.aload_n 0, 1) := by decide +kernel
theorem dX7_spread_20 : decode (mc mX7_spread) 20 = .ok (.getfield 25, 3) := by decide +kernel
theorem dX7_spread_23 : decode (mc mX7_spread) 23 = .ok (.iconst 1, 1) := by decide +kernel
theorem dX7_spread_24 : decode (mc mX7_spread) 24 = .ok (.iaload, 1) := by decide +kernel
theorem dX7_spread_25 : decode (mc mX7_spread) 25 = .ok (.if_icmp .ge 65, 3) := by decide +kernel
theorem dX7_spread_28 : decode (mc mX7_spread) 28 = .ok (.iconst 0, 1) := by decide +kernel
theorem dX7_spread_29 : decode (mc mX7_spread) 29 = .ok (.istore 5, 2) := by decide +kernel
theorem dX7_spread_31 : decode (mc mX7_spread) 31 = .ok (.iload 5, 2) := by decide +kernel
theorem dX7_spread_33 : decode (mc mX7_spread) 33 = .ok (.aload_n 0, 1) := by decide +kernel
theorem dX7_spread_34 : decode (mc mX7_spread) 34 = .ok (.getfield 25, 3) := by decide +kernel
theorem dX7_spread_37 : decode (mc mX7_spread) 37 = .ok (.iconst 2, 1) := by decide +kernel
theorem dX7_spread_38 : decode (mc mX7_spread) 38 = .ok (.iaload, 1) := by decide +kernel
theorem dX7_spread_39 : decode (mc mX7_spread) 39 = .ok (.if_icmp .ge 45, 3) := by decide +kernel
theorem dX7_spread_42 : decode (mc mX7_spread) 42 = .ok (.aload_n 0, 1) := by decide +kernel
theorem dX7_spread_43 : decode (mc mX7_spread) 43 = .ok (.getfield 42, 3) := by decide +kernel
theorem dX7_spread_46 : decode (mc mX7_spread) 46 = .ok (.iload_n 2, 1) := by decide +kernel
theorem dX7_spread_47 : decode (mc mX7_spread) 47 = .ok (.iaload, 1) := by decide +kernel
theorem dX7_spread_48 : decode (mc mX7_spread) 48 = .ok (.ldc 83, 2) := by decide +kernel
theorem dX7_spread_50 : decode (mc mX7_spread) 50 = .ok (.if_icmp .eq 25, 3) := by decide +kernel
theorem dX7_spread_53 : decode (mc mX7_spread) 53 = .ok (.aload_n 0, 1) := by decide +kernel
theorem dX7_spread_54 : decode (mc mX7_spread) 54 = .ok (.aload_n 0, 1) := by decide +kernel
theorem dX7_spread_55 : decode (mc mX7_spread) 55 = .ok (.getfield 42, 3) := by decide +kernel
theorem dX7_spread_58 : decode (mc mX7_spread) 58 = .ok (.iload_n 2, 1) := by decide +kernel
theorem dX7_spread_59 : decode (mc mX7_spread) 59 = .ok (.iaload, 1) := by decide +kernel
theorem dX7_spread_60 : decode (mc mX7_spread) 60 = .ok (.iload_n 1, 1) := by decide +kernel
theorem dX7_spread_61 : decode (mc mX7_spread) 61 = .ok (.iconst 2, 1) := by decide +kernel
theorem dX7_spread_62 : decode (mc mX7_spread) 62 = .ok (.iload_n 3, 1) := by decide +kernel
theorem dX7_spread_63 : decode (mc mX7_spread) 63 = .ok (.imul, 1) := by decide +kernel
theorem dX7_spread_64 : decode (mc mX7_spread) 64 = .ok (.iconst 2, 1) := by decide +kernel
theorem dX7_spread_65 : decode (mc mX7_spread) 65 = .ok (.iload 4, 2) := by decide +kernel
theorem dX7_spread_67 : decode (mc mX7_spread) 67 = .ok (.imul, 1) := by decide +kernel
theorem dX7_spread_68 : decode (mc mX7_spread) 68 = .ok (.iconst 2, 1) := by decide +kernel
theorem dX7_spread_69 : decode (mc mX7_spread) 69 = .ok (.iload 5, 2) := by decide +kernel
theorem dX7_spread_71 : decode (mc mX7_spread) 71 = .ok (.imul, 1) := by decide +kernel
theorem dX7_spread_72 : decode (mc mX7_spread) 72 = .ok (.invokevirtual 146, 3) := by decide +kernel
theorem dX7_spread_75 : decode (mc mX7_spread) 75 = .ok (.iinc 2 1, 3) := by decide +kernel
theorem dX7_spread_78 : decode (mc mX7_spread) 78 = .ok (.iinc 5 1, 3) := by decide +kernel
theorem dX7_spread_81 : decode (mc mX7_spread) 81 = .ok (.goto (-50), 3) := by decide +kernel
theorem dX7_spread_84 : decode (mc mX7_spread) 84 = .ok (.iinc 4 1, 3) := by decide +kernel
theorem dX7_spread_87 : decode (mc mX7_spread) 87 = .ok (.goto (-70), 3) := by decide +kernel
theorem dX7_spread_90 : decode (mc mX7_spread) 90 = .ok (.iinc 3 1, 3) := by decide +kernel
theorem dX7_spread_93 : decode (mc mX7_spread) 93 = .ok (.goto (-89), 3) := by decide +kernel
theorem dX7_spread_96 : decode (mc mX7_spread) 96 = .ok (.return_, 1) := by decide +kernel
theorem dX7_spreadFrom_0 : decode (mc mX7_spreadFrom) 0 = .ok (.iload_n 3, 1) := by decide +kernel
theorem dX7_spreadFrom_1 : decode (mc mX7_spreadFrom) 1 = .ok (.istore 6, 2) := by decide +kernel
theorem dX7_spreadFrom_3 : decode (mc mX7_spreadFrom) 3 = .ok (.iload 6, 2) := by decide +kernel
theorem dX7_spreadFrom_5 : decode (mc mX7_spreadFrom) 5 = .ok (.iload_n 3, 1) := by decide +kernel
theorem dX7_spreadFrom_6 : decode (mc mX7_spreadFrom) 6 = .ok (.iconst 2, 1) := by decide +kernel
theorem dX7_spreadFrom_7 : decode (mc mX7_spreadFrom) 7 = .ok (.iadd, 1) := by decide +kernel
theorem dX7_spreadFrom_8 : decode (mc mX7_spreadFrom) 8 = .ok (.if_icmp .ge 255, 3) := by decide +kernel
theorem dX7_spreadFrom_11 : decode (mc mX7_spreadFrom) 11 = .ok (.iload 4, 2) := by decide +kernel
theorem dX7_spreadFrom_13 : decode (mc mX7_spreadFrom) 13 = .ok (.istore 7, 2) := by decide +kernel
theorem dX7_spreadFrom_15 : decode (mc mX7_spreadFrom) 15 = .ok (.iload 7, 2) := by decide +kernel
theorem dX7_spreadFrom_17 : decode (mc mX7_spreadFrom) 17 = .ok (.iload 4, 2) := by decide +kernel
theorem dX7_spreadFrom_19 : decode (mc mX7_spreadFrom) 19 = .ok (.iconst 2, 1) := by decide +kernel
theorem dX7_spreadFrom_20 : decode (mc mX7_spreadFrom) 20 = .ok (.iadd, 1) := by decide +kernel
theorem dX7_spreadFrom_21 : decode (mc mX7_spreadFrom) 21 = .ok (.if_icmp .ge 236, 3) := by decide +kernel
theorem dX7_spreadFrom_24 : decode (mc mX7_spreadFrom) 24 = .ok (.aload_n 0, 1) := by decide +kernel
theorem dX7_spreadFrom_25 : decode (mc mX7_spreadFrom) 25 = .ok (.getfield 30, 3) := by decide +kernel
theorem dX7_spreadFrom_28 : decode (mc mX7_spreadFrom) 28 = .ok (.iconst 0, 1) := by decide +kernel
theorem dX7_spreadFrom_29 : decode (mc mX7_spreadFrom) 29 = .ok (.aaload, 1) := by decide +kernel
theorem dX7_spreadFrom_30 : decode (mc mX7_spreadFrom) 30 = .ok (.iload 6, 2) := by decide +kernel
theorem dX7_spreadFrom_32 : decode (mc mX7_spreadFrom) 32 = .ok (.iaload, 1) := by decide +kernel
theorem dX7_spreadFrom_33 : decode (mc mX7_spreadFrom) 33 = .ok (.ifCond .lt 218, 3) := by decide +kernel
theorem dX7_spreadFrom_36 : decode (mc mX7_spreadFrom) 36 = .ok (.aload_n 0, 1) := by decide +kernel
theorem dX7_spreadFrom_37 : decode (mc mX7_spreadFrom) 37 = .ok (.getfield 30, 3) := by decide +kernel
theorem dX7_spreadFrom_40 : decode (mc mX7_spreadFrom) 40 = .ok (.iconst 1, 1) := by decide +kernel
theorem dX7_spreadFrom_41 : decode (mc mX7_spreadFrom) 41 = .ok (.aaload, 1) := by decide +kernel
theorem dX7_spreadFrom_42 : decode (mc mX7_spreadFrom) 42 = .ok (.iload 7, 2) := by decide +kernel
theorem dX7_spreadFrom_44 : decode (mc mX7_spreadFrom) 44 = .ok (.iaload, 1) := by decide +kernel
theorem dX7_spreadFrom_45 : decode (mc mX7_spreadFrom) 45 = .ok (.ifCond .ge 6, 3) := by decide +kernel
theorem dX7_spreadFrom_48 : decode (mc mX7_spreadFrom) 48 = .ok (.goto 203, 3) := by decide +kernel
theorem dX7_spreadFrom_51 : decode (mc mX7_spreadFrom) 51 = .ok (.iload 5, 2) := by decide +kernel
theorem dX7_spreadFrom_53 : decode (mc mX7_spreadFrom) 53 = .ok (.istore 8, 2) := by decide +kernel
theorem dX7_spreadFrom_55 : decode (mc mX7_spreadFrom) 55 = .ok (.iload 8, 2) := by decide +kernel
theorem dX7_spreadFrom_57 : decode (mc mX7_spreadFrom) 57 = .ok (.iload 5, 2) := by decide +kernel
theorem dX7_spreadFrom_59 : decode (mc mX7_spreadFrom) 59 = .ok (.iconst 2, 1) := by decide +kernel
theorem dX7_spreadFrom_60 : decode (mc mX7_spreadFrom) 60 = .ok (.iadd, 1) := by decide +kernel
theorem dX7_spreadFrom_61 : decode (mc mX7_spreadFrom) 61 = .ok (.if_icmp .ge 190, 3) := by decide +kernel
theorem dX7_spreadFrom_64 : decode (mc mX7_spreadFrom) 64 = .ok (.aload_n 0, 1) := by decide +kernel
theorem dX7_spreadFrom_65 : decode (mc mX7_spreadFrom) 65 = .ok (.getfield 39, 3) := by decide +kernel
theorem dX7_spreadFrom_68 : decode (mc mX7_spreadFrom) 68 = .ok (.bipush 9, 2) := by decide +kernel
theorem dX7_spreadFrom_70 : decode (mc mX7_spreadFrom) 70 = .ok (.aload_n 0, 1) := by decide +kernel
theorem dX7_spreadFrom_71 : decode (mc mX7_spreadFrom) 71 = .ok (.getfield 33, 3) := by decide +kernel
theorem dX7_spreadFrom_74 : decode (mc mX7_spreadFrom) 74 = .ok (.iconst 0, 1) := by decide +kernel
theorem dX7_spreadFrom_75 : decode (mc mX7_spreadFrom) 75 = .ok (.aaload, 1) := by decide +kernel
theorem dX7_spreadFrom_76 : decode (mc mX7_spreadFrom) 76 = .ok (.iload 6, 2) := by decide +kernel
theorem dX7_spreadFrom_78 : decode (mc mX7_spreadFrom) 78 = .ok (.iaload, 1) := by decide +kernel
theorem dX7_spreadFrom_79 : decode (mc mX7_spreadFrom) 79 = .ok (.imul, 1) := by decide +kernel
theorem dX7_spreadFrom_80 : decode (mc mX7_spreadFrom) 80 = .ok (.iconst 3, 1) := by decide +kernel
theorem dX7_spreadFrom_81 : decode (mc mX7_spreadFrom) 81 = .ok (.aload_n 0, 1) := by decide +kernel
theorem dX7_spreadFrom_82 : decode (mc mX7_spreadFrom) 82 = .ok (.getfield 33, 3) := by decide +kernel
theorem dX7_spreadFrom_85 : decode (mc mX7_spreadFrom) 85 = .ok (.iconst 1, 1) := by decide +kernel
theorem dX7_spreadFrom_86 : decode (mc mX7_spreadFrom) 86 = .ok (.aaload, 1) := by decide +kernel
theorem dX7_spreadFrom_87 : decode (mc mX7_spreadFrom) 87 = .ok (.iload 7, 2) := by decide +kernel
theorem dX7_spreadFrom_89 : decode (mc mX7_spreadFrom) 89 = .ok (.iaload, 1) := by decide +kernel
theorem dX7_spreadFrom_90 : decode (mc mX7_spreadFrom) 90 = .ok (.imul, 1) := by decide +kernel
theorem dX7_spreadFrom_91 : decode (mc mX7_spreadFrom) 91 = .ok (.iadd, 1) := by decide +kernel
theorem dX7_spreadFrom_92 : decode (mc mX7_spreadFrom) 92 = .ok (.aload_n 0, 1) := by decide +kernel
theorem dX7_spreadFrom_93 : decode (mc mX7_spreadFrom) 93 = .ok (.getfield 33, 3) := by decide +kernel
theorem dX7_spreadFrom_96 : decode (mc mX7_spreadFrom) 96 = .ok (.iconst 2, 1) := by decide +kernel
theorem dX7_spreadFrom_97 : decode (mc mX7_spreadFrom) 97 = .ok (.aaload, 1) := by decide +kernel
theorem dX7_spreadFrom_98 : decode (mc mX7_spreadFrom) 98 = .ok (.iload 8, 2) := by decide +kernel
theorem dX7_spreadFrom_100 : decode (mc mX7_spreadFrom) 100 = .ok (.iaload, 1) := by decide +kernel
theorem dX7_spreadFrom_101 : decode (mc mX7_spreadFrom) 101 = .ok (.iadd, 1) := by decide +kernel
theorem dX7_spreadFrom_102 : decode (mc mX7_spreadFrom) 102 = .ok (.iaload, 1) := by decide +kernel
theorem dX7_spreadFrom_103 : decode (mc mX7_spreadFrom) 103 = .ok (.istore 9, 2) := by decide +kernel
theorem dX7_spreadFrom_105 : decode (mc mX7_spreadFrom) 105 = .ok (.aload_n 0, 1) := by decide +kernel
theorem dX7_spreadFrom_106 : decode (mc mX7_spreadFrom) 106 = .ok (.getfield 30, 3) := by decide +kernel
theorem dX7_spreadFrom_109 : decode (mc mX7_spreadFrom) 109 = .ok (.iconst 2, 1) := by decide +kernel
theorem dX7_spreadFrom_110 : decode (mc mX7_spreadFrom) 110 = .ok (.aaload, 1) := by decide +kernel
theorem dX7_spreadFrom_111 : decode (mc mX7_spreadFrom) 111 = .ok (.iload 8, 2) := by decide +kernel
theorem dX7_spreadFrom_113 : decode (mc mX7_spreadFrom) 113 = .ok (.iaload, 1) := by decide +kernel
theorem dX7_spreadFrom_114 : decode (mc mX7_spreadFrom) 114 = .ok (.ifCond .lt 131, 3) := by decide +kernel
theorem dX7_spreadFrom_117 : decode (mc mX7_spreadFrom) 117 = .ok (.iload 9, 2) := by decide +kernel
theorem dX7_spreadFrom_119 : decode (mc mX7_spreadFrom) 119 = .ok (.ifCond .ge 6, 3) := by decide +kernel
theorem dX7_spreadFrom_122 : decode (mc mX7_spreadFrom) 122 = .ok (.goto 123, 3) := by decide +kernel
theorem dX7_spreadFrom_125 : decode (mc mX7_spreadFrom) 125 = .ok (.iload 6, 2) := by decide +kernel
theorem dX7_spreadFrom_127 : decode (mc mX7_spreadFrom) 127 = .ok (.iconst 1, 1) := by decide +kernel
theorem dX7_spreadFrom_128 : decode (mc mX7_spreadFrom) 128 = .ok (.iand, 1) := by decide +kernel
theorem dX7_spreadFrom_129 : decode (mc mX7_spreadFrom) 129 = .ok (.iconst 0, 1) := by decide +kernel
theorem dX7_spreadFrom_130 : decode (mc mX7_spreadFrom) 130 = .ok (.invokestatic 110, 3) := by decide +kernel
theorem dX7_spreadFrom_133 : decode (mc mX7_spreadFrom) 133 = .ok (.ishl, 1) := by decide +kernel
theorem dX7_spreadFrom_134 : decode (mc mX7_spreadFrom) 134 = .ok (.iload 7, 2) := by decide +kernel
theorem dX7_spreadFrom_136 : decode (mc mX7_spreadFrom) 136 = .ok (.iconst 1, 1) := by decide +kernel
theorem dX7_spreadFrom_137 : decode (mc mX7_spreadFrom) 137 = .ok (.iand, 1) := by decide +kernel
theorem dX7_spreadFrom_138 : decode (mc mX7_spreadFrom) 138 = .ok (.iconst 1, 1) := by decide +kernel
theorem dX7_spreadFrom_139 : decode (mc mX7_spreadFrom) 139 = .ok (.invokestatic 110, 3) := by decide +kernel
theorem dX7_spreadFrom_142 : decode (mc mX7_spreadFrom) 142 = .ok (.ishl, 1) := by decide +kernel
theorem dX7_spreadFrom_143 : decode (mc mX7_spreadFrom) 143 = .ok (.ior, 1) := by decide +kernel
theorem dX7_spreadFrom_144 : decode (mc mX7_spreadFrom) 144 = .ok (.iload 8, 2) := by decide +kernel
theorem dX7_spreadFrom_146 : decode (mc mX7_spreadFrom) 146 = .ok (.iconst 1, 1) := by decide +kernel
theorem dX7_spreadFrom_147 : decode (mc mX7_spreadFrom) 147 = .ok (.iand, 1) := by decide +kernel
theorem dX7_spreadFrom_148 : decode (mc mX7_spreadFrom) 148 = .ok (.ior, 1) := by decide +kernel
theorem dX7_spreadFrom_149 : decode (mc mX7_spreadFrom) 149 = .ok (.istore 10, 2) := by decide +kernel
theorem dX7_spreadFrom_151 : decode (mc mX7_spreadFrom) 151 = .ok (.iload_n 1, 1) := by decide +kernel
theorem dX7_spreadFrom_152 : decode (mc mX7_spreadFrom) 152 = .ok (.iload 9, 2) := by decide +kernel
theorem dX7_spreadFrom_154 : decode (mc mX7_spreadFrom) 154 = .ok (.bipush 15, 2) := by decide +kernel
theorem dX7_spreadFrom_156 : decode (mc mX7_spreadFrom) 156 = .ok (.ishl, 1) := by decide +kernel
theorem dX7_spreadFrom_157 : decode (mc mX7_spreadFrom) 157 = .ok (.iadd, 1) := by decide +kernel
theorem dX7_spreadFrom_158 : decode (mc mX7_spreadFrom) 158 = .ok (.aload_n 0, 1) := by decide +kernel
theorem dX7_spreadFrom_159 : decode (mc mX7_spreadFrom) 159 = .ok (.getfield 36, 3) := by decide +kernel
theorem dX7_spreadFrom_162 : decode (mc mX7_spreadFrom) 162 = .ok (.iconst 0, 1) := by decide +kernel
theorem dX7_spreadFrom_163 : decode (mc mX7_spreadFrom) 163 = .ok (.aaload, 1) := by decide +kernel
theorem dX7_spreadFrom_164 : decode (mc mX7_spreadFrom) 164 = .ok (.iload 6, 2) := by decide +kernel
theorem dX7_spreadFrom_166 : decode (mc mX7_spreadFrom) 166 = .ok (.iaload, 1) := by decide +kernel
theorem dX7_spreadFrom_167 : decode (mc mX7_spreadFrom) 167 = .ok (.iadd, 1) := by decide +kernel
theorem dX7_spreadFrom_168 : decode (mc mX7_spreadFrom) 168 = .ok (.aload_n 0, 1) := by decide +kernel
theorem dX7_spreadFrom_169 : decode (mc mX7_spreadFrom) 169 = .ok (.getfield 36, 3) := by decide +kernel
theorem dX7_spreadFrom_172 : decode (mc mX7_spreadFrom) 172 = .ok (.iconst 1, 1) := by decide +kernel
theorem dX7_spreadFrom_173 : decode (mc mX7_spreadFrom) 173 = .ok (.aaload, 1) := by decide +kernel
theorem dX7_spreadFrom_174 : decode (mc mX7_spreadFrom) 174 = .ok (.iload 7, 2) := by decide +kernel
theorem dX7_spreadFrom_176 : decode (mc mX7_spreadFrom) 176 = .ok (.iaload, 1) := by decide +kernel
theorem dX7_spreadFrom_177 : decode (mc mX7_spreadFrom) 177 = .ok (.iadd, 1) := by decide +kernel
theorem dX7_spreadFrom_178 : decode (mc mX7_spreadFrom) 178 = .ok (.aload_n 0, 1) := by decide +kernel
theorem dX7_spreadFrom_179 : decode (mc mX7_spreadFrom) 179 = .ok (.getfield 36, 3) := by decide +kernel
theorem dX7_spreadFrom_182 : decode (mc mX7_spreadFrom) 182 = .ok (.iconst 2, 1) := by decide +kernel
theorem dX7_spreadFrom_183 : decode (mc mX7_spreadFrom) 183 = .ok (.aaload, 1) := by decide +kernel
theorem dX7_spreadFrom_184 : decode (mc mX7_spreadFrom) 184 = .ok (.iload 8, 2) := by decide +kernel
theorem dX7_spreadFrom_186 : decode (mc mX7_spreadFrom) 186 = .ok (.iaload, 1) := by decide +kernel
theorem dX7_spreadFrom_187 : decode (mc mX7_spreadFrom) 187 = .ok (.iadd, 1) := by decide +kernel
theorem dX7_spreadFrom_188 : decode (mc mX7_spreadFrom) 188 = .ok (.iload 10, 2) := by decide +kernel
theorem dX7_spreadFrom_190 : decode (mc mX7_spreadFrom) 190 = .ok (.iload_n 2, 1) := by decide +kernel
theorem dX7_spreadFrom_191 : decode (mc mX7_spreadFrom) 191 = .ok (.ishl, 1) := by decide +kernel
theorem dX7_spreadFrom_192 : decode (mc mX7_spreadFrom) 192 = .ok (.iadd, 1) := by decide +kernel
theorem dX7_spreadFrom_193 : decode (mc mX7_spreadFrom) 193 = .ok (.istore 11, 2) := by decide +kernel
theorem dX7_spreadFrom_195 : decode (mc mX7_spreadFrom) 195 = .ok (.aload_n 0, 1) := by decide +kernel
theorem dX7_spreadFrom_196 : decode (mc mX7_spreadFrom) 196 = .ok (.getfield 30, 3) := by decide +kernel
theorem dX7_spreadFrom_199 : decode (mc mX7_spreadFrom) 199 = .ok (.iconst 0, 1) := by decide +kernel
theorem dX7_spreadFrom_200 : decode (mc mX7_spreadFrom) 200 = .ok (.aaload, 1) := by decide +kernel
theorem dX7_spreadFrom_201 : decode (mc mX7_spreadFrom) 201 = .ok (.iload 6, 2) := by decide +kernel
theorem dX7_spreadFrom_203 : decode (mc mX7_spreadFrom) 203 = .ok (.iaload, 1) := by decide +kernel
theorem dX7_spreadFrom_204 : decode (mc mX7_spreadFrom) 204 = .ok (.aload_n 0, 1) := by decide +kernel
theorem dX7_spreadFrom_205 : decode (mc mX7_spreadFrom) 205 = .ok (.getfield 30, 3) := by decide +kernel
theorem dX7_spreadFrom_208 : decode (mc mX7_spreadFrom) 208 = .ok (.iconst 1, 1) := by decide +kernel
theorem dX7_spreadFrom_209 : decode (mc mX7_spreadFrom) 209 = .ok (.aaload, 1) := by decide +kernel
theorem dX7_spreadFrom_210 : decode (mc mX7_spreadFrom) 210 = .ok (.iload 7, 2) := by decide +kernel
theorem dX7_spreadFrom_212 : decode (mc mX7_spreadFrom) 212 = .ok (.iaload, 1) := by decide +kernel
theorem dX7_spreadFrom_213 : decode (mc mX7_spreadFrom) 213 = .ok (.iadd, 1) := by decide +kernel
theorem dX7_spreadFrom_214 : decode (mc mX7_spreadFrom) 214 = .ok (.aload_n 0, 1) := by decide +kernel
theorem dX7_spreadFrom_215 : decode (mc mX7_spreadFrom) 215 = .ok (.getfield 30, 3) := by decide +kernel
theorem dX7_spreadFrom_218 : decode (mc mX7_spreadFrom) 218 = .ok (.iconst 2, 1) := by decide +kernel
theorem dX7_spreadFrom_219 : decode (mc mX7_spreadFrom) 219 = .ok (.aaload, 1) := by decide +kernel
theorem dX7_spreadFrom_220 : decode (mc mX7_spreadFrom) 220 = .ok (.iload 8, 2) := by decide +kernel
theorem dX7_spreadFrom_222 : decode (mc mX7_spreadFrom) 222 = .ok (.iaload, 1) := by decide +kernel
theorem dX7_spreadFrom_223 : decode (mc mX7_spreadFrom) 223 = .ok (.iadd, 1) := by decide +kernel
theorem dX7_spreadFrom_224 : decode (mc mX7_spreadFrom) 224 = .ok (.istore 12, 2) := by decide +kernel
theorem dX7_spreadFrom_226 : decode (mc mX7_spreadFrom) 226 = .ok (.aload_n 0, 1) := by decide +kernel
theorem dX7_spreadFrom_227 : decode (mc mX7_spreadFrom) 227 = .ok (.getfield 45, 3) := by decide +kernel
theorem dX7_spreadFrom_230 : decode (mc mX7_spreadFrom) 230 = .ok (.iload 12, 2) := by decide +kernel
theorem dX7_spreadFrom_232 : decode (mc mX7_spreadFrom) 232 = .ok (.aload_n 0, 1) := by decide +kernel
theorem dX7_spreadFrom_233 : decode (mc mX7_spreadFrom) 233 = .ok (.getfield 45, 3) := by decide +kernel
theorem dX7_spreadFrom_236 : decode (mc mX7_spreadFrom) 236 = .ok (.iload 12, 2) := by decide +kernel
theorem dX7_spreadFrom_238 : decode (mc mX7_spreadFrom) 238 = .ok (.iaload, 1) := by decide +kernel
theorem dX7_spreadFrom_239 : decode (mc mX7_spreadFrom) 239 = .ok (.iload 11, 2) := by decide +kernel
theorem dX7_spreadFrom_241 : decode (mc mX7_spreadFrom) 241 = .ok (.invokestatic 100, 3) := by decide +kernel
theorem dX7_spreadFrom_244 : decode (mc mX7_spreadFrom) 244 = .ok (.iastore, 1) := by decide +kernel
theorem dX7_spreadFrom_245 : decode (mc mX7_spreadFrom) 245 = .ok (.iinc 8 1, 3) := by decide +kernel
theorem dX7_spreadFrom_248 : decode (mc mX7_spreadFrom) 248 = .ok (.goto (-193), 3) := by decide +kernel
theorem dX7_spreadFrom_251 : decode (mc mX7_spreadFrom) 251 = .ok (.iinc 7 1, 3) := by decide +kernel
theorem dX7_spreadFrom_254 : decode (mc mX7_spreadFrom) 254 = .ok (.goto (-239), 3) := by decide +kernel
theorem dX7_spreadFrom_257 : decode (mc mX7_spreadFrom) 257 = .ok (.iinc 6 1, 3) := by decide +kernel
theorem dX7_spreadFrom_260 : decode (mc mX7_spreadFrom) 260 = .ok (.goto (-257), 3) := by decide +kernel
theorem dX7_spreadFrom_263 : decode (mc mX7_spreadFrom) 263 = .ok (.return_, 1) := by decide +kernel
theorem dX8_init_0 : decode (mc mX8_init) 0 = .ok (.aload_n 0, 1) := by decide +kernel
theorem dX8_init_1 : decode (mc mX8_init) 1 = .ok (.invokespecial 3, 3) := by decide +kernel
theorem dX8_init_4 : decode (mc mX8_init) 4 = .ok (.aload_n 0, 1) := by decide +kernel
theorem dX8_init_5 : decode (mc mX8_init) 5 = .ok (.bipush 120, 2) := by decide +kernel
theorem dX8_init_7 : decode (mc mX8_init) 7 = .ok (.newarray .int, 2) := by decide +kernel
theorem dX8_init_9 : decode (mc mX8_init) 9 = .ok (.putfield 9, 3) := by decide +kernel
theorem dX8_init_12 : decode (mc mX8_init) 12 = .ok (.aload_n 0, 1) := by decide +kernel
theorem dX8_init_13 : decode (mc mX8_init) 13 = .ok (.iconst 0, 1) := by decide +kernel
theorem dX8_init_14 : decode (mc mX8_init) 14 = .ok (.putfield 15, 3) := by decide +kernel
theorem dX8_init_17 : decode (mc mX8_init) 17 = .ok (.aload_n 0, 1) := by decide +kernel
theorem dX8_init_18 : decode (mc mX8_init) 18 = .ok (.iconst 0, 1) := by decide +kernel
theorem dX8_init_19 : decode (mc mX8_init) 19 = .ok (.putfield 19, 3) := by decide +kernel
theorem dX8_init_22 : decode (mc mX8_init) 22 = .ok (.aload_n 0, 1) := by decide +kernel
theorem dX8_init_23 : decode (mc mX8_init) 23 = .ok (.iconst 1, 1) := by decide +kernel
theorem dX8_init_24 : decode (mc mX8_init) 24 = .ok (.putfield 22, 3) := by decide +kernel
theorem dX8_init_27 : decode (mc mX8_init) 27 = .ok (.aload_n 0, 1) := by decide +kernel
theorem dX8_init_28 : decode (mc mX8_init) 28 = .ok (.iconst 4, 1) := by decide +kernel
theorem dX8_init_29 : decode (mc mX8_init) 29 = .ok (.newarray .int, 2) := by decide +kernel
theorem dX8_init_31 : decode (mc mX8_init) 31 = .ok (.putfield 25, 3) := by decide +kernel
theorem dX8_init_34 : decode (mc mX8_init) 34 = .ok (.return_, 1) := by decide +kernel
theorem dX8_take_0 : decode (mc mX8_take) 0 = .ok (.aload_n 0, 1) := by decide +kernel
theorem dX8_take_1 : decode (mc mX8_take) 1 = .ok (.getfield 15, 3) := by decide +kernel
theorem dX8_take_4 : decode (mc mX8_take) 4 = .ok (.bipush 120, 2) := by decide +kernel
theorem dX8_take_6 : decode (mc mX8_take) 6 = .ok (.if_icmp .ge 23, 3) := by decide +kernel
theorem dX8_take_9 : decode (mc mX8_take) 9 = .ok (.aload_n 0, 1) := by decide +kernel
theorem dX8_take_10 : decode (mc mX8_take) 10 = .ok (.getfield 9, 3) := by decide +kernel
theorem dX8_take_13 : decode (mc mX8_take) 13 = .ok (.aload_n 0, 1) := by decide +kernel
theorem dX8_take_14 : decode (mc mX8_take) 14 = .ok (.getfield 15, 3) := by decide +kernel
theorem dX8_take_17 : decode (mc mX8_take) 17 = .ok (.iload_n 1, 1) := by decide +kernel
theorem dX8_take_18 : decode (mc mX8_take) 18 = .ok (.iastore, 1) := by decide +kernel
theorem dX8_take_19 : decode (mc mX8_take) 19 = .ok (.aload_n 0, 1) := by decide +kernel
theorem dX8_take_20 : decode (mc mX8_take) 20 = .ok (.dup, 1) := by decide +kernel
theorem dX8_take_21 : decode (mc mX8_take) 21 = .ok (.getfield 15, 3) := by decide +kernel
theorem dX8_take_24 : decode (mc mX8_take) 24 = .ok (.iconst 1, 1) := by decide +kernel
theorem dX8_take_25 : decode (mc mX8_take) 25 = .ok (.iadd, 1) := by decide +kernel
theorem dX8_take_26 : decode (mc mX8_take) 26 = .ok (.putfield 15, 3) := by decide +kernel
theorem dX8_take_29 : decode (mc mX8_take) 29 = .ok (.aload_n 0, 1) := by decide +kernel
theorem dX8_take_30 : decode (mc mX8_take) 30 = .ok (.getfield 15, 3) := by decide +kernel
theorem dX8_take_33 : decode (mc mX8_take) 33 = .ok (.ireturn, 1) := by decide +kernel
theorem dX8_readAll_0 : decode (mc mX8_readAll) 0 = .ok (.aload_n 0, 1) := by decide +kernel
theorem dX8_readAll_1 : decode (mc mX8_readAll) 1 = .ok (.iconst 0, 1) := by decide +kernel
theorem dX8_readAll_2 : decode (mc mX8_readAll) 2 = .ok (.putfield 19, 3) := by decide +kernel
theorem dX8_readAll_5 : decode (mc mX8_readAll) 5 = .ok (.iconst 0, 1) := by decide +kernel
theorem dX8_readAll_6 : decode (mc mX8_readAll) 6 = .ok (.istore_n 1, 1) := by decide +kernel
theorem dX8_readAll_7 : decode (mc mX8_readAll) 7 = .ok (.iload_n 1, 1) := by decide +kernel
theorem dX8_readAll_8 : decode (mc mX8_readAll) 8 = .ok (.bipush 120, 2) := by decide +kernel
theorem dX8_readAll_10 : decode (mc mX8_readAll) 10 = .ok (.if_icmp .gt 40, 3) := by decide +kernel
theorem dX8_readAll_13 : decode (mc mX8_readAll) 13 = .ok (.iload_n 1, 1) := by decide +kernel
theorem dX8_readAll_14 : decode (mc mX8_readAll) 14 = .ok (.ifCond .eq 14, 3) := by decide +kernel
theorem dX8_readAll_17 : decode (mc mX8_readAll) 17 = .ok (.aload_n 0, 1) := by decide +kernel
theorem dX8_readAll_18 : decode (mc mX8_readAll) 18 = .ok (.getfield 19, 3) := by decide +kernel
theorem dX8_readAll_21 : decode (mc mX8_readAll) 21 = .ok (.aload_n 0, 1) := by decide +kernel
theorem dX8_readAll_22 : decode (mc mX8_readAll) 22 = .ok (.getfield 15, 3) := by decide +kernel
theorem dX8_readAll_25 : decode (mc mX8_readAll) 25 = .ok (.if_icmp .ge 25, 3) := by decide +kernel
theorem dX8_readAll_28 : decode (mc mX8_readAll) 28 = .ok (.aload_n 0, 1) := by decide +kernel
theorem dX8_readAll_29 : decode (mc mX8_readAll) 29 = .ok (.invokevirtual 28, 3) := by decide +kernel
theorem dX8_readAll_32 : decode (mc mX8_readAll) 32 = .ok (.ifCond .ne 12, 3) := by decide +kernel
theorem dX8_readAll_35 : decode (mc mX8_readAll) 35 = .ok (.sipush (-1000), 3) := by decide +kernel
theorem dX8_readAll_38 : decode (mc mX8_readAll) 38 = .ok (.aload_n 0, 1) := by decide +kernel
theorem dX8_readAll_39 : decode (mc mX8_readAll) 39 = .ok (.getfield 19, 3) := by decide +kernel
theorem dX8_readAll_42 : decode (mc mX8_readAll) 42 = .ok (.isub, 1) := by decide +kernel
theorem dX8_readAll_43 : decode (mc mX8_readAll) 43 = .ok (.ireturn, 1) := by decide +kernel
theorem dX8_readAll_44 : decode (mc mX8_readAll) 44 = .ok (.iinc 1 1, 3) := by decide +kernel
theorem dX8_readAll_47 : decode (mc mX8_readAll) 47 = .ok (.goto (-40), 3) := by decide +kernel
theorem dX8_readAll_50 : decode (mc mX8_readAll) 50 = .ok (.iload_n 1, 1) := by decide +kernel
theorem dX8_readAll_51 : decode (mc mX8_readAll) 51 = .ok (.ireturn, 1) := by decide +kernel
theorem dX8_applyAll_0 : decode (mc mX8_applyAll) 0 = .ok (.aload_n 0, 1) := by decide +kernel
theorem dX8_applyAll_1 : decode (mc mX8_applyAll) 1 = .ok (.iconst 0, 1) := by decide +kernel
theorem dX8_applyAll_2 : decode (mc mX8_applyAll) 2 = .ok (.putfield 19, 3) := by decide +kernel
theorem dX8_applyAll_5 : decode (mc mX8_applyAll) 5 = .ok (.iconst 0, 1) := by decide +kernel
theorem dX8_applyAll_6 : decode (mc mX8_applyAll) 6 = .ok (.istore_n 2, 1) := by decide +kernel
theorem dX8_applyAll_7 : decode (mc mX8_applyAll) 7 = .ok (.iload_n 2, 1) := by decide +kernel
theorem dX8_applyAll_8 : decode (mc mX8_applyAll) 8 = .ok (.bipush 120, 2) := by decide +kernel
theorem dX8_applyAll_10 : decode (mc mX8_applyAll) 10 = .ok (.if_icmp .gt 56, 3) := by decide +kernel
theorem dX8_applyAll_13 : decode (mc mX8_applyAll) 13 = .ok (.aload_n 0, 1) := by decide +kernel
theorem dX8_applyAll_14 : decode (mc mX8_applyAll) 14 = .ok (.getfield 19, 3) := by decide +kernel
theorem dX8_applyAll_17 : decode (mc mX8_applyAll) 17 = .ok (.aload_n 0, 1) := by decide +kernel
theorem dX8_applyAll_18 : decode (mc mX8_applyAll) 18 = .ok (.getfield 15, 3) := by decide +kernel
theorem dX8_applyAll_21 : decode (mc mX8_applyAll) 21 = .ok (.if_icmp .ge 45, 3) := by decide +kernel
theorem dX8_applyAll_24 : decode (mc mX8_applyAll) 24 = .ok (.aload_n 0, 1) := by decide +kernel
theorem dX8_applyAll_25 : decode (mc mX8_applyAll) 25 = .ok (.getfield 19, 3) := by decide +kernel
theorem dX8_applyAll_28 : decode (mc mX8_applyAll) 28 = .ok (.istore_n 3, 1) := by decide +kernel
theorem dX8_applyAll_29 : decode (mc mX8_applyAll) 29 = .ok (.aload_n 0, 1) := by decide +kernel
theorem dX8_applyAll_30 : decode (mc mX8_applyAll) 30 = .ok (.getfield 9, 3) := by decide +kernel
theorem dX8_applyAll_33 : decode (mc mX8_applyAll) 33 = .ok (.iload_n 3, 1) := by decide +kernel
theorem dX8_applyAll_34 : decode (mc mX8_applyAll) 34 = .ok (.iaload, 1) := by decide +kernel
theorem dX8_applyAll_35 : decode (mc mX8_applyAll) 35 = .ok (.istore 4, 2) := by decide +kernel
theorem dX8_applyAll_37 : decode (mc mX8_applyAll) 37 = .ok (.aload_n 0, 1) := by decide +kernel
theorem dX8_applyAll_38 : decode (mc mX8_applyAll) 38 = .ok (.invokevirtual 28, 3) := by decide +kernel
theorem dX8_applyAll_41 : decode (mc mX8_applyAll) 41 = .ok (.ifCond .eq 13, 3) := by decide +kernel
theorem dX8_applyAll_44 : decode (mc mX8_applyAll) 44 = .ok (.aload_n 0, 1) := by decide +kernel
theorem dX8_applyAll_45 : decode (mc mX8_applyAll) 45 = .ok (.aload_n 1, 1) := by decide +kernel
theorem dX8_applyAll_46 : decode (mc mX8_applyAll) 46 = .ok (.iload 4, 2) := by decide +kernel
theorem dX8_applyAll_48 : decode (mc mX8_applyAll) 48 = .ok (.invokevirtual 32, 3) := by decide +kernel
theorem dX8_applyAll_51 : decode (mc mX8_applyAll) 51 = .ok (.ifCond .ge 9, 3) := by decide +kernel
theorem dX8_applyAll_54 : decode (mc mX8_applyAll) 54 = .ok (.sipush (-2000), 3) := by decide +kernel
theorem dX8_applyAll_57 : decode (mc mX8_applyAll) 57 = .ok (.iload_n 3, 1) := by decide +kernel
theorem dX8_applyAll_58 : decode (mc mX8_applyAll) 58 = .ok (.isub, 1) := by decide +kernel
theorem dX8_applyAll_59 : decode (mc mX8_applyAll) 59 = .ok (.ireturn, 1) := by decide +kernel
theorem dX8_applyAll_60 : decode (mc mX8_applyAll) 60 = .ok (.iinc 2 1, 3) := by decide +kernel
theorem dX8_applyAll_63 : decode (mc mX8_applyAll) 63 = .ok (.goto (-56), 3) := by decide +kernel
theorem dX8_applyAll_66 : decode (mc mX8_applyAll) 66 = .ok (.iload_n 2, 1) := by decide +kernel
theorem dX8_applyAll_67 : decode (mc mX8_applyAll) 67 = .ok (.ireturn, 1) := by decide +kernel
theorem dX8_shapeOf_0 : decode (mc mX8_shapeOf) 0 = .ok (.iload_n 0, 1) := by decide +kernel
theorem dX8_shapeOf_1 : decode (mc mX8_shapeOf) 1 = .ok (.tableswitch 110 97 116 #[104, 110, 101, 98, 110, 110, 98, 107, 110, 110, 110, 110, 110, 110, 110, 95, 110, 110, 110, 98], 95) := by decide +kernel
theorem dX8_shapeOf_96 : decode (mc mX8_shapeOf) 96 = .ok (.ldc 36, 2) := by decide +kernel
theorem dX8_shapeOf_98 : decode (mc mX8_shapeOf) 98 = .ok (.areturn, 1) := by decide +kernel
theorem dX8_shapeOf_99 : decode (mc mX8_shapeOf) 99 = .ok (.ldc 38, 2) := by decide +kernel
theorem dX8_shapeOf_101 : decode (mc mX8_shapeOf) 101 = .ok (.areturn, 1) := by decide +kernel
theorem dX8_shapeOf_102 : decode (mc mX8_shapeOf) 102 = .ok (.ldc 40, 2) := by decide +kernel
theorem dX8_shapeOf_104 : decode (mc mX8_shapeOf) 104 = .ok (.areturn, 1) := by decide +kernel
theorem dX8_shapeOf_105 : decode (mc mX8_shapeOf) 105 = .ok (.ldc 42, 2) := by decide +kernel
theorem dX8_shapeOf_107 : decode (mc mX8_shapeOf) 107 = .ok (.areturn, 1) := by decide +kernel
theorem dX8_shapeOf_108 : decode (mc mX8_shapeOf) 108 = .ok (.ldc 44, 2) := by decide +kernel
theorem dX8_shapeOf_110 : decode (mc mX8_shapeOf) 110 = .ok (.areturn, 1) := by decide +kernel
theorem dX8_shapeOf_111 : decode (mc mX8_shapeOf) 111 = .ok (.ldc 46, 2) := by decide +kernel
theorem dX8_shapeOf_113 : decode (mc mX8_shapeOf) 113 = .ok (.areturn, 1) := by decide +kernel
theorem dX8_readOne_0 : decode (mc mX8_readOne) 0 = .ok (.aload_n 0, 1) := by decide +kernel
theorem dX8_readOne_1 : decode (mc mX8_readOne) 1 = .ok (.invokevirtual 48, 3) := by decide +kernel
theorem dX8_readOne_4 : decode (mc mX8_readOne) 4 = .ok (.invokestatic 52, 3) := by decide +kernel
theorem dX8_readOne_7 : decode (mc mX8_readOne) 7 = .ok (.astore_n 1, 1) := by decide +kernel
theorem dX8_readOne_8 : decode (mc mX8_readOne) 8 = .ok (.aload_n 1, 1) := by decide +kernel
theorem dX8_readOne_9 : decode (mc mX8_readOne) 9 = .ok (.invokevirtual 56, 3) := by decide +kernel
theorem dX8_readOne_12 : decode (mc mX8_readOne) 12 = .ok (.ifCond .eq 5, 3) := by decide +kernel
theorem dX8_readOne_15 : decode (mc mX8_readOne) 15 = .ok (.iconst 0, 1) := by decide +kernel
theorem dX8_readOne_16 : decode (mc mX8_readOne) 16 = .ok (.ireturn, 1) := by decide +kernel
theorem dX8_readOne_17 : decode (mc mX8_readOne) 17 = .ok (.aload_n 0, 1) := by decide +kernel
theorem dX8_readOne_18 : decode (mc mX8_readOne) 18 = .ok (.dup, 1) := by decide +kernel
theorem dX8_readOne_19 : decode (mc mX8_readOne) 19 = .ok (.getfield 19, 3) := by decide +kernel
theorem dX8_readOne_22 : decode (mc mX8_readOne) 22 = .ok (.iconst 1, 1) := by decide +kernel
theorem dX8_readOne_23 : decode (mc mX8_readOne) 23 = .ok (.iadd, 1) := by decide +kernel
theorem dX8_readOne_24 : decode (mc mX8_readOne) 24 = .ok (.putfield 19, 3) := by decide +kernel
theorem dX8_readOne_27 : decode (mc mX8_readOne) 27 = .ok (.iconst 0, 1) := by decide +kernel
theorem dX8_readOne_28 : decode (mc mX8_readOne) 28 = .ok (.istore_n 2, 1) := by decide +kernel
theorem dX8_readOne_29 : decode (mc mX8_readOne) 29 = .ok (.iconst 0, 1) := by decide +kernel
theorem dX8_readOne_30 : decode (mc mX8_readOne) 30 = .ok (.istore_n 3, 1) := by decide +kernel
theorem dX8_readOne_31 : decode (mc mX8_readOne) 31 = .ok (.iload_n 3, 1) := by decide +kernel
theorem dX8_readOne_32 : decode (mc mX8_readOne) 32 = .ok (.aload_n 1, 1) := by decide +kernel
theorem dX8_readOne_33 : decode (mc mX8_readOne) 33 = .ok (.invokevirtual 61, 3) := by decide +kernel
theorem dX8_readOne_36 : decode (mc mX8_readOne) 36 = .ok (.if_icmp .ge 76, 3) := by decide +kernel
theorem dX8_readOne_39 : decode (mc mX8_readOne) 39 = .ok (.aload_n 1, 1) := by decide +kernel
theorem dX8_readOne_40 : decode (mc mX8_readOne) 40 = .ok (.iload_n 3, 1) := by decide +kernel
theorem dX8_readOne_41 : decode (mc mX8_readOne) 41 = .ok (.invokevirtual 64, 3) := by decide +kernel
theorem dX8_readOne_44 : decode (mc mX8_readOne) 44 = .ok (.istore 4, 2) := by decide +kernel
theorem dX8_readOne_46 : decode (mc mX8_readOne) 46 = .ok (.iload 4, 2) := by decide +kernel
theorem dX8_readOne_48 : decode (mc mX8_readOne) 48 = .ok (.bipush 110, 2) := by decide +kernel
theorem dX8_readOne_50 : decode (mc mX8_readOne) 50 = .ok (.if_icmp .ne 25, 3) := by decide +kernel
theorem dX8_readOne_53 : decode (mc mX8_readOne) 53 = .ok (.iload_n 2, 1) := by decide +kernel
theorem dX8_readOne_54 : decode (mc mX8_readOne) 54 = .ok (.aload_n 0, 1) := by decide +kernel
theorem dX8_readOne_55 : decode (mc mX8_readOne) 55 = .ok (.getfield 25, 3) := by decide +kernel
theorem dX8_readOne_58 : decode (mc mX8_readOne) 58 = .ok (.arraylength, 1) := by decide +kernel
theorem dX8_readOne_59 : decode (mc mX8_readOne) 59 = .ok (.if_icmp .ge 16, 3) := by decide +kernel
theorem dX8_readOne_62 : decode (mc mX8_readOne) 62 = .ok (.aload_n 0, 1) := by decide +kernel
theorem dX8_readOne_63 : decode (mc mX8_readOne) 63 = .ok (.iload_n 2, 1) := by decide +kernel
theorem dX8_readOne_64 : decode (mc mX8_readOne) 64 = .ok (.invokevirtual 68, 3) := by decide +kernel
theorem dX8_readOne_67 : decode (mc mX8_readOne) 67 = .ok (.istore 5, 2) := by decide +kernel
theorem dX8_readOne_69 : decode (mc mX8_readOne) 69 = .ok (.iinc 2 1, 3) := by decide +kernel
theorem dX8_readOne_72 : decode (mc mX8_readOne) 72 = .ok (.goto 27, 3) := by decide +kernel
theorem dX8_readOne_75 : decode (mc mX8_readOne) 75 = .ok (.iload 4, 2) := by decide +kernel
theorem dX8_readOne_77 : decode (mc mX8_readOne) 77 = .ok (.bipush 63, 2) := by decide +kernel
theorem dX8_readOne_79 : decode (mc mX8_readOne) 79 = .ok (.if_icmp .ne 12, 3) := by decide +kernel
theorem dX8_readOne_82 : decode (mc mX8_readOne) 82 = .ok (.aload_n 0, 1) := by decide +kernel
theorem dX8_readOne_83 : decode (mc mX8_readOne) 83 = .ok (.invokevirtual 72, 3) := by decide +kernel
theorem dX8_readOne_86 : decode (mc mX8_readOne) 86 = .ok (.istore 5, 2) := by decide +kernel
theorem dX8_readOne_88 : decode (mc mX8_readOne) 88 = .ok (.goto 11, 3) := by decide +kernel
theorem dX8_readOne_91 : decode (mc mX8_readOne) 91 = .ok (.aload_n 0, 1) := by decide +kernel
theorem dX8_readOne_92 : decode (mc mX8_readOne) 92 = .ok (.iload 4, 2) := by decide +kernel
theorem dX8_readOne_94 : decode (mc mX8_readOne) 94 = .ok (.invokevirtual 75, 3) := by decide +kernel
theorem dX8_readOne_97 : decode (mc mX8_readOne) 97 = .ok (.istore 5, 2) := by decide +kernel
theorem dX8_readOne_99 : decode (mc mX8_readOne) 99 = .ok (.iload 5, 2) := by decide +kernel
theorem dX8_readOne_101 : decode (mc mX8_readOne) 101 = .ok (.ifCond .ne 5, 3) := by decide +kernel
theorem dX8_readOne_104 : decode (mc mX8_readOne) 104 = .ok (.iconst 0, 1) := by decide +kernel
theorem dX8_readOne_105 : decode (mc mX8_readOne) 105 = .ok (.ireturn, 1) := by decide +kernel
theorem dX8_readOne_106 : decode (mc mX8_readOne) 106 = .ok (.iinc 3 1, 3) := by decide +kernel
theorem dX8_readOne_109 : decode (mc mX8_readOne) 109 = .ok (.goto (-78), 3) := by decide +kernel
theorem dX8_readOne_112 : decode (mc mX8_readOne) 112 = .ok (.iconst 1, 1) := by decide +kernel
theorem dX8_readOne_113 : decode (mc mX8_readOne) 113 = .ok (.ireturn, 1) := by decide +kernel
theorem dX8_here_0 : decode (mc mX8_here) 0 = .ok (.aload_n 0, 1) := by decide +kernel
theorem dX8_here_1 : decode (mc mX8_here) 1 = .ok (.getfield 19, 3) := by decide +kernel
theorem dX8_here_4 : decode (mc mX8_here) 4 = .ok (.ifCond .lt 35, 3) := by decide +kernel
theorem dX8_here_7 : decode (mc mX8_here) 7 = .ok (.aload_n 0, 1) := by decide +kernel
theorem dX8_here_8 : decode (mc mX8_here) 8 = .ok (.getfield 19, 3) := by decide +kernel
theorem dX8_here_11 : decode (mc mX8_here) 11 = .ok (.aload_n 0, 1) := by decide +kernel
theorem dX8_here_12 : decode (mc mX8_here) 12 = .ok (.getfield 15, 3) := by decide +kernel
theorem dX8_here_15 : decode (mc mX8_here) 15 = .ok (.if_icmp .ge 24, 3) := by decide +kernel
theorem dX8_here_18 : decode (mc mX8_here) 18 = .ok (.aload_n 0, 1) := by decide +kernel
theorem dX8_here_19 : decode (mc mX8_here) 19 = .ok (.getfield 19, 3) := by decide +kernel
theorem dX8_here_22 : decode (mc mX8_here) 22 = .ok (.bipush 120, 2) := by decide +kernel
theorem dX8_here_24 : decode (mc mX8_here) 24 = .ok (.if_icmp .ge 15, 3) := by decide +kernel
theorem dX8_here_27 : decode (mc mX8_here) 27 = .ok (.aload_n 0, 1) := by decide +kernel
theorem dX8_here_28 : decode (mc mX8_here) 28 = .ok (.getfield 9, 3) := by decide +kernel
theorem dX8_here_31 : decode (mc mX8_here) 31 = .ok (.aload_n 0, 1) := by decide +kernel
theorem dX8_here_32 : decode (mc mX8_here) 32 = .ok (.getfield 19, 3) := by decide +kernel
theorem dX8_here_35 : decode (mc mX8_here) 35 = .ok (.iaload, 1) := by decide +kernel
theorem dX8_here_36 : decode (mc mX8_here) 36 = .ok (.goto 4, 3) := by decide +kernel
theorem dX8_here_39 : decode (mc mX8_here) 39 = .ok (.iconst (-1), 1) := by decide +kernel
theorem dX8_here_40 : decode (mc mX8_here) 40 = .ok (.ireturn, 1) := by decide +kernel
theorem dX8_isDigit_0 : decode (mc mX8_isDigit) 0 = .ok (.aload_n 0, 1) := by decide +kernel
theorem dX8_isDigit_1 : decode (mc mX8_isDigit) 1 = .ok (.invokevirtual 48, 3) := by decide +kernel
theorem dX8_isDigit_4 : decode (mc mX8_isDigit) 4 = .ok (.bipush 48, 2) := by decide +kernel
theorem dX8_isDigit_6 : decode (mc mX8_isDigit) 6 = .ok (.if_icmp .lt 16, 3) := by decide +kernel
theorem dX8_isDigit_9 : decode (mc mX8_isDigit) 9 = .ok (.aload_n 0, 1) := by decide +kernel
theorem dX8_isDigit_10 : decode (mc mX8_isDigit) 10 = .ok (.invokevirtual 48, 3) := by decide +kernel
theorem dX8_isDigit_13 : decode (mc mX8_isDigit) 13 = .ok (.bipush 57, 2) := by decide +kernel
theorem dX8_isDigit_15 : decode (mc mX8_isDigit) 15 = .ok (.if_icmp .gt 7, 3) := by decide +kernel
theorem dX8_isDigit_18 : decode (mc mX8_isDigit) 18 = .ok (.iconst 1, 1) := by decide +kernel
theorem dX8_isDigit_19 : decode (mc mX8_isDigit) 19 = .ok (.goto 4, 3) := by decide +kernel
theorem dX8_isDigit_22 : decode (mc mX8_isDigit) 22 = .ok (.iconst 0, 1) := by decide +kernel
theorem dX8_isDigit_23 : decode (mc mX8_isDigit) 23 = .ok (.ireturn, 1) := by decide +kernel
theorem dX8_readNumber_0 : decode (mc mX8_readNumber) 0 = .ok (.aload_n 0, 1) := by decide +kernel
theorem dX8_readNumber_1 : decode (mc mX8_readNumber) 1 = .ok (.invokevirtual 79, 3) := by decide +kernel
theorem dX8_readNumber_4 : decode (mc mX8_readNumber) 4 = .ok (.ifCond .ne 5, 3) := by decide +kernel
theorem dX8_readNumber_7 : decode (mc mX8_readNumber) 7 = .ok (.iconst 0, 1) := by decide +kernel
theorem dX8_readNumber_8 : decode (mc mX8_readNumber) 8 = .ok (.ireturn, 1) := by decide +kernel
theorem dX8_readNumber_9 : decode (mc mX8_readNumber) 9 = .ok (.aload_n 0, 1) := by decide +kernel
theorem dX8_readNumber_10 : decode (mc mX8_readNumber) 10 = .ok (.invokevirtual 48, 3) := by decide +kernel
theorem dX8_readNumber_13 : decode (mc mX8_readNumber) 13 = .ok (.bipush 48, 2) := by decide +kernel
theorem dX8_readNumber_15 : decode (mc mX8_readNumber) 15 = .ok (.isub, 1) := by decide +kernel
theorem dX8_readNumber_16 : decode (mc mX8_readNumber) 16 = .ok (.istore_n 2, 1) := by decide +kernel
theorem dX8_readNumber_17 : decode (mc mX8_readNumber) 17 = .ok (.aload_n 0, 1) := by decide +kernel
theorem dX8_readNumber_18 : decode (mc mX8_readNumber) 18 = .ok (.dup, 1) := by decide +kernel
theorem dX8_readNumber_19 : decode (mc mX8_readNumber) 19 = .ok (.getfield 19, 3) := by decide +kernel
theorem dX8_readNumber_22 : decode (mc mX8_readNumber) 22 = .ok (.iconst 1, 1) := by decide +kernel
theorem dX8_readNumber_23 : decode (mc mX8_readNumber) 23 = .ok (.iadd, 1) := by decide +kernel
theorem dX8_readNumber_24 : decode (mc mX8_readNumber) 24 = .ok (.putfield 19, 3) := by decide +kernel
theorem dX8_readNumber_27 : decode (mc mX8_readNumber) 27 = .ok (.aload_n 0, 1) := by decide +kernel
theorem dX8_readNumber_28 : decode (mc mX8_readNumber) 28 = .ok (.invokevirtual 79, 3) := by decide +kernel
theorem dX8_readNumber_31 : decode (mc mX8_readNumber) 31 = .ok (.ifCond .eq 26, 3) := by decide +kernel
theorem dX8_readNumber_34 : decode (mc mX8_readNumber) 34 = .ok (.bipush 10, 2) := by decide +kernel
theorem dX8_readNumber_36 : decode (mc mX8_readNumber) 36 = .ok (.iload_n 2, 1) := by decide +kernel
theorem dX8_readNumber_37 : decode (mc mX8_readNumber) 37 = .ok (.imul, 1) := by decide +kernel
theorem dX8_readNumber_38 : decode (mc mX8_readNumber) 38 = .ok (.aload_n 0, 1) := by decide +kernel
theorem dX8_readNumber_39 : decode (mc mX8_readNumber) 39 = .ok (.invokevirtual 48, 3) := by decide +kernel
theorem dX8_readNumber_42 : decode (mc mX8_readNumber) 42 = .ok (.iadd, 1) := by decide +kernel
theorem dX8_readNumber_43 : decode (mc mX8_readNumber) 43 = .ok (.bipush 48, 2) := by decide +kernel
theorem dX8_readNumber_45 : decode (mc mX8_readNumber) 45 = .ok (.isub, 1) := by decide +kernel
theorem dX8_readNumber_46 : decode (mc mX8_readNumber) 46 = .ok (.istore_n 2, 1) := by decide +kernel
theorem dX8_readNumber_47 : decode (mc mX8_readNumber) 47 = .ok (.aload_n 0, 1) := by decide +kernel
theorem dX8_readNumber_48 : decode (mc mX8_readNumber) 48 = .ok (.dup, 1) := by decide +kernel
theorem dX8_readNumber_49 : decode (mc mX8_readNumber) 49 = .ok (.getfield 19, 3) := by decide +kernel
theorem dX8_readNumber_52 : decode (mc mX8_readNumber) 52 = .ok (.iconst 1, 1) := by decide +kernel
theorem dX8_readNumber_53 : decode (mc mX8_readNumber) 53 = .ok (.iadd, 1) := by decide +kernel
theorem dX8_readNumber_54 : decode (mc mX8_readNumber) 54 = .ok (.putfield 19, 3) := by decide +kernel
theorem dX8_readNumber_57 : decode (mc mX8_readNumber) 57 = .ok (.aload_n 0, 1) := by decide +kernel
theorem dX8_readNumber_58 : decode (mc mX8_readNumber) 58 = .ok (.getfield 25, 3) := by decide +kernel
theorem dX8_readNumber_61 : decode (mc mX8_readNumber) 61 = .ok (.iload_n 1, 1) := by decide +kernel
theorem dX8_readNumber_62 : decode (mc mX8_readNumber) 62 = .ok (.iload_n 2, 1) := by decide +kernel
theorem dX8_readNumber_63 : decode (mc mX8_readNumber) 63 = .ok (.iastore, 1) := by decide +kernel
theorem dX8_readNumber_64 : decode (mc mX8_readNumber) 64 = .ok (.iconst 1, 1) := by decide +kernel
theorem dX8_readNumber_65 : decode (mc mX8_readNumber) 65 = .ok (.ireturn, 1) := by decide +kernel
theorem dX8_readSign_0 : decode (mc mX8_readSign) 0 = .ok (.aload_n 0, 1) := by decide +kernel
theorem dX8_readSign_1 : decode (mc mX8_readSign) 1 = .ok (.invokevirtual 48, 3) := by decide +kernel
theorem dX8_readSign_4 : decode (mc mX8_readSign) 4 = .ok (.bipush 43, 2) := by decide +kernel
theorem dX8_readSign_6 : decode (mc mX8_readSign) 6 = .ok (.if_icmp .eq 14, 3) := by decide +kernel
theorem dX8_readSign_9 : decode (mc mX8_readSign) 9 = .ok (.aload_n 0, 1) := by decide +kernel
theorem dX8_readSign_10 : decode (mc mX8_readSign) 10 = .ok (.invokevirtual 48, 3) := by decide +kernel
theorem dX8_readSign_13 : decode (mc mX8_readSign) 13 = .ok (.bipush 45, 2) := by decide +kernel
theorem dX8_readSign_15 : decode (mc mX8_readSign) 15 = .ok (.if_icmp .eq 5, 3) := by decide +kernel
theorem dX8_readSign_18 : decode (mc mX8_readSign) 18 = .ok (.iconst 0, 1) := by decide +kernel
theorem dX8_readSign_19 : decode (mc mX8_readSign) 19 = .ok (.ireturn, 1) := by decide +kernel
theorem dX8_readSign_20 : decode (mc mX8_readSign) 20 = .ok (.aload_n 0, 1) := by decide +kernel
theorem dX8_readSign_21 : decode (mc mX8_readSign) 21 = .ok (.aload_n 0, 1) := by decide +kernel
theorem dX8_readSign_22 : decode (mc mX8_readSign) 22 = .ok (.invokevirtual 48, 3) := by decide +kernel
theorem dX8_readSign_25 : decode (mc mX8_readSign) 25 = .ok (.bipush 43, 2) := by decide +kernel
theorem dX8_readSign_27 : decode (mc mX8_readSign) 27 = .ok (.if_icmp .ne 7, 3) := by decide +kernel
theorem dX8_readSign_30 : decode (mc mX8_readSign) 30 = .ok (.iconst 1, 1) := by decide +kernel
theorem dX8_readSign_31 : decode (mc mX8_readSign) 31 = .ok (.goto 4, 3) := by decide +kernel
theorem dX8_readSign_34 : decode (mc mX8_readSign) 34 = .ok (.iconst (-1), 1) := by decide +kernel
theorem dX8_readSign_35 : decode (mc mX8_readSign) 35 = .ok (.putfield 22, 3) := by decide +kernel
theorem dX8_readSign_38 : decode (mc mX8_readSign) 38 = .ok (.aload_n 0, 1) := by decide +kernel
theorem dX8_readSign_39 : decode (mc mX8_readSign) 39 = .ok (.dup, 1) := by decide +kernel
theorem dX8_readSign_40 : decode (mc mX8_readSign) 40 = .ok (.getfield 19, 3) := by decide +kernel
theorem dX8_readSign_43 : decode (mc mX8_readSign) 43 = .ok (.iconst 1, 1) := by decide +kernel
theorem dX8_readSign_44 : decode (mc mX8_readSign) 44 = .ok (.iadd, 1) := by decide +kernel
theorem dX8_readSign_45 : decode (mc mX8_readSign) 45 = .ok (.putfield 19, 3) := by decide +kernel
theorem dX8_readSign_48 : decode (mc mX8_readSign) 48 = .ok (.iconst 1, 1) := by decide +kernel
theorem dX8_readSign_49 : decode (mc mX8_readSign) 49 = .ok (.ireturn, 1) := by decide +kernel
theorem dX8_readLetter_0 : decode (mc mX8_readLetter) 0 = .ok (.aload_n 0, 1) := by decide +kernel
theorem dX8_readLetter_1 : decode (mc mX8_readLetter) 1 = .ok (.invokevirtual 48, 3) := by decide +kernel
theorem dX8_readLetter_4 : decode (mc mX8_readLetter) 4 = .ok (.iload_n 1, 1) := by decide +kernel
theorem dX8_readLetter_5 : decode (mc mX8_readLetter) 5 = .ok (.if_icmp .eq 5, 3) := by decide +kernel
theorem dX8_readLetter_8 : decode (mc mX8_readLetter) 8 = .ok (.iconst 0, 1) := by decide +kernel
theorem dX8_readLetter_9 : decode (mc mX8_readLetter) 9 = .ok (.ireturn, 1) := by decide +kernel
theorem dX8_readLetter_10 : decode (mc mX8_readLetter) 10 = .ok (.aload_n 0, 1) := by decide +kernel
theorem dX8_readLetter_11 : decode (mc mX8_readLetter) 11 = .ok (.dup, 1) := by decide +kernel
theorem dX8_readLetter_12 : decode (mc mX8_readLetter) 12 = .ok (.getfield 19, 3) := by decide +kernel
theorem dX8_readLetter_15 : decode (mc mX8_readLetter) 15 = .ok (.iconst 1, 1) := by decide +kernel
theorem dX8_readLetter_16 : decode (mc mX8_readLetter) 16 = .ok (.iadd, 1) := by decide +kernel
theorem dX8_readLetter_17 : decode (mc mX8_readLetter) 17 = .ok (.putfield 19, 3) := by decide +kernel
theorem dX8_readLetter_20 : decode (mc mX8_readLetter) 20 = .ok (.iconst 1, 1) := by decide +kernel
theorem dX8_readLetter_21 : decode (mc mX8_readLetter) 21 = .ok (.ireturn, 1) := by decide +kernel
theorem dX8_applyOne_0 : decode (mc mX8_applyOne) 0 = .ok (.iload_n 2, 1) := by decide +kernel
theorem dX8_applyOne_1 : decode (mc mX8_applyOne) 1 = .ok (.tableswitch 232 97 116 #[187, 232, 135, 209, 232, 232, 112, 232, 232, 232, 232, 232, 232, 232, 232, 95, 232, 232, 232, 164], 95) := by decide +kernel
theorem dX8_applyOne_96 : decode (mc mX8_applyOne) 96 = .ok (.aload_n 1, 1) := by decide +kernel
theorem dX8_applyOne_97 : decode (mc mX8_applyOne) 97 = .ok (.aload_n 0, 1) := by decide +kernel
theorem dX8_applyOne_98 : decode (mc mX8_applyOne) 98 = .ok (.getfield 25, 3) := by decide +kernel
theorem dX8_applyOne_101 : decode (mc mX8_applyOne) 101 = .ok (.iconst 0, 1) := by decide +kernel
theorem dX8_applyOne_102 : decode (mc mX8_applyOne) 102 = .ok (.iaload, 1) := by decide +kernel
theorem dX8_applyOne_103 : decode (mc mX8_applyOne) 103 = .ok (.aload_n 0, 1) := by decide +kernel
theorem dX8_applyOne_104 : decode (mc mX8_applyOne) 104 = .ok (.getfield 25, 3) := by decide +kernel
theorem dX8_applyOne_107 : decode (mc mX8_applyOne) 107 = .ok (.iconst 1, 1) := by decide +kernel
theorem dX8_applyOne_108 : decode (mc mX8_applyOne) 108 = .ok (.iaload, 1) := by decide +kernel
theorem dX8_applyOne_109 : decode (mc mX8_applyOne) 109 = .ok (.invokevirtual 82, 3) := by decide +kernel
theorem dX8_applyOne_112 : decode (mc mX8_applyOne) 112 = .ok (.ireturn, 1) := by decide +kernel
theorem dX8_applyOne_113 : decode (mc mX8_applyOne) 113 = .ok (.aload_n 1, 1) := by decide +kernel
theorem dX8_applyOne_114 : decode (mc mX8_applyOne) 114 = .ok (.aload_n 0, 1) := by decide +kernel
theorem dX8_applyOne_115 : decode (mc mX8_applyOne) 115 = .ok (.getfield 25, 3) := by decide +kernel
theorem dX8_applyOne_118 : decode (mc mX8_applyOne) 118 = .ok (.iconst 0, 1) := by decide +kernel
theorem dX8_applyOne_119 : decode (mc mX8_applyOne) 119 = .ok (.iaload, 1) := by decide +kernel
theorem dX8_applyOne_120 : decode (mc mX8_applyOne) 120 = .ok (.aload_n 0, 1) := by decide +kernel
theorem dX8_applyOne_121 : decode (mc mX8_applyOne) 121 = .ok (.getfield 25, 3) := by decide +kernel
theorem dX8_applyOne_124 : decode (mc mX8_applyOne) 124 = .ok (.iconst 1, 1) := by decide +kernel
theorem dX8_applyOne_125 : decode (mc mX8_applyOne) 125 = .ok (.iaload, 1) := by decide +kernel
theorem dX8_applyOne_126 : decode (mc mX8_applyOne) 126 = .ok (.aload_n 0, 1) := by decide +kernel
theorem dX8_applyOne_127 : decode (mc mX8_applyOne) 127 = .ok (.getfield 25, 3) := by decide +kernel
theorem dX8_applyOne_130 : decode (mc mX8_applyOne) 130 = .ok (.iconst 2, 1) := by decide +kernel
theorem dX8_applyOne_131 : decode (mc mX8_applyOne) 131 = .ok (.iaload, 1) := by decide +kernel
theorem dX8_applyOne_132 : decode (mc mX8_applyOne) 132 = .ok (.invokevirtual 88, 3) := by decide +kernel
theorem dX8_applyOne_135 : decode (mc mX8_applyOne) 135 = .ok (.ireturn, 1) := by decide +kernel
theorem dX8_applyOne_136 : decode (mc mX8_applyOne) 136 = .ok (.aload_n 1, 1) := by decide +kernel
theorem dX8_applyOne_137 : decode (mc mX8_applyOne) 137 = .ok (.aload_n 0, 1) := by decide +kernel
theorem dX8_applyOne_138 : decode (mc mX8_applyOne) 138 = .ok (.getfield 25, 3) := by decide +kernel
theorem dX8_applyOne_141 : decode (mc mX8_applyOne) 141 = .ok (.iconst 0, 1) := by decide +kernel
theorem dX8_applyOne_142 : decode (mc mX8_applyOne) 142 = .ok (.iaload, 1) := by decide +kernel
theorem dX8_applyOne_143 : decode (mc mX8_applyOne) 143 = .ok (.aload_n 0, 1) := by decide +kernel
theorem dX8_applyOne_144 : decode (mc mX8_applyOne) 144 = .ok (.getfield 25, 3) := by decide +kernel
theorem dX8_applyOne_147 : decode (mc mX8_applyOne) 147 = .ok (.iconst 1, 1) := by decide +kernel
theorem dX8_applyOne_148 : decode (mc mX8_applyOne) 148 = .ok (.iaload, 1) := by decide +kernel
theorem dX8_applyOne_149 : decode (mc mX8_applyOne) 149 = .ok (.aload_n 0, 1) := by decide +kernel
theorem dX8_applyOne_150 : decode (mc mX8_applyOne) 150 = .ok (.getfield 25, 3) := by decide +kernel
theorem dX8_applyOne_153 : decode (mc mX8_applyOne) 153 = .ok (.iconst 2, 1) := by decide +kernel
theorem dX8_applyOne_154 : decode (mc mX8_applyOne) 154 = .ok (.iaload, 1) := by decide +kernel
theorem dX8_applyOne_155 : decode (mc mX8_applyOne) 155 = .ok (.aload_n 0, 1) := by decide +kernel
theorem dX8_applyOne_156 : decode (mc mX8_applyOne) 156 = .ok (.getfield 25, 3) := by decide +kernel
theorem dX8_applyOne_159 : decode (mc mX8_applyOne) 159 = .ok (.iconst 3, 1) := by decide +kernel
theorem dX8_applyOne_160 : decode (mc mX8_applyOne) 160 = .ok (.iaload, 1) := by decide +kernel
theorem dX8_applyOne_161 : decode (mc mX8_applyOne) 161 = .ok (.invokevirtual 92, 3) := by decide +kernel
theorem dX8_applyOne_164 : decode (mc mX8_applyOne) 164 = .ok (.ireturn, 1) := by decide +kernel
theorem dX8_applyOne_165 : decode (mc mX8_applyOne) 165 = .ok (.aload_n 1, 1) := by decide +kernel
theorem dX8_applyOne_166 : decode (mc mX8_applyOne) 166 = .ok (.aload_n 0, 1) := by decide +kernel
theorem dX8_applyOne_167 : decode (mc mX8_applyOne) 167 = .ok (.getfield 25, 3) := by decide +kernel
theorem dX8_applyOne_170 : decode (mc mX8_applyOne) 170 = .ok (.iconst 0, 1) := by decide +kernel
theorem dX8_applyOne_171 : decode (mc mX8_applyOne) 171 = .ok (.iaload, 1) := by decide +kernel
theorem dX8_applyOne_172 : decode (mc mX8_applyOne) 172 = .ok (.aload_n 0, 1) := by decide +kernel
theorem dX8_applyOne_173 : decode (mc mX8_applyOne) 173 = .ok (.getfield 25, 3) := by decide +kernel
theorem dX8_applyOne_176 : decode (mc mX8_applyOne) 176 = .ok (.iconst 1, 1) := by decide +kernel
theorem dX8_applyOne_177 : decode (mc mX8_applyOne) 177 = .ok (.iaload, 1) := by decide +kernel
theorem dX8_applyOne_178 : decode (mc mX8_applyOne) 178 = .ok (.aload_n 0, 1) := by decide +kernel
theorem dX8_applyOne_179 : decode (mc mX8_applyOne) 179 = .ok (.getfield 25, 3) := by decide +kernel
theorem dX8_applyOne_182 : decode (mc mX8_applyOne) 182 = .ok (.iconst 2, 1) := by decide +kernel
theorem dX8_applyOne_183 : decode (mc mX8_applyOne) 183 = .ok (.iaload, 1) := by decide +kernel
theorem dX8_applyOne_184 : decode (mc mX8_applyOne) 184 = .ok (.invokevirtual 96, 3) := by decide +kernel
theorem dX8_applyOne_187 : decode (mc mX8_applyOne) 187 = .ok (.ireturn, 1) := by decide +kernel
theorem dX8_applyOne_188 : decode (mc mX8_applyOne) 188 = .ok (.aload_n 1, 1) := by decide +kernel
theorem dX8_applyOne_189 : decode (mc mX8_applyOne) 189 = .ok (.aload_n 0, 1) := by decide +kernel
theorem dX8_applyOne_190 : decode (mc mX8_applyOne) 190 = .ok (.getfield 25, 3) := by decide +kernel
theorem dX8_applyOne_193 : decode (mc mX8_applyOne) 193 = .ok (.iconst 0, 1) := by decide +kernel
theorem dX8_applyOne_194 : decode (mc mX8_applyOne) 194 = .ok (.iaload, 1) := by decide +kernel
theorem dX8_applyOne_195 : decode (mc mX8_applyOne) 195 = .ok (.aload_n 0, 1) := by decide +kernel
theorem dX8_applyOne_196 : decode (mc mX8_applyOne) 196 = .ok (.getfield 22, 3) := by decide +kernel
theorem dX8_applyOne_199 : decode (mc mX8_applyOne) 199 = .ok (.aload_n 0, 1) := by decide +kernel
theorem dX8_applyOne_200 : decode (mc mX8_applyOne) 200 = .ok (.getfield 25, 3) := by decide +kernel
theorem dX8_applyOne_203 : decode (mc mX8_applyOne) 203 = .ok (.iconst 1, 1) := by decide +kernel
theorem dX8_applyOne_204 : decode (mc mX8_applyOne) 204 = .ok (.iaload, 1) := by decide +kernel
theorem dX8_applyOne_205 : decode (mc mX8_applyOne) 205 = .ok (.imul, 1) := by decide +kernel
theorem dX8_applyOne_206 : decode (mc mX8_applyOne) 206 = .ok (.invokevirtual 99, 3) := by decide +kernel
theorem dX8_applyOne_209 : decode (mc mX8_applyOne) 209 = .ok (.ireturn, 1) := by decide +kernel
theorem dX8_applyOne_210 : decode (mc mX8_applyOne) 210 = .ok (.aload_n 1, 1) := by decide +kernel
theorem dX8_applyOne_211 : decode (mc mX8_applyOne) 211 = .ok (.aload_n 0, 1) := by decide +kernel
theorem dX8_applyOne_212 : decode (mc mX8_applyOne) 212 = .ok (.getfield 25, 3) := by decide +kernel
theorem dX8_applyOne_215 : decode (mc mX8_applyOne) 215 = .ok (.iconst 0, 1) := by decide +kernel
theorem dX8_applyOne_216 : decode (mc mX8_applyOne) 216 = .ok (.iaload, 1) := by decide +kernel
theorem dX8_applyOne_217 : decode (mc mX8_applyOne) 217 = .ok (.aload_n 0, 1) := by decide +kernel
theorem dX8_applyOne_218 : decode (mc mX8_applyOne) 218 = .ok (.getfield 25, 3) := by decide +kernel
theorem dX8_applyOne_221 : decode (mc mX8_applyOne) 221 = .ok (.iconst 1, 1) := by decide +kernel
theorem dX8_applyOne_222 : decode (mc mX8_applyOne) 222 = .ok (.iaload, 1) := by decide +kernel
theorem dX8_applyOne_223 : decode (mc mX8_applyOne) 223 = .ok (.aload_n 0, 1) := by decide +kernel
theorem dX8_applyOne_224 : decode (mc mX8_applyOne) 224 = .ok (.getfield 25, 3) := by decide +kernel
theorem dX8_applyOne_227 : decode (mc mX8_applyOne) 227 = .ok (.iconst 2, 1) := by decide +kernel
theorem dX8_applyOne_228 : decode (mc mX8_applyOne) 228 = .ok (.iaload, 1) := by decide +kernel
theorem dX8_applyOne_229 : decode (mc mX8_applyOne) 229 = .ok (.invokevirtual 102, 3) := by decide +kernel
theorem dX8_applyOne_232 : decode (mc mX8_applyOne) 232 = .ok (.ireturn, 1) := by decide +kernel
theorem dX8_applyOne_233 : decode (mc mX8_applyOne) 233 = .ok (.aload_n 1, 1) := by decide +kernel
theorem dX8_applyOne_234 : decode (mc mX8_applyOne) 234 = .ok (.aload_n 0, 1) := by decide +kernel
theorem dX8_applyOne_235 : decode (mc mX8_applyOne) 235 = .ok (.getfield 25, 3) := by decide +kernel
theorem dX8_applyOne_238 : decode (mc mX8_applyOne) 238 = .ok (.iconst 0, 1) := by decide +kernel
theorem dX8_applyOne_239 : decode (mc mX8_applyOne) 239 = .ok (.iaload, 1) := by decide +kernel
theorem dX8_applyOne_240 : decode (mc mX8_applyOne) 240 = .ok (.invokevirtual 105, 3) := by decide +kernel
theorem dX8_applyOne_243 : decode (mc mX8_applyOne) 243 = .ok (.ireturn, 1) := by decide +kernel
theorem dX9_init_0 : decode (mc mX9_init) 0 = .ok (.aload_n 0, 1) := by decide +kernel
theorem dX9_init_1 : decode (mc mX9_init) 1 = .ok (.invokespecial 3, 3) := by decide +kernel
theorem dX9_init_4 : decode (mc mX9_init) 4 = .ok (.aload_n 0, 1) := by decide +kernel
theorem dX9_init_5 : decode (mc mX9_init) 5 = .ok (.iconst 3, 1) := by decide +kernel
theorem dX9_init_6 : decode (mc mX9_init) 6 = .ok (.newarray .int, 2) := by decide +kernel
theorem dX9_init_8 : decode (mc mX9_init) 8 = .ok (.putfield 9, 3) := by decide +kernel
theorem dX9_init_11 : decode (mc mX9_init) 11 = .ok (.aload_n 0, 1) := by decide +kernel
theorem dX9_init_12 : decode (mc mX9_init) 12 = .ok (.aload_n 1, 1) := by decide +kernel
theorem dX9_init_13 : decode (mc mX9_init) 13 = .ok (.putfield 15, 3) := by decide +kernel
theorem dX9_init_16 : decode (mc mX9_init) 16 = .ok (.aload_n 0, 1) := by decide +kernel
theorem dX9_init_17 : decode (mc mX9_init) 17 = .ok (.aload_n 2, 1) := by decide +kernel
theorem dX9_init_18 : decode (mc mX9_init) 18 = .ok (.putfield 19, 3) := by decide +kernel
theorem dX9_init_21 : decode (mc mX9_init) 21 = .ok (.return_, 1) := by decide +kernel
theorem dX9_begin_0 : decode (mc mX9_begin) 0 = .ok (.aload_n 0, 1) := by decide +kernel
theorem dX9_begin_1 : decode (mc mX9_begin) 1 = .ok (.getfield 19, 3) := by decide +kernel
theorem dX9_begin_4 : decode (mc mX9_begin) 4 = .ok (.aload_n 0, 1) := by decide +kernel
theorem dX9_begin_5 : decode (mc mX9_begin) 5 = .ok (.getfield 15, 3) := by decide +kernel
theorem dX9_begin_8 : decode (mc mX9_begin) 8 = .ok (.invokevirtual 23, 3) := by decide +kernel
theorem dX9_begin_11 : decode (mc mX9_begin) 11 = .ok (.iconst 0, 1) := by decide +kernel
theorem dX9_begin_12 : decode (mc mX9_begin) 12 = .ok (.istore_n 1, 1) := by decide +kernel
theorem dX9_begin_13 : decode (mc mX9_begin) 13 = .ok (.iload_n 1, 1) := by decide +kernel
theorem dX9_begin_14 : decode (mc mX9_begin) 14 = .ok (.aload_n 0, 1) := by decide +kernel
theorem dX9_begin_15 : decode (mc mX9_begin) 15 = .ok (.getfield 15, 3) := by decide +kernel
theorem dX9_begin_18 : decode (mc mX9_begin) 18 = .ok (.getfield 29, 3) := by decide +kernel
theorem dX9_begin_21 : decode (mc mX9_begin) 21 = .ok (.if_icmp .ge 27, 3) := by decide +kernel
theorem dX9_begin_24 : decode (mc mX9_begin) 24 = .ok (.aload_n 0, 1) := by decide +kernel
theorem dX9_begin_25 : decode (mc mX9_begin) 25 = .ok (.getfield 9, 3) := by decide +kernel
theorem dX9_begin_28 : decode (mc mX9_begin) 28 = .ok (.iload_n 1, 1) := by decide +kernel
theorem dX9_begin_29 : decode (mc mX9_begin) 29 = .ok (.aload_n 0, 1) := by decide +kernel
theorem dX9_begin_30 : decode (mc mX9_begin) 30 = .ok (.getfield 15, 3) := by decide +kernel
theorem dX9_begin_33 : decode (mc mX9_begin) 33 = .ok (.getfield 35, 3) := by decide +kernel
theorem dX9_begin_36 : decode (mc mX9_begin) 36 = .ok (.iload_n 1, 1) := by decide +kernel
theorem dX9_begin_37 : decode (mc mX9_begin) 37 = .ok (.aaload, 1) := by decide +kernel
theorem dX9_begin_38 : decode (mc mX9_begin) 38 = .ok (.getfield 39, 3) := by decide +kernel
theorem dX9_begin_41 : decode (mc mX9_begin) 41 = .ok (.iastore, 1) := by decide +kernel
theorem dX9_begin_42 : decode (mc mX9_begin) 42 = .ok (.iinc 1 1, 3) := by decide +kernel
theorem dX9_begin_45 : decode (mc mX9_begin) 45 = .ok (.goto (-32), 3) := by decide +kernel
theorem dX9_begin_48 : decode (mc mX9_begin) 48 = .ok (.return_, 1) := by decide +kernel
theorem dX9_tried_0 : decode (mc mX9_tried) 0 = .ok (.iconst 0, 1) := by decide +kernel
theorem dX9_tried_1 : decode (mc mX9_tried) 1 = .ok (.istore_n 3, 1) := by decide +kernel
theorem dX9_tried_2 : decode (mc mX9_tried) 2 = .ok (.iconst 0, 1) := by decide +kernel
theorem dX9_tried_3 : decode (mc mX9_tried) 3 = .ok (.istore 4, 2) := by decide +kernel
theorem dX9_tried_5 : decode (mc mX9_tried) 5 = .ok (.iconst 0, 1) := by decide +kernel
theorem dX9_tried_6 : decode (mc mX9_tried) 6 = .ok (.istore 5, 2) := by decide +kernel
theorem dX9_tried_8 : decode (mc mX9_tried) 8 = .ok (.iload 5, 2) := by decide +kernel
theorem dX9_tried_10 : decode (mc mX9_tried) 10 = .ok (.aload_n 0, 1) := by decide +kernel
theorem dX9_tried_11 : decode (mc mX9_tried) 11 = .ok (.getfield 15, 3) := by decide +kernel
theorem dX9_tried_14 : decode (mc mX9_tried) 14 = .ok (.getfield 29, 3) := by decide +kernel
theorem dX9_tried_17 : decode (mc mX9_tried) 17 = .ok (.if_icmp .ge 102, 3) := by decide +kernel
theorem dX9_tried_20 : decode (mc mX9_tried) 20 = .ok (.iload_n 2, 1) := by decide +kernel
theorem dX9_tried_21 : decode (mc mX9_tried) 21 = .ok (.iload 5, 2) := by decide +kernel
theorem dX9_tried_23 : decode (mc mX9_tried) 23 = .ok (.ishr, 1) := by decide +kernel
theorem dX9_tried_24 : decode (mc mX9_tried) 24 = .ok (.iconst 1, 1) := by decide +kernel
theorem dX9_tried_25 : decode (mc mX9_tried) 25 = .ok (.iand, 1) := by decide +kernel
theorem dX9_tried_26 : decode (mc mX9_tried) 26 = .ok (.iconst 1, 1) := by decide +kernel
theorem dX9_tried_27 : decode (mc mX9_tried) 27 = .ok (.if_icmp .ne 7, 3) := by decide +kernel
theorem dX9_tried_30 : decode (mc mX9_tried) 30 = .ok (.iconst 1, 1) := by decide +kernel
theorem dX9_tried_31 : decode (mc mX9_tried) 31 = .ok (.goto 4, 3) := by decide +kernel
theorem dX9_tried_34 : decode (mc mX9_tried) 34 = .ok (.iconst 0, 1) := by decide +kernel
theorem dX9_tried_35 : decode (mc mX9_tried) 35 = .ok (.istore 6, 2) := by decide +kernel
theorem dX9_tried_37 : decode (mc mX9_tried) 37 = .ok (.aload_n 0, 1) := by decide +kernel
theorem dX9_tried_38 : decode (mc mX9_tried) 38 = .ok (.getfield 15, 3) := by decide +kernel
theorem dX9_tried_41 : decode (mc mX9_tried) 41 = .ok (.getfield 35, 3) := by decide +kernel
theorem dX9_tried_44 : decode (mc mX9_tried) 44 = .ok (.iload 5, 2) := by decide +kernel
theorem dX9_tried_46 : decode (mc mX9_tried) 46 = .ok (.aaload, 1) := by decide +kernel
theorem dX9_tried_47 : decode (mc mX9_tried) 47 = .ok (.aload_n 0, 1) := by decide +kernel
theorem dX9_tried_48 : decode (mc mX9_tried) 48 = .ok (.getfield 9, 3) := by decide +kernel
theorem dX9_tried_51 : decode (mc mX9_tried) 51 = .ok (.iload 5, 2) := by decide +kernel
theorem dX9_tried_53 : decode (mc mX9_tried) 53 = .ok (.iaload, 1) := by decide +kernel
theorem dX9_tried_54 : decode (mc mX9_tried) 54 = .ok (.iload 6, 2) := by decide +kernel
theorem dX9_tried_56 : decode (mc mX9_tried) 56 = .ok (.invokevirtual 44, 3) := by decide +kernel
theorem dX9_tried_59 : decode (mc mX9_tried) 59 = .ok (.ifCond .ne 6, 3) := by decide +kernel
theorem dX9_tried_62 : decode (mc mX9_tried) 62 = .ok (.bipush (-9), 2) := by decide +kernel
theorem dX9_tried_64 : decode (mc mX9_tried) 64 = .ok (.ireturn, 1) := by decide +kernel
theorem dX9_tried_65 : decode (mc mX9_tried) 65 = .ok (.iload 6, 2) := by decide +kernel
theorem dX9_tried_67 : decode (mc mX9_tried) 67 = .ok (.ifCond .eq 46, 3) := by decide +kernel
theorem dX9_tried_70 : decode (mc mX9_tried) 70 = .ok (.aload_n 0, 1) := by decide +kernel
theorem dX9_tried_71 : decode (mc mX9_tried) 71 = .ok (.getfield 9, 3) := by decide +kernel
theorem dX9_tried_74 : decode (mc mX9_tried) 74 = .ok (.iload 5, 2) := by decide +kernel
theorem dX9_tried_76 : decode (mc mX9_tried) 76 = .ok (.iaload, 1) := by decide +kernel
theorem dX9_tried_77 : decode (mc mX9_tried) 77 = .ok (.ifCond .ge 36, 3) := by decide +kernel
theorem dX9_tried_80 : decode (mc mX9_tried) 80 = .ok (.iload_n 3, 1) := by decide +kernel
theorem dX9_tried_81 : decode (mc mX9_tried) 81 = .ok (.iconst 1, 1) := by decide +kernel
theorem dX9_tried_82 : decode (mc mX9_tried) 82 = .ok (.iload 5, 2) := by decide +kernel
theorem dX9_tried_84 : decode (mc mX9_tried) 84 = .ok (.ishl, 1) := by decide +kernel
theorem dX9_tried_85 : decode (mc mX9_tried) 85 = .ok (.ior, 1) := by decide +kernel
theorem dX9_tried_86 : decode (mc mX9_tried) 86 = .ok (.istore_n 3, 1) := by decide +kernel
theorem dX9_tried_87 : decode (mc mX9_tried) 87 = .ok (.iload 4, 2) := by decide +kernel
theorem dX9_tried_89 : decode (mc mX9_tried) 89 = .ok (.aload_n 0, 1) := by decide +kernel
theorem dX9_tried_90 : decode (mc mX9_tried) 90 = .ok (.getfield 15, 3) := by decide +kernel
theorem dX9_tried_93 : decode (mc mX9_tried) 93 = .ok (.getfield 35, 3) := by decide +kernel
theorem dX9_tried_96 : decode (mc mX9_tried) 96 = .ok (.iload 5, 2) := by decide +kernel
theorem dX9_tried_98 : decode (mc mX9_tried) 98 = .ok (.aaload, 1) := by decide +kernel
theorem dX9_tried_99 : decode (mc mX9_tried) 99 = .ok (.aload_n 0, 1) := by decide +kernel
theorem dX9_tried_100 : decode (mc mX9_tried) 100 = .ok (.getfield 9, 3) := by decide +kernel
theorem dX9_tried_103 : decode (mc mX9_tried) 103 = .ok (.iload 5, 2) := by decide +kernel
theorem dX9_tried_105 : decode (mc mX9_tried) 105 = .ok (.iaload, 1) := by decide +kernel
theorem dX9_tried_106 : decode (mc mX9_tried) 106 = .ok (.ineg, 1) := by decide +kernel
theorem dX9_tried_107 : decode (mc mX9_tried) 107 = .ok (.invokevirtual 48, 3) := by decide +kernel
theorem dX9_tried_110 : decode (mc mX9_tried) 110 = .ok (.iadd, 1) := by decide +kernel
theorem dX9_tried_111 : decode (mc mX9_tried) 111 = .ok (.istore 4, 2) := by decide +kernel
theorem dX9_tried_113 : decode (mc mX9_tried) 113 = .ok (.iinc 5 1, 3) := by decide +kernel
theorem dX9_tried_116 : decode (mc mX9_tried) 116 = .ok (.goto (-108), 3) := by decide +kernel
theorem dX9_tried_119 : decode (mc mX9_tried) 119 = .ok (.aload_n 0, 1) := by decide +kernel
theorem dX9_tried_120 : decode (mc mX9_tried) 120 = .ok (.getfield 19, 3) := by decide +kernel
theorem dX9_tried_123 : decode (mc mX9_tried) 123 = .ok (.aload_n 0, 1) := by decide +kernel
theorem dX9_tried_124 : decode (mc mX9_tried) 124 = .ok (.getfield 15, 3) := by decide +kernel
theorem dX9_tried_127 : decode (mc mX9_tried) 127 = .ok (.getfield 52, 3) := by decide +kernel
theorem dX9_tried_130 : decode (mc mX9_tried) 130 = .ok (.iload_n 1, 1) := by decide +kernel
theorem dX9_tried_131 : decode (mc mX9_tried) 131 = .ok (.iaload, 1) := by decide +kernel
theorem dX9_tried_132 : decode (mc mX9_tried) 132 = .ok (.aload_n 0, 1) := by decide +kernel
theorem dX9_tried_133 : decode (mc mX9_tried) 133 = .ok (.getfield 15, 3) := by decide +kernel
theorem dX9_tried_136 : decode (mc mX9_tried) 136 = .ok (.getfield 55, 3) := by decide +kernel
theorem dX9_tried_139 : decode (mc mX9_tried) 139 = .ok (.iload_n 1, 1) := by decide +kernel
theorem dX9_tried_140 : decode (mc mX9_tried) 140 = .ok (.iaload, 1) := by decide +kernel
theorem dX9_tried_141 : decode (mc mX9_tried) 141 = .ok (.iload_n 2, 1) := by decide +kernel
theorem dX9_tried_142 : decode (mc mX9_tried) 142 = .ok (.iload_n 3, 1) := by decide +kernel
theorem dX9_tried_143 : decode (mc mX9_tried) 143 = .ok (.invokevirtual 58, 3) := by decide +kernel
theorem dX9_tried_146 : decode (mc mX9_tried) 146 = .ok (.istore 5, 2) := by decide +kernel
theorem dX9_tried_148 : decode (mc mX9_tried) 148 = .ok (.iload 5, 2) := by decide +kernel
theorem dX9_tried_150 : decode (mc mX9_tried) 150 = .ok (.ifCond .ge 8, 3) := by decide +kernel
theorem dX9_tried_153 : decode (mc mX9_tried) 153 = .ok (.bipush (-9), 2) := by decide +kernel
theorem dX9_tried_155 : decode (mc mX9_tried) 155 = .ok (.goto 8, 3) := by decide +kernel
theorem dX9_tried_158 : decode (mc mX9_tried) 158 = .ok (.iload 5, 2) := by decide +kernel
theorem dX9_tried_160 : decode (mc mX9_tried) 160 = .ok (.iload 4, 2) := by decide +kernel
theorem dX9_tried_162 : decode (mc mX9_tried) 162 = .ok (.iadd, 1) := by decide +kernel
theorem dX9_tried_163 : decode (mc mX9_tried) 163 = .ok (.ireturn, 1) := by decide +kernel
theorem dX9_pass_0 : decode (mc mX9_pass) 0 = .ok (.aload_n 0, 1) := by decide +kernel
theorem dX9_pass_1 : decode (mc mX9_pass) 1 = .ok (.iload_n 1, 1) := by decide +kernel
theorem dX9_pass_2 : decode (mc mX9_pass) 2 = .ok (.iload_n 2, 1) := by decide +kernel
theorem dX9_pass_3 : decode (mc mX9_pass) 3 = .ok (.invokevirtual 62, 3) := by decide +kernel
theorem dX9_pass_6 : decode (mc mX9_pass) 6 = .ok (.istore_n 3, 1) := by decide +kernel
theorem dX9_pass_7 : decode (mc mX9_pass) 7 = .ok (.iload_n 3, 1) := by decide +kernel
theorem dX9_pass_8 : decode (mc mX9_pass) 8 = .ok (.ifCond .lt 66, 3) := by decide +kernel
theorem dX9_pass_11 : decode (mc mX9_pass) 11 = .ok (.iconst 0, 1) := by decide +kernel
theorem dX9_pass_12 : decode (mc mX9_pass) 12 = .ok (.istore 4, 2) := by decide +kernel
theorem dX9_pass_14 : decode (mc mX9_pass) 14 = .ok (.iload 4, 2) := by decide +kernel
theorem dX9_pass_16 : decode (mc mX9_pass) 16 = .ok (.aload_n 0, 1) := by decide +kernel
theorem dX9_pass_17 : decode (mc mX9_pass) 17 = .ok (.getfield 15, 3) := by decide +kernel
theorem dX9_pass_20 : decode (mc mX9_pass) 20 = .ok (.getfield 29, 3) := by decide +kernel
theorem dX9_pass_23 : decode (mc mX9_pass) 23 = .ok (.if_icmp .ge 51, 3) := by decide +kernel
theorem dX9_pass_26 : decode (mc mX9_pass) 26 = .ok (.aload_n 0, 1) := by decide +kernel
theorem dX9_pass_27 : decode (mc mX9_pass) 27 = .ok (.getfield 9, 3) := by decide +kernel
theorem dX9_pass_30 : decode (mc mX9_pass) 30 = .ok (.iload 4, 2) := by decide +kernel
theorem dX9_pass_32 : decode (mc mX9_pass) 32 = .ok (.aload_n 0, 1) := by decide +kernel
theorem dX9_pass_33 : decode (mc mX9_pass) 33 = .ok (.getfield 15, 3) := by decide +kernel
theorem dX9_pass_36 : decode (mc mX9_pass) 36 = .ok (.getfield 35, 3) := by decide +kernel
theorem dX9_pass_39 : decode (mc mX9_pass) 39 = .ok (.iload 4, 2) := by decide +kernel
theorem dX9_pass_41 : decode (mc mX9_pass) 41 = .ok (.aaload, 1) := by decide +kernel
theorem dX9_pass_42 : decode (mc mX9_pass) 42 = .ok (.aload_n 0, 1) := by decide +kernel
theorem dX9_pass_43 : decode (mc mX9_pass) 43 = .ok (.getfield 9, 3) := by decide +kernel
theorem dX9_pass_46 : decode (mc mX9_pass) 46 = .ok (.iload 4, 2) := by decide +kernel
theorem dX9_pass_48 : decode (mc mX9_pass) 48 = .ok (.iaload, 1) := by decide +kernel
theorem dX9_pass_49 : decode (mc mX9_pass) 49 = .ok (.iload_n 2, 1) := by decide +kernel
theorem dX9_pass_50 : decode (mc mX9_pass) 50 = .ok (.iload 4, 2) := by decide +kernel
theorem dX9_pass_52 : decode (mc mX9_pass) 52 = .ok (.ishr, 1) := by decide +kernel
theorem dX9_pass_53 : decode (mc mX9_pass) 53 = .ok (.iconst 1, 1) := by decide +kernel
theorem dX9_pass_54 : decode (mc mX9_pass) 54 = .ok (.iand, 1) := by decide +kernel
theorem dX9_pass_55 : decode (mc mX9_pass) 55 = .ok (.iconst 1, 1) := by decide +kernel
theorem dX9_pass_56 : decode (mc mX9_pass) 56 = .ok (.if_icmp .ne 7, 3) := by decide +kernel
theorem dX9_pass_59 : decode (mc mX9_pass) 59 = .ok (.iconst 1, 1) := by decide +kernel
theorem dX9_pass_60 : decode (mc mX9_pass) 60 = .ok (.goto 4, 3) := by decide +kernel
theorem dX9_pass_63 : decode (mc mX9_pass) 63 = .ok (.iconst 0, 1) := by decide +kernel
theorem dX9_pass_64 : decode (mc mX9_pass) 64 = .ok (.invokevirtual 44, 3) := by decide +kernel
theorem dX9_pass_67 : decode (mc mX9_pass) 67 = .ok (.iastore, 1) := by decide +kernel
theorem dX9_pass_68 : decode (mc mX9_pass) 68 = .ok (.iinc 4 1, 3) := by decide +kernel
theorem dX9_pass_71 : decode (mc mX9_pass) 71 = .ok (.goto (-57), 3) := by decide +kernel
theorem dX9_pass_74 : decode (mc mX9_pass) 74 = .ok (.iload_n 3, 1) := by decide +kernel
theorem dX9_pass_75 : decode (mc mX9_pass) 75 = .ok (.ireturn, 1) := by decide +kernel
theorem dJxf58ca_isNaN_12338_0 : decode (mc mJxf58ca_isNaN_12338) 0 = .ok (.fload_n 0, 1) := by decide +kernel
theorem dJxf58ca_isNaN_12338_1 : decode (mc mJxf58ca_isNaN_12338) 1 = .ok (.fload_n 0, 1) := by decide +kernel
theorem dJxf58ca_isNaN_12338_2 : decode (mc mJxf58ca_isNaN_12338) 2 = .ok (.fcmp .l, 1) := by decide +kernel
theorem dJxf58ca_isNaN_12338_3 : decode (mc mJxf58ca_isNaN_12338) 3 = .ok (.ifCond .eq 7, 3) := by decide +kernel
theorem dJxf58ca_isNaN_12338_6 : decode (mc mJxf58ca_isNaN_12338) 6 = .ok (.iconst 1, 1) := by decide +kernel
theorem dJxf58ca_isNaN_12338_7 : decode (mc mJxf58ca_isNaN_12338) 7 = .ok (.goto 4, 3) := by decide +kernel
theorem dJxf58ca_isNaN_12338_10 : decode (mc mJxf58ca_isNaN_12338) 10 = .ok (.iconst 0, 1) := by decide +kernel
theorem dJxf58ca_isNaN_12338_11 : decode (mc mJxf58ca_isNaN_12338) 11 = .ok (.ireturn, 1) := by decide +kernel
theorem dJxf58ca_floatToIntBits_5c35a_0 : decode (mc mJxf58ca_floatToIntBits_5c35a) 0 = .ok (.fload_n 0, 1) := by decide +kernel
theorem dJxf58ca_floatToIntBits_5c35a_1 : decode (mc mJxf58ca_floatToIntBits_5c35a) 1 = .ok (.invokestatic 59, 3) := by decide +kernel
theorem dJxf58ca_floatToIntBits_5c35a_4 : decode (mc mJxf58ca_floatToIntBits_5c35a) 4 = .ok (.ifCond .ne 8, 3) := by decide +kernel
theorem dJxf58ca_floatToIntBits_5c35a_7 : decode (mc mJxf58ca_floatToIntBits_5c35a) 7 = .ok (.fload_n 0, 1) := by decide +kernel
theorem dJxf58ca_floatToIntBits_5c35a_8 : decode (mc mJxf58ca_floatToIntBits_5c35a) 8 = .ok (.invokestatic 74, 3) := by decide +kernel
theorem dJxf58ca_floatToIntBits_5c35a_11 : decode (mc mJxf58ca_floatToIntBits_5c35a) 11 = .ok (.ireturn, 1) := by decide +kernel
theorem dJxf58ca_floatToIntBits_5c35a_12 : decode (mc mJxf58ca_floatToIntBits_5c35a) 12 = .ok (.ldc 77, 2) := by decide +kernel
theorem dJxf58ca_floatToIntBits_5c35a_14 : decode (mc mJxf58ca_floatToIntBits_5c35a) 14 = .ok (.ireturn, 1) := by decide +kernel
theorem dJ6_bitCount_0f7a4_0 : decode (mc mJ6_bitCount_0f7a4) 0 = .ok (.iload_n 0, 1) := by decide +kernel
theorem dJ6_bitCount_0f7a4_1 : decode (mc mJ6_bitCount_0f7a4) 1 = .ok (.iload_n 0, 1) := by decide +kernel
theorem dJ6_bitCount_0f7a4_2 : decode (mc mJ6_bitCount_0f7a4) 2 = .ok (.iconst 1, 1) := by decide +kernel
theorem dJ6_bitCount_0f7a4_3 : decode (mc mJ6_bitCount_0f7a4) 3 = .ok (.iushr, 1) := by decide +kernel
theorem dJ6_bitCount_0f7a4_4 : decode (mc mJ6_bitCount_0f7a4) 4 = .ok (.ldc_w 265, 3) := by decide +kernel
theorem dJ6_bitCount_0f7a4_7 : decode (mc mJ6_bitCount_0f7a4) 7 = .ok (.iand, 1) := by decide +kernel
theorem dJ6_bitCount_0f7a4_8 : decode (mc mJ6_bitCount_0f7a4) 8 = .ok (.isub, 1) := by decide +kernel
theorem dJ6_bitCount_0f7a4_9 : decode (mc mJ6_bitCount_0f7a4) 9 = .ok (.istore_n 0, 1) := by decide +kernel
theorem dJ6_bitCount_0f7a4_10 : decode (mc mJ6_bitCount_0f7a4) 10 = .ok (.iload_n 0, 1) := by decide +kernel
theorem dJ6_bitCount_0f7a4_11 : decode (mc mJ6_bitCount_0f7a4) 11 = .ok (.ldc_w 266, 3) := by decide +kernel
theorem dJ6_bitCount_0f7a4_14 : decode (mc mJ6_bitCount_0f7a4) 14 = .ok (.iand, 1) := by decide +kernel
theorem dJ6_bitCount_0f7a4_15 : decode (mc mJ6_bitCount_0f7a4) 15 = .ok (.iload_n 0, 1) := by decide +kernel
theorem dJ6_bitCount_0f7a4_16 : decode (mc mJ6_bitCount_0f7a4) 16 = .ok (.iconst 2, 1) := by decide +kernel
theorem dJ6_bitCount_0f7a4_17 : decode (mc mJ6_bitCount_0f7a4) 17 = .ok (.iushr, 1) := by decide +kernel
theorem dJ6_bitCount_0f7a4_18 : decode (mc mJ6_bitCount_0f7a4) 18 = .ok (.ldc_w 266, 3) := by decide +kernel
theorem dJ6_bitCount_0f7a4_21 : decode (mc mJ6_bitCount_0f7a4) 21 = .ok (.iand, 1) := by decide +kernel
theorem dJ6_bitCount_0f7a4_22 : decode (mc mJ6_bitCount_0f7a4) 22 = .ok (.iadd, 1) := by decide +kernel
theorem dJ6_bitCount_0f7a4_23 : decode (mc mJ6_bitCount_0f7a4) 23 = .ok (.istore_n 0, 1) := by decide +kernel
theorem dJ6_bitCount_0f7a4_24 : decode (mc mJ6_bitCount_0f7a4) 24 = .ok (.iload_n 0, 1) := by decide +kernel
theorem dJ6_bitCount_0f7a4_25 : decode (mc mJ6_bitCount_0f7a4) 25 = .ok (.iload_n 0, 1) := by decide +kernel
theorem dJ6_bitCount_0f7a4_26 : decode (mc mJ6_bitCount_0f7a4) 26 = .ok (.iconst 4, 1) := by decide +kernel
theorem dJ6_bitCount_0f7a4_27 : decode (mc mJ6_bitCount_0f7a4) 27 = .ok (.iushr, 1) := by decide +kernel
theorem dJ6_bitCount_0f7a4_28 : decode (mc mJ6_bitCount_0f7a4) 28 = .ok (.iadd, 1) := by decide +kernel
theorem dJ6_bitCount_0f7a4_29 : decode (mc mJ6_bitCount_0f7a4) 29 = .ok (.ldc_w 267, 3) := by decide +kernel
theorem dJ6_bitCount_0f7a4_32 : decode (mc mJ6_bitCount_0f7a4) 32 = .ok (.iand, 1) := by decide +kernel
theorem dJ6_bitCount_0f7a4_33 : decode (mc mJ6_bitCount_0f7a4) 33 = .ok (.istore_n 0, 1) := by decide +kernel
theorem dJ6_bitCount_0f7a4_34 : decode (mc mJ6_bitCount_0f7a4) 34 = .ok (.iload_n 0, 1) := by decide +kernel
theorem dJ6_bitCount_0f7a4_35 : decode (mc mJ6_bitCount_0f7a4) 35 = .ok (.iload_n 0, 1) := by decide +kernel
theorem dJ6_bitCount_0f7a4_36 : decode (mc mJ6_bitCount_0f7a4) 36 = .ok (.bipush 8, 2) := by decide +kernel
theorem dJ6_bitCount_0f7a4_38 : decode (mc mJ6_bitCount_0f7a4) 38 = .ok (.iushr, 1) := by decide +kernel
theorem dJ6_bitCount_0f7a4_39 : decode (mc mJ6_bitCount_0f7a4) 39 = .ok (.iadd, 1) := by decide +kernel
theorem dJ6_bitCount_0f7a4_40 : decode (mc mJ6_bitCount_0f7a4) 40 = .ok (.istore_n 0, 1) := by decide +kernel
theorem dJ6_bitCount_0f7a4_41 : decode (mc mJ6_bitCount_0f7a4) 41 = .ok (.iload_n 0, 1) := by decide +kernel
theorem dJ6_bitCount_0f7a4_42 : decode (mc mJ6_bitCount_0f7a4) 42 = .ok (.iload_n 0, 1) := by decide +kernel
theorem dJ6_bitCount_0f7a4_43 : decode (mc mJ6_bitCount_0f7a4) 43 = .ok (.bipush 16, 2) := by decide +kernel
theorem dJ6_bitCount_0f7a4_45 : decode (mc mJ6_bitCount_0f7a4) 45 = .ok (.iushr, 1) := by decide +kernel
theorem dJ6_bitCount_0f7a4_46 : decode (mc mJ6_bitCount_0f7a4) 46 = .ok (.iadd, 1) := by decide +kernel
theorem dJ6_bitCount_0f7a4_47 : decode (mc mJ6_bitCount_0f7a4) 47 = .ok (.istore_n 0, 1) := by decide +kernel
theorem dJ6_bitCount_0f7a4_48 : decode (mc mJ6_bitCount_0f7a4) 48 = .ok (.iload_n 0, 1) := by decide +kernel
theorem dJ6_bitCount_0f7a4_49 : decode (mc mJ6_bitCount_0f7a4) 49 = .ok (.bipush 63, 2) := by decide +kernel
theorem dJ6_bitCount_0f7a4_51 : decode (mc mJ6_bitCount_0f7a4) 51 = .ok (.iand, 1) := by decide +kernel
theorem dJ6_bitCount_0f7a4_52 : decode (mc mJ6_bitCount_0f7a4) 52 = .ok (.ireturn, 1) := by decide +kernel
theorem dJ9_max_7cf53_0 : decode (mc mJ9_max_7cf53) 0 = .ok (.iload_n 0, 1) := by decide +kernel
theorem dJ9_max_7cf53_1 : decode (mc mJ9_max_7cf53) 1 = .ok (.iload_n 1, 1) := by decide +kernel
theorem dJ9_max_7cf53_2 : decode (mc mJ9_max_7cf53) 2 = .ok (.if_icmp .lt 7, 3) := by decide +kernel
theorem dJ9_max_7cf53_5 : decode (mc mJ9_max_7cf53) 5 = .ok (.iload_n 0, 1) := by decide +kernel
theorem dJ9_max_7cf53_6 : decode (mc mJ9_max_7cf53) 6 = .ok (.goto 4, 3) := by decide +kernel
theorem dJ9_max_7cf53_9 : decode (mc mJ9_max_7cf53) 9 = .ok (.iload_n 1, 1) := by decide +kernel
theorem dJ9_max_7cf53_10 : decode (mc mJ9_max_7cf53) 10 = .ok (.ireturn, 1) := by decide +kernel
theorem dJ9_min_7cf53_0 : decode (mc mJ9_min_7cf53) 0 = .ok (.iload_n 0, 1) := by decide +kernel
theorem dJ9_min_7cf53_1 : decode (mc mJ9_min_7cf53) 1 = .ok (.iload_n 1, 1) := by decide +kernel
theorem dJ9_min_7cf53_2 : decode (mc mJ9_min_7cf53) 2 = .ok (.if_icmp .gt 7, 3) := by decide +kernel
theorem dJ9_min_7cf53_5 : decode (mc mJ9_min_7cf53) 5 = .ok (.iload_n 0, 1) := by decide +kernel
theorem dJ9_min_7cf53_6 : decode (mc mJ9_min_7cf53) 6 = .ok (.goto 4, 3) := by decide +kernel
theorem dJ9_min_7cf53_9 : decode (mc mJ9_min_7cf53) 9 = .ok (.iload_n 1, 1) := by decide +kernel
theorem dJ9_min_7cf53_10 : decode (mc mJ9_min_7cf53) 10 = .ok (.ireturn, 1) := by decide +kernel
theorem dJ0_length_8abf5_0 : decode (mc mJ0_length_8abf5) 0 = .ok (.aload_n 0, 1) := by decide +kernel
theorem dJ0_length_8abf5_1 : decode (mc mJ0_length_8abf5) 1 = .ok (.getfield 9, 3) := by decide +kernel
theorem dJ0_length_8abf5_4 : decode (mc mJ0_length_8abf5) 4 = .ok (.arraylength, 1) := by decide +kernel
theorem dJ0_length_8abf5_5 : decode (mc mJ0_length_8abf5) 5 = .ok (.aload_n 0, 1) := by decide +kernel
theorem dJ0_length_8abf5_6 : decode (mc mJ0_length_8abf5) 6 = .ok (.invokevirtual 335, 3) := by decide +kernel
theorem dJ0_length_8abf5_9 : decode (mc mJ0_length_8abf5) 9 = .ok (.ishr, 1) := by decide +kernel
theorem dJ0_length_8abf5_10 : decode (mc mJ0_length_8abf5) 10 = .ok (.ireturn, 1) := by decide +kernel
theorem dJ0_isEmpty_aae02_0 : decode (mc mJ0_isEmpty_aae02) 0 = .ok (.aload_n 0, 1) := by decide +kernel
theorem dJ0_isEmpty_aae02_1 : decode (mc mJ0_isEmpty_aae02) 1 = .ok (.getfield 9, 3) := by decide +kernel
theorem dJ0_isEmpty_aae02_4 : decode (mc mJ0_isEmpty_aae02) 4 = .ok (.arraylength, 1) := by decide +kernel
theorem dJ0_isEmpty_aae02_5 : decode (mc mJ0_isEmpty_aae02) 5 = .ok (.ifCond .ne 7, 3) := by decide +kernel
theorem dJ0_isEmpty_aae02_8 : decode (mc mJ0_isEmpty_aae02) 8 = .ok (.iconst 1, 1) := by decide +kernel
theorem dJ0_isEmpty_aae02_9 : decode (mc mJ0_isEmpty_aae02) 9 = .ok (.goto 4, 3) := by decide +kernel
theorem dJ0_isEmpty_aae02_12 : decode (mc mJ0_isEmpty_aae02) 12 = .ok (.iconst 0, 1) := by decide +kernel
theorem dJ0_isEmpty_aae02_13 : decode (mc mJ0_isEmpty_aae02) 13 = .ok (.ireturn, 1) := by decide +kernel
theorem dJ0_charAt_5068e_0 : decode (mc mJ0_charAt_5068e) 0 = .ok (.aload_n 0, 1) := by decide +kernel
theorem dJ0_charAt_5068e_1 : decode (mc mJ0_charAt_5068e) 1 = .ok (.invokevirtual 492, 3) := by decide +kernel
theorem dJ0_charAt_5068e_4 : decode (mc mJ0_charAt_5068e) 4 = .ok (.ifCond .eq 12, 3) := by decide +kernel
theorem dJ0_charAt_5068e_7 : decode (mc mJ0_charAt_5068e) 7 = .ok (.aload_n 0, 1) := by decide +kernel
theorem dJ0_charAt_5068e_8 : decode (mc mJ0_charAt_5068e) 8 = .ok (.getfield 9, 3) := by decide +kernel
theorem dJ0_charAt_5068e_11 : decode (mc mJ0_charAt_5068e) 11 = .ok (.iload_n 1, 1) := by decide +kernel
theorem dJ0_charAt_5068e_12 : decode (mc mJ0_charAt_5068e) 12 = .ok (.invokestatic 495, 3) := by decide +kernel
theorem dJ0_charAt_5068e_15 : decode (mc mJ0_charAt_5068e) 15 = .ok (.ireturn, 1) := by decide +kernel
theorem dJ0_charAt_5068e_16 : decode (mc mJ0_charAt_5068e) 16 = .ok (.aload_n 0, 1) := by decide +kernel
theorem dJ0_charAt_5068e_17 : decode (mc mJ0_charAt_5068e) 17 = .ok (.getfield 9, 3) := by decide +kernel
theorem dJ0_charAt_5068e_20 : decode (mc mJ0_charAt_5068e) 20 = .ok (.iload_n 1, 1) := by decide +kernel
theorem dJ0_charAt_5068e_21 : decode (mc mJ0_charAt_5068e) 21 = .ok (.invokestatic 498, 3) := by decide +kernel
theorem dJ0_charAt_5068e_24 : decode (mc mJ0_charAt_5068e) 24 = .ok (.ireturn, 1) := by decide +kernel
theorem dJ0_coder_7d493_0 : decode (mc mJ0_coder_7d493) 0 = .ok (.getstatic 38, 3) := by decide +kernel
theorem dJ0_coder_7d493_3 : decode (mc mJ0_coder_7d493) 3 = .ok (.ifCond .eq 10, 3) := by decide +kernel
theorem dJ0_coder_7d493_6 : decode (mc mJ0_coder_7d493) 6 = .ok (.aload_n 0, 1) := by decide +kernel
theorem dJ0_coder_7d493_7 : decode (mc mJ0_coder_7d493) 7 = .ok (.getfield 15, 3) := by decide +kernel
theorem dJ0_coder_7d493_10 : decode (mc mJ0_coder_7d493) 10 = .ok (.goto 4, 3) := by decide +kernel
theorem dJ0_coder_7d493_13 : decode (mc mJ0_coder_7d493) 13 = .ok (.iconst 1, 1) := by decide +kernel
theorem dJ0_coder_7d493_14 : decode (mc mJ0_coder_7d493) 14 = .ok (.ireturn, 1) := by decide +kernel
theorem dJ0_isLatin1_aae02_0 : decode (mc mJ0_isLatin1_aae02) 0 = .ok (.getstatic 38, 3) := by decide +kernel
theorem dJ0_isLatin1_aae02_3 : decode (mc mJ0_isLatin1_aae02) 3 = .ok (.ifCond .eq 14, 3) := by decide +kernel
theorem dJ0_isLatin1_aae02_6 : decode (mc mJ0_isLatin1_aae02) 6 = .ok (.aload_n 0, 1) := by decide +kernel
theorem dJ0_isLatin1_aae02_7 : decode (mc mJ0_isLatin1_aae02) 7 = .ok (.getfield 15, 3) := by decide +kernel
theorem dJ0_isLatin1_aae02_10 : decode (mc mJ0_isLatin1_aae02) 10 = .ok (.ifCond .ne 7, 3) := by decide +kernel
theorem dJ0_isLatin1_aae02_13 : decode (mc mJ0_isLatin1_aae02) 13 = .ok (.iconst 1, 1) := by decide +kernel
theorem dJ0_isLatin1_aae02_14 : decode (mc mJ0_isLatin1_aae02) 14 = .ok (.goto 4, 3) := by decide +kernel
theorem dJ0_isLatin1_aae02_17 : decode (mc mJ0_isLatin1_aae02) 17 = .ok (.iconst 0, 1) := by decide +kernel
theorem dJ0_isLatin1_aae02_18 : decode (mc mJ0_isLatin1_aae02) 18 = .ok (.ireturn, 1) := by decide +kernel
theorem dJ0_checkIndex_df160_0 : decode (mc mJ0_checkIndex_df160) 0 = .ok (.iload_n 0, 1) := by decide +kernel
theorem dJ0_checkIndex_df160_1 : decode (mc mJ0_checkIndex_df160) 1 = .ok (.iload_n 1, 1) := by decide +kernel
theorem dJ0_checkIndex_df160_2 : decode (mc mJ0_checkIndex_df160) 2 = .ok (.getstatic 1053, 3) := by decide +kernel
theorem dJ0_checkIndex_df160_5 : decode (mc mJ0_checkIndex_df160) 5 = .ok (.invokestatic 1059, 3) := by decide +kernel
theorem dJ0_checkIndex_df160_8 : decode (mc mJ0_checkIndex_df160) 8 = .ok (.pop, 1) := by decide +kernel
theorem dJ0_checkIndex_df160_9 : decode (mc mJ0_checkIndex_df160) 9 = .ok (.return_, 1) := by decide +kernel
theorem dJ1_charAt_3b067_0 : decode (mc mJ1_charAt_3b067) 0 = .ok (.iload_n 1, 1) := by decide +kernel
theorem dJ1_charAt_3b067_1 : decode (mc mJ1_charAt_3b067) 1 = .ok (.aload_n 0, 1) := by decide +kernel
theorem dJ1_charAt_3b067_2 : decode (mc mJ1_charAt_3b067) 2 = .ok (.arraylength, 1) := by decide +kernel
theorem dJ1_charAt_3b067_3 : decode (mc mJ1_charAt_3b067) 3 = .ok (.invokestatic 9, 3) := by decide +kernel
theorem dJ1_charAt_3b067_6 : decode (mc mJ1_charAt_3b067) 6 = .ok (.aload_n 0, 1) := by decide +kernel
theorem dJ1_charAt_3b067_7 : decode (mc mJ1_charAt_3b067) 7 = .ok (.iload_n 1, 1) := by decide +kernel
theorem dJ1_charAt_3b067_8 : decode (mc mJ1_charAt_3b067) 8 = .ok (.baload, 1) := by decide +kernel
theorem dJ1_charAt_3b067_9 : decode (mc mJ1_charAt_3b067) 9 = .ok (.sipush 255, 3) := by decide +kernel
theorem dJ1_charAt_3b067_12 : decode (mc mJ1_charAt_3b067) 12 = .ok (.iand, 1) := by decide +kernel
theorem dJ1_charAt_3b067_13 : decode (mc mJ1_charAt_3b067) 13 = .ok (.i2c, 1) := by decide +kernel
theorem dJ1_charAt_3b067_14 : decode (mc mJ1_charAt_3b067) 14 = .ok (.ireturn, 1) := by decide +kernel
theorem dJ2_getChar_3b067_0 : decode (mc mJ2_getChar_3b067) 0 = .ok (.getstatic 44, 3) := by decide +kernel
theorem dJ2_getChar_3b067_3 : decode (mc mJ2_getChar_3b067) 3 = .ok (.ifCond .ne 25, 3) := by decide +kernel
theorem dJ2_getChar_3b067_6 : decode (mc mJ2_getChar_3b067) 6 = .ok (.iload_n 1, 1) := by decide +kernel
theorem dJ2_getChar_3b067_7 : decode (mc mJ2_getChar_3b067) 7 = .ok (.ifCond .lt 11, 3) := by decide +kernel
theorem dJ2_getChar_3b067_10 : decode (mc mJ2_getChar_3b067) 10 = .ok (.iload_n 1, 1) := by decide +kernel
theorem dJ2_getChar_3b067_11 : decode (mc mJ2_getChar_3b067) 11 = .ok (.aload_n 0, 1) := by decide +kernel
theorem dJ2_getChar_3b067_12 : decode (mc mJ2_getChar_3b067) 12 = .ok (.invokestatic 48, 3) := by decide +kernel
theorem dJ2_getChar_3b067_15 : decode (mc mJ2_getChar_3b067) 15 = .ok (.if_icmp .lt 13, 3) := by decide +kernel
theorem dJ2_getChar_3b067_18 : decode (mc mJ2_getChar_3b067) 18 = .ok (.new 52, 3) := by decide +kernel
theorem dJ2_getChar_3b067_21 : decode (mc mJ2_getChar_3b067) 21 = .ok (.dup, 1) := by decide +kernel
theorem dJ2_getChar_3b067_22 : decode (mc mJ2_getChar_3b067) 22 = .ok (.ldc 54, 2) := by decide +kernel
theorem dJ2_getChar_3b067_24 : decode (mc mJ2_getChar_3b067) 24 = .ok (.invokespecial 56, 3) := by decide +kernel
theorem dJ2_getChar_3b067_27 : decode (mc mJ2_getChar_3b067) 27 = .ok (.athrow, 1) := by decide +kernel
theorem dJ2_getChar_3b067_28 : decode (mc mJ2_getChar_3b067) 28 = .ok (.iload_n 1, 1) := by decide +kernel
theorem dJ2_getChar_3b067_29 : decode (mc mJ2_getChar_3b067) 29 = .ok (.iconst 1, 1) := by decide +kernel
theorem dJ2_getChar_3b067_30 : decode (mc mJ2_getChar_3b067) 30 = .ok (.ishl, 1) := by decide +kernel
theorem dJ2_getChar_3b067_31 : decode (mc mJ2_getChar_3b067) 31 = .ok (.istore_n 1, 1) := by decide +kernel
theorem dJ2_getChar_3b067_32 : decode (mc mJ2_getChar_3b067) 32 = .ok (.aload_n 0, 1) := by decide +kernel
theorem dJ2_getChar_3b067_33 : decode (mc mJ2_getChar_3b067) 33 = .ok (.iload_n 1, 1) := by decide +kernel
theorem dJ2_getChar_3b067_34 : decode (mc mJ2_getChar_3b067) 34 = .ok (.iinc 1 1, 3) := by decide +kernel
theorem dJ2_getChar_3b067_37 : decode (mc mJ2_getChar_3b067) 37 = .ok (.baload, 1) := by decide +kernel
theorem dJ2_getChar_3b067_38 : decode (mc mJ2_getChar_3b067) 38 = .ok (.sipush 255, 3) := by decide +kernel
theorem dJ2_getChar_3b067_41 : decode (mc mJ2_getChar_3b067) 41 = .ok (.iand, 1) := by decide +kernel
theorem dJ2_getChar_3b067_42 : decode (mc mJ2_getChar_3b067) 42 = .ok (.getstatic 59, 3) := by decide +kernel
theorem dJ2_getChar_3b067_45 : decode (mc mJ2_getChar_3b067) 45 = .ok (.ishl, 1) := by decide +kernel
theorem dJ2_getChar_3b067_46 : decode (mc mJ2_getChar_3b067) 46 = .ok (.aload_n 0, 1) := by decide +kernel
theorem dJ2_getChar_3b067_47 : decode (mc mJ2_getChar_3b067) 47 = .ok (.iload_n 1, 1) := by decide +kernel
theorem dJ2_getChar_3b067_48 : decode (mc mJ2_getChar_3b067) 48 = .ok (.baload, 1) := by decide +kernel
theorem dJ2_getChar_3b067_49 : decode (mc mJ2_getChar_3b067) 49 = .ok (.sipush 255, 3) := by decide +kernel
theorem dJ2_getChar_3b067_52 : decode (mc mJ2_getChar_3b067) 52 = .ok (.iand, 1) := by decide +kernel
theorem dJ2_getChar_3b067_53 : decode (mc mJ2_getChar_3b067) 53 = .ok (.getstatic 63, 3) := by decide +kernel
theorem dJ2_getChar_3b067_56 : decode (mc mJ2_getChar_3b067) 56 = .ok (.ishl, 1) := by decide +kernel
theorem dJ2_getChar_3b067_57 : decode (mc mJ2_getChar_3b067) 57 = .ok (.ior, 1) := by decide +kernel
theorem dJ2_getChar_3b067_58 : decode (mc mJ2_getChar_3b067) 58 = .ok (.i2c, 1) := by decide +kernel
theorem dJ2_getChar_3b067_59 : decode (mc mJ2_getChar_3b067) 59 = .ok (.ireturn, 1) := by decide +kernel
theorem dJ2_length_9d52b_0 : decode (mc mJ2_length_9d52b) 0 = .ok (.aload_n 0, 1) := by decide +kernel
theorem dJ2_length_9d52b_1 : decode (mc mJ2_length_9d52b) 1 = .ok (.arraylength, 1) := by decide +kernel
theorem dJ2_length_9d52b_2 : decode (mc mJ2_length_9d52b) 2 = .ok (.iconst 1, 1) := by decide +kernel
theorem dJ2_length_9d52b_3 : decode (mc mJ2_length_9d52b) 3 = .ok (.ishr, 1) := by decide +kernel
theorem dJ2_length_9d52b_4 : decode (mc mJ2_length_9d52b) 4 = .ok (.ireturn, 1) := by decide +kernel
theorem dJ2_charAt_3b067_0 : decode (mc mJ2_charAt_3b067) 0 = .ok (.iload_n 1, 1) := by decide +kernel
theorem dJ2_charAt_3b067_1 : decode (mc mJ2_charAt_3b067) 1 = .ok (.aload_n 0, 1) := by decide +kernel
theorem dJ2_charAt_3b067_2 : decode (mc mJ2_charAt_3b067) 2 = .ok (.invokestatic 67, 3) := by decide +kernel
theorem dJ2_charAt_3b067_5 : decode (mc mJ2_charAt_3b067) 5 = .ok (.aload_n 0, 1) := by decide +kernel
theorem dJ2_charAt_3b067_6 : decode (mc mJ2_charAt_3b067) 6 = .ok (.iload_n 1, 1) := by decide +kernel
theorem dJ2_charAt_3b067_7 : decode (mc mJ2_charAt_3b067) 7 = .ok (.invokestatic 71, 3) := by decide +kernel
theorem dJ2_charAt_3b067_10 : decode (mc mJ2_charAt_3b067) 10 = .ok (.ireturn, 1) := by decide +kernel
theorem dJ2_checkIndex_2214a_0 : decode (mc mJ2_checkIndex_2214a) 0 = .ok (.iload_n 0, 1) := by decide +kernel
theorem dJ2_checkIndex_2214a_1 : decode (mc mJ2_checkIndex_2214a) 1 = .ok (.aload_n 1, 1) := by decide +kernel
theorem dJ2_checkIndex_2214a_2 : decode (mc mJ2_checkIndex_2214a) 2 = .ok (.invokestatic 48, 3) := by decide +kernel
theorem dJ2_checkIndex_2214a_5 : decode (mc mJ2_checkIndex_2214a) 5 = .ok (.invokestatic 414, 3) := by decide +kernel
theorem dJ2_checkIndex_2214a_8 : decode (mc mJ2_checkIndex_2214a) 8 = .ok (.return_, 1) := by decide +kernel
theorem dJ7_rangeCheck_23922_0 : decode (mc mJ7_rangeCheck_23922) 0 = .ok (.iload_n 1, 1) := by decide +kernel
theorem dJ7_rangeCheck_23922_1 : decode (mc mJ7_rangeCheck_23922) 1 = .ok (.iload_n 2, 1) := by decide +kernel
theorem dJ7_rangeCheck_23922_2 : decode (mc mJ7_rangeCheck_23922) 2 = .ok (.if_icmp .le 44, 3) := by decide +kernel
theorem dJ7_rangeCheck_23922_5 : decode (mc mJ7_rangeCheck_23922) 5 = .ok (.new 43, 3) := by decide +kernel
theorem dJ7_rangeCheck_23922_8 : decode (mc mJ7_rangeCheck_23922) 8 = .ok (.dup, 1) := by decide +kernel
theorem dJ7_rangeCheck_23922_9 : decode (mc mJ7_rangeCheck_23922) 9 = .ok (.new 45, 3) := by decide +kernel
theorem dJ7_rangeCheck_23922_12 : decode (mc mJ7_rangeCheck_23922) 12 = .ok (.dup, 1) := by decide +kernel
theorem dJ7_rangeCheck_23922_13 : decode (mc mJ7_rangeCheck_23922) 13 = .ok (.invokespecial 47, 3) := by decide +kernel
theorem dJ7_rangeCheck_23922_16 : decode (mc mJ7_rangeCheck_23922) 16 = .ok (.ldc 48, 2) := by decide +kernel
theorem dJ7_rangeCheck_23922_18 : decode (mc mJ7_rangeCheck_23922) 18 = .ok (.invokevirtual 50, 3) := by decide +kernel
theorem dJ7_rangeCheck_23922_21 : decode (mc mJ7_rangeCheck_23922) 21 = .ok (.iload_n 1, 1) := by decide +kernel
theorem dJ7_rangeCheck_23922_22 : decode (mc mJ7_rangeCheck_23922) 22 = .ok (.invokevirtual 54, 3) := by decide +kernel
theorem dJ7_rangeCheck_23922_25 : decode (mc mJ7_rangeCheck_23922) 25 = .ok (.ldc 57, 2) := by decide +kernel
theorem dJ7_rangeCheck_23922_27 : decode (mc mJ7_rangeCheck_23922) 27 = .ok (.invokevirtual 50, 3) := by decide +kernel
theorem dJ7_rangeCheck_23922_30 : decode (mc mJ7_rangeCheck_23922) 30 = .ok (.iload_n 2, 1) := by decide +kernel
theorem dJ7_rangeCheck_23922_31 : decode (mc mJ7_rangeCheck_23922) 31 = .ok (.invokevirtual 54, 3) := by decide +kernel
theorem dJ7_rangeCheck_23922_34 : decode (mc mJ7_rangeCheck_23922) 34 = .ok (.ldc 59, 2) := by decide +kernel
theorem dJ7_rangeCheck_23922_36 : decode (mc mJ7_rangeCheck_23922) 36 = .ok (.invokevirtual 50, 3) := by decide +kernel
theorem dJ7_rangeCheck_23922_39 : decode (mc mJ7_rangeCheck_23922) 39 = .ok (.invokevirtual 61, 3) := by decide +kernel
theorem dJ7_rangeCheck_23922_42 : decode (mc mJ7_rangeCheck_23922) 42 = .ok (.invokespecial 65, 3) := by decide +kernel
theorem dJ7_rangeCheck_23922_45 : decode (mc mJ7_rangeCheck_23922) 45 = .ok (.athrow, 1) := by decide +kernel
theorem dJ7_rangeCheck_23922_46 : decode (mc mJ7_rangeCheck_23922) 46 = .ok (.iload_n 1, 1) := by decide +kernel
theorem dJ7_rangeCheck_23922_47 : decode (mc mJ7_rangeCheck_23922) 47 = .ok (.ifCond .ge 12, 3) := by decide +kernel
theorem dJ7_rangeCheck_23922_50 : decode (mc mJ7_rangeCheck_23922) 50 = .ok (.new 68, 3) := by decide +kernel
theorem dJ7_rangeCheck_23922_53 : decode (mc mJ7_rangeCheck_23922) 53 = .ok (.dup, 1) := by decide +kernel
theorem dJ7_rangeCheck_23922_54 : decode (mc mJ7_rangeCheck_23922) 54 = .ok (.iload_n 1, 1) := by decide +kernel
theorem dJ7_rangeCheck_23922_55 : decode (mc mJ7_rangeCheck_23922) 55 = .ok (.invokespecial 70, 3) := by decide +kernel
theorem dJ7_rangeCheck_23922_58 : decode (mc mJ7_rangeCheck_23922) 58 = .ok (.athrow, 1) := by decide +kernel
theorem dJ7_rangeCheck_23922_59 : decode (mc mJ7_rangeCheck_23922) 59 = .ok (.iload_n 2, 1) := by decide +kernel
theorem dJ7_rangeCheck_23922_60 : decode (mc mJ7_rangeCheck_23922) 60 = .ok (.iload_n 0, 1) := by decide +kernel
theorem dJ7_rangeCheck_23922_61 : decode (mc mJ7_rangeCheck_23922) 61 = .ok (.if_icmp .le 12, 3) := by decide +kernel
theorem dJ7_rangeCheck_23922_64 : decode (mc mJ7_rangeCheck_23922) 64 = .ok (.new 68, 3) := by decide +kernel
theorem dJ7_rangeCheck_23922_67 : decode (mc mJ7_rangeCheck_23922) 67 = .ok (.dup, 1) := by decide +kernel
theorem dJ7_rangeCheck_23922_68 : decode (mc mJ7_rangeCheck_23922) 68 = .ok (.iload_n 2, 1) := by decide +kernel
theorem dJ7_rangeCheck_23922_69 : decode (mc mJ7_rangeCheck_23922) 69 = .ok (.invokespecial 70, 3) := by decide +kernel
theorem dJ7_rangeCheck_23922_72 : decode (mc mJ7_rangeCheck_23922) 72 = .ok (.athrow, 1) := by decide +kernel
theorem dJ7_rangeCheck_23922_73 : decode (mc mJ7_rangeCheck_23922) 73 = .ok (.return_, 1) := by decide +kernel
theorem dJ7_fill_53178_0 : decode (mc mJ7_fill_53178) 0 = .ok (.iconst 0, 1) := by decide +kernel
theorem dJ7_fill_53178_1 : decode (mc mJ7_fill_53178) 1 = .ok (.istore_n 2, 1) := by decide +kernel
theorem dJ7_fill_53178_2 : decode (mc mJ7_fill_53178) 2 = .ok (.aload_n 0, 1) := by decide +kernel
theorem dJ7_fill_53178_3 : decode (mc mJ7_fill_53178) 3 = .ok (.arraylength, 1) := by decide +kernel
theorem dJ7_fill_53178_4 : decode (mc mJ7_fill_53178) 4 = .ok (.istore_n 3, 1) := by decide +kernel
theorem dJ7_fill_53178_5 : decode (mc mJ7_fill_53178) 5 = .ok (.iload_n 2, 1) := by decide +kernel
theorem dJ7_fill_53178_6 : decode (mc mJ7_fill_53178) 6 = .ok (.iload_n 3, 1) := by decide +kernel
theorem dJ7_fill_53178_7 : decode (mc mJ7_fill_53178) 7 = .ok (.if_icmp .ge 13, 3) := by decide +kernel
theorem dJ7_fill_53178_10 : decode (mc mJ7_fill_53178) 10 = .ok (.aload_n 0, 1) := by decide +kernel
theorem dJ7_fill_53178_11 : decode (mc mJ7_fill_53178) 11 = .ok (.iload_n 2, 1) := by decide +kernel
theorem dJ7_fill_53178_12 : decode (mc mJ7_fill_53178) 12 = .ok (.iload_n 1, 1) := by decide +kernel
theorem dJ7_fill_53178_13 : decode (mc mJ7_fill_53178) 13 = .ok (.iastore, 1) := by decide +kernel
theorem dJ7_fill_53178_14 : decode (mc mJ7_fill_53178) 14 = .ok (.iinc 2 1, 3) := by decide +kernel
theorem dJ7_fill_53178_17 : decode (mc mJ7_fill_53178) 17 = .ok (.goto (-12), 3) := by decide +kernel
theorem dJ7_fill_53178_20 : decode (mc mJ7_fill_53178) 20 = .ok (.return_, 1) := by decide +kernel
theorem dJ7_fill_fda19_0 : decode (mc mJ7_fill_fda19) 0 = .ok (.aload_n 0, 1) := by decide +kernel
theorem dJ7_fill_fda19_1 : decode (mc mJ7_fill_fda19) 1 = .ok (.arraylength, 1) := by decide +kernel
theorem dJ7_fill_fda19_2 : decode (mc mJ7_fill_fda19) 2 = .ok (.iload_n 1, 1) := by decide +kernel
theorem dJ7_fill_fda19_3 : decode (mc mJ7_fill_fda19) 3 = .ok (.iload_n 2, 1) := by decide +kernel
theorem dJ7_fill_fda19_4 : decode (mc mJ7_fill_fda19) 4 = .ok (.invokestatic 13, 3) := by decide +kernel
theorem dJ7_fill_fda19_7 : decode (mc mJ7_fill_fda19) 7 = .ok (.iload_n 1, 1) := by decide +kernel
theorem dJ7_fill_fda19_8 : decode (mc mJ7_fill_fda19) 8 = .ok (.istore 4, 2) := by decide +kernel
theorem dJ7_fill_fda19_10 : decode (mc mJ7_fill_fda19) 10 = .ok (.iload 4, 2) := by decide +kernel
theorem dJ7_fill_fda19_12 : decode (mc mJ7_fill_fda19) 12 = .ok (.iload_n 2, 1) := by decide +kernel
theorem dJ7_fill_fda19_13 : decode (mc mJ7_fill_fda19) 13 = .ok (.if_icmp .ge 14, 3) := by decide +kernel
theorem dJ7_fill_fda19_16 : decode (mc mJ7_fill_fda19) 16 = .ok (.aload_n 0, 1) := by decide +kernel
theorem dJ7_fill_fda19_17 : decode (mc mJ7_fill_fda19) 17 = .ok (.iload 4, 2) := by decide +kernel
theorem dJ7_fill_fda19_19 : decode (mc mJ7_fill_fda19) 19 = .ok (.iload_n 3, 1) := by decide +kernel
theorem dJ7_fill_fda19_20 : decode (mc mJ7_fill_fda19) 20 = .ok (.iastore, 1) := by decide +kernel
theorem dJ7_fill_fda19_21 : decode (mc mJ7_fill_fda19) 21 = .ok (.iinc 4 1, 3) := by decide +kernel
theorem dJ7_fill_fda19_24 : decode (mc mJ7_fill_fda19) 24 = .ok (.goto (-14), 3) := by decide +kernel
theorem dJ7_fill_fda19_27 : decode (mc mJ7_fill_fda19) 27 = .ok (.return_, 1) := by decide +kernel
theorem dJ3_checkIndex_8e157_0 : decode (mc mJ3_checkIndex_8e157) 0 = .ok (.iload_n 0, 1) := by decide +kernel
theorem dJ3_checkIndex_8e157_1 : decode (mc mJ3_checkIndex_8e157) 1 = .ok (.ifCond .lt 8, 3) := by decide +kernel
theorem dJ3_checkIndex_8e157_4 : decode (mc mJ3_checkIndex_8e157) 4 = .ok (.iload_n 0, 1) := by decide +kernel
theorem dJ3_checkIndex_8e157_5 : decode (mc mJ3_checkIndex_8e157) 5 = .ok (.iload_n 1, 1) := by decide +kernel
theorem dJ3_checkIndex_8e157_6 : decode (mc mJ3_checkIndex_8e157) 6 = .ok (.if_icmp .lt 10, 3) := by decide +kernel
theorem dJ3_checkIndex_8e157_9 : decode (mc mJ3_checkIndex_8e157) 9 = .ok (.aload_n 2, 1) := by decide +kernel
theorem dJ3_checkIndex_8e157_10 : decode (mc mJ3_checkIndex_8e157) 10 = .ok (.iload_n 0, 1) := by decide +kernel
theorem dJ3_checkIndex_8e157_11 : decode (mc mJ3_checkIndex_8e157) 11 = .ok (.iload_n 1, 1) := by decide +kernel
theorem dJ3_checkIndex_8e157_12 : decode (mc mJ3_checkIndex_8e157) 12 = .ok (.invokestatic 95, 3) := by decide +kernel
theorem dJ3_checkIndex_8e157_15 : decode (mc mJ3_checkIndex_8e157) 15 = .ok (.athrow, 1) := by decide +kernel
theorem dJ3_checkIndex_8e157_16 : decode (mc mJ3_checkIndex_8e157) 16 = .ok (.iload_n 0, 1) := by decide +kernel
theorem dJ3_checkIndex_8e157_17 : decode (mc mJ3_checkIndex_8e157) 17 = .ok (.ireturn, 1) := by decide +kernel
