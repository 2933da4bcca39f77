theorem dX11_step_4 : decode (mc mX11_step) 4 = .ok (.invokestatic 93, 3) := by decide +kernel
theorem dX11_step_7 : decode (mc mX11_step) 7 = .ok (.istore_n 2, 1) := by decide +kernel
theorem dX11_step_8 : decode (mc mX11_step) 8 = .ok (.iload_n 2, 1) := by decide +kernel
theorem dX11_step_9 : decode (mc mX11_step) 9 = .ok (.ifCond .eq 9, 3) := by decide +kernel
theorem dX11_step_12 : decode (mc mX11_step) 12 = .ok (.aload_n 0, 1) := by decide +kernel
theorem dX11_step_13 : decode (mc mX11_step) 13 = .ok (.iload_n 2, 1) := by decide +kernel
theorem dX11_step_14 : decode (mc mX11_step) 14 = .ok (.invokevirtual 79, 3) := by decide +kernel
theorem dX11_step_17 : decode (mc mX11_step) 17 = .ok (.ireturn, 1) := by decide +kernel
theorem dX11_step_18 : decode (mc mX11_step) 18 = .ok (.aload_n 0, 1) := by decide +kernel
theorem dX11_step_19 : decode (mc mX11_step) 19 = .ok (.getfield 9, 3) := by decide +kernel
theorem dX11_step_22 : decode (mc mX11_step) 22 = .ok (.iconst 2, 1) := by decide +kernel
theorem dX11_step_23 : decode (mc mX11_step) 23 = .ok (.iaload, 1) := by decide +kernel
theorem dX11_step_24 : decode (mc mX11_step) 24 = .ok (.istore_n 3, 1) := by decide +kernel
theorem dX11_step_25 : decode (mc mX11_step) 25 = .ok (.aload_n 0, 1) := by decide +kernel
theorem dX11_step_26 : decode (mc mX11_step) 26 = .ok (.getfield 9, 3) := by decide +kernel
theorem dX11_step_29 : decode (mc mX11_step) 29 = .ok (.iconst 2, 1) := by decide +kernel
theorem dX11_step_30 : decode (mc mX11_step) 30 = .ok (.iload_n 1, 1) := by decide +kernel
theorem dX11_step_31 : decode (mc mX11_step) 31 = .ok (.iastore, 1) := by decide +kernel
theorem dX11_step_32 : decode (mc mX11_step) 32 = .ok (.iload_n 3, 1) := by decide +kernel
theorem dX11_step_33 : decode (mc mX11_step) 33 = .ok (.ireturn, 1) := by decide +kernel
theorem dX11_answersIn_0 : decode (mc mX11_answersIn) 0 = .ok (.aload_n 0, 1) := by decide +kernel
theorem dX11_answersIn_1 : decode (mc mX11_answersIn) 1 = .ok (.getfield 9, 3) := by decide +kernel
theorem dX11_answersIn_4 : decode (mc mX11_answersIn) 4 = .ok (.bipush 14, 2) := by decide +kernel
theorem dX11_answersIn_6 : decode (mc mX11_answersIn) 6 = .ok (.iload_n 2, 1) := by decide +kernel
theorem dX11_answersIn_7 : decode (mc mX11_answersIn) 7 = .ok (.iadd, 1) := by decide +kernel
theorem dX11_answersIn_8 : decode (mc mX11_answersIn) 8 = .ok (.iaload, 1) := by decide +kernel
theorem dX11_answersIn_9 : decode (mc mX11_answersIn) 9 = .ok (.aload_n 0, 1) := by decide +kernel
theorem dX11_answersIn_10 : decode (mc mX11_answersIn) 10 = .ok (.iload_n 1, 1) := by decide +kernel
theorem dX11_answersIn_11 : decode (mc mX11_answersIn) 11 = .ok (.iconst 4, 1) := by decide +kernel
theorem dX11_answersIn_12 : decode (mc mX11_answersIn) 12 = .ok (.invokevirtual 130, 3) := by decide +kernel
theorem dX11_answersIn_15 : decode (mc mX11_answersIn) 15 = .ok (.if_icmp .le 12, 3) := by decide +kernel
theorem dX11_answersIn_18 : decode (mc mX11_answersIn) 18 = .ok (.aload_n 0, 1) := by decide +kernel
theorem dX11_answersIn_19 : decode (mc mX11_answersIn) 19 = .ok (.iload_n 1, 1) := by decide +kernel
theorem dX11_answersIn_20 : decode (mc mX11_answersIn) 20 = .ok (.iload_n 3, 1) := by decide +kernel
theorem dX11_answersIn_21 : decode (mc mX11_answersIn) 21 = .ok (.invokevirtual 158, 3) := by decide +kernel
theorem dX11_answersIn_24 : decode (mc mX11_answersIn) 24 = .ok (.goto 8, 3) := by decide +kernel
theorem dX11_answersIn_27 : decode (mc mX11_answersIn) 27 = .ok (.aload_n 0, 1) := by decide +kernel
theorem dX11_answersIn_28 : decode (mc mX11_answersIn) 28 = .ok (.iload_n 1, 1) := by decide +kernel
theorem dX11_answersIn_29 : decode (mc mX11_answersIn) 29 = .ok (.invokevirtual 155, 3) := by decide +kernel
theorem dX11_answersIn_32 : decode (mc mX11_answersIn) 32 = .ok (.ireturn, 1) := by decide +kernel
theorem dX11_netOf_0 : decode (mc mX11_netOf) 0 = .ok (.aload_n 0, 1) := by decide +kernel
theorem dX11_netOf_1 : decode (mc mX11_netOf) 1 = .ok (.iload_n 1, 1) := by decide +kernel
theorem dX11_netOf_2 : decode (mc mX11_netOf) 2 = .ok (.bipush 9, 2) := by decide +kernel
theorem dX11_netOf_4 : decode (mc mX11_netOf) 4 = .ok (.invokevirtual 130, 3) := by decide +kernel
theorem dX11_netOf_7 : decode (mc mX11_netOf) 7 = .ok (.istore_n 3, 1) := by decide +kernel
theorem dX11_netOf_8 : decode (mc mX11_netOf) 8 = .ok (.iconst 0, 1) := by decide +kernel
theorem dX11_netOf_9 : decode (mc mX11_netOf) 9 = .ok (.istore 4, 2) := by decide +kernel
theorem dX11_netOf_11 : decode (mc mX11_netOf) 11 = .ok (.iconst 0, 1) := by decide +kernel
theorem dX11_netOf_12 : decode (mc mX11_netOf) 12 = .ok (.istore 5, 2) := by decide +kernel
theorem dX11_netOf_14 : decode (mc mX11_netOf) 14 = .ok (.iload 5, 2) := by decide +kernel
theorem dX11_netOf_16 : decode (mc mX11_netOf) 16 = .ok (.aload_n 0, 1) := by decide +kernel
theorem dX11_netOf_17 : decode (mc mX11_netOf) 17 = .ok (.getfield 9, 3) := by decide +kernel
theorem dX11_netOf_20 : decode (mc mX11_netOf) 20 = .ok (.iconst 0, 1) := by decide +kernel
theorem dX11_netOf_21 : decode (mc mX11_netOf) 21 = .ok (.iaload, 1) := by decide +kernel
theorem dX11_netOf_22 : decode (mc mX11_netOf) 22 = .ok (.if_icmp .ge 95, 3) := by decide +kernel
theorem dX11_netOf_25 : decode (mc mX11_netOf) 25 = .ok (.iload_n 2, 1) := by decide +kernel
theorem dX11_netOf_26 : decode (mc mX11_netOf) 26 = .ok (.iload 5, 2) := by decide +kernel
theorem dX11_netOf_28 : decode (mc mX11_netOf) 28 = .ok (.invokestatic 165, 3) := by decide +kernel
theorem dX11_netOf_31 : decode (mc mX11_netOf) 31 = .ok (.ifCond .eq 69, 3) := by decide +kernel
theorem dX11_netOf_34 : decode (mc mX11_netOf) 34 = .ok (.iload 4, 2) := by decide +kernel
theorem dX11_netOf_36 : decode (mc mX11_netOf) 36 = .ok (.aload_n 0, 1) := by decide +kernel
theorem dX11_netOf_37 : decode (mc mX11_netOf) 37 = .ok (.iload_n 1, 1) := by decide +kernel
theorem dX11_netOf_38 : decode (mc mX11_netOf) 38 = .ok (.iconst 5, 1) := by decide +kernel
theorem dX11_netOf_39 : decode (mc mX11_netOf) 39 = .ok (.invokevirtual 130, 3) := by decide +kernel
theorem dX11_netOf_42 : decode (mc mX11_netOf) 42 = .ok (.aload_n 0, 1) := by decide +kernel
theorem dX11_netOf_43 : decode (mc mX11_netOf) 43 = .ok (.iload_n 1, 1) := by decide +kernel
theorem dX11_netOf_44 : decode (mc mX11_netOf) 44 = .ok (.iload 5, 2) := by decide +kernel
theorem dX11_netOf_46 : decode (mc mX11_netOf) 46 = .ok (.iload_n 3, 1) := by decide +kernel
theorem dX11_netOf_47 : decode (mc mX11_netOf) 47 = .ok (.ifCond .ge 7, 3) := by decide +kernel
theorem dX11_netOf_50 : decode (mc mX11_netOf) 50 = .ok (.iconst 1, 1) := by decide +kernel
theorem dX11_netOf_51 : decode (mc mX11_netOf) 51 = .ok (.goto 4, 3) := by decide +kernel
theorem dX11_netOf_54 : decode (mc mX11_netOf) 54 = .ok (.iconst 0, 1) := by decide +kernel
theorem dX11_netOf_55 : decode (mc mX11_netOf) 55 = .ok (.invokevirtual 248, 3) := by decide +kernel
theorem dX11_netOf_58 : decode (mc mX11_netOf) 58 = .ok (.aload_n 0, 1) := by decide +kernel
theorem dX11_netOf_59 : decode (mc mX11_netOf) 59 = .ok (.iload_n 1, 1) := by decide +kernel
theorem dX11_netOf_60 : decode (mc mX11_netOf) 60 = .ok (.iconst 4, 1) := by decide +kernel
theorem dX11_netOf_61 : decode (mc mX11_netOf) 61 = .ok (.invokevirtual 130, 3) := by decide +kernel
theorem dX11_netOf_64 : decode (mc mX11_netOf) 64 = .ok (.aload_n 0, 1) := by decide +kernel
theorem dX11_netOf_65 : decode (mc mX11_netOf) 65 = .ok (.getfield 9, 3) := by decide +kernel
theorem dX11_netOf_68 : decode (mc mX11_netOf) 68 = .ok (.bipush 14, 2) := by decide +kernel
theorem dX11_netOf_70 : decode (mc mX11_netOf) 70 = .ok (.iload 5, 2) := by decide +kernel
theorem dX11_netOf_72 : decode (mc mX11_netOf) 72 = .ok (.iadd, 1) := by decide +kernel
theorem dX11_netOf_73 : decode (mc mX11_netOf) 73 = .ok (.iaload, 1) := by decide +kernel
theorem dX11_netOf_74 : decode (mc mX11_netOf) 74 = .ok (.isub, 1) := by decide +kernel
theorem dX11_netOf_75 : decode (mc mX11_netOf) 75 = .ok (.imul, 1) := by decide +kernel
theorem dX11_netOf_76 : decode (mc mX11_netOf) 76 = .ok (.iadd, 1) := by decide +kernel
theorem dX11_netOf_77 : decode (mc mX11_netOf) 77 = .ok (.iadd, 1) := by decide +kernel
theorem dX11_netOf_78 : decode (mc mX11_netOf) 78 = .ok (.istore 4, 2) := by decide +kernel
theorem dX11_netOf_80 : decode (mc mX11_netOf) 80 = .ok (.iload 4, 2) := by decide +kernel
theorem dX11_netOf_82 : decode (mc mX11_netOf) 82 = .ok (.iload_n 3, 1) := by decide +kernel
theorem dX11_netOf_83 : decode (mc mX11_netOf) 83 = .ok (.ifCond .ge 13, 3) := by decide +kernel
theorem dX11_netOf_86 : decode (mc mX11_netOf) 86 = .ok (.aload_n 0, 1) := by decide +kernel
theorem dX11_netOf_87 : decode (mc mX11_netOf) 87 = .ok (.iload_n 1, 1) := by decide +kernel
theorem dX11_netOf_88 : decode (mc mX11_netOf) 88 = .ok (.iload_n 3, 1) := by decide +kernel
theorem dX11_netOf_89 : decode (mc mX11_netOf) 89 = .ok (.ineg, 1) := by decide +kernel
theorem dX11_netOf_90 : decode (mc mX11_netOf) 90 = .ok (.invokevirtual 162, 3) := by decide +kernel
theorem dX11_netOf_93 : decode (mc mX11_netOf) 93 = .ok (.goto 4, 3) := by decide +kernel
theorem dX11_netOf_96 : decode (mc mX11_netOf) 96 = .ok (.iconst 0, 1) := by decide +kernel
theorem dX11_netOf_97 : decode (mc mX11_netOf) 97 = .ok (.iadd, 1) := by decide +kernel
theorem dX11_netOf_98 : decode (mc mX11_netOf) 98 = .ok (.istore 4, 2) := by decide +kernel
theorem dX11_netOf_100 : decode (mc mX11_netOf) 100 = .ok (.iload_n 3, 1) := by decide +kernel
theorem dX11_netOf_101 : decode (mc mX11_netOf) 101 = .ok (.iload_n 2, 1) := by decide +kernel
theorem dX11_netOf_102 : decode (mc mX11_netOf) 102 = .ok (.iload 5, 2) := by decide +kernel
theorem dX11_netOf_104 : decode (mc mX11_netOf) 104 = .ok (.invokestatic 165, 3) := by decide +kernel
theorem dX11_netOf_107 : decode (mc mX11_netOf) 107 = .ok (.invokestatic 173, 3) := by decide +kernel
theorem dX11_netOf_110 : decode (mc mX11_netOf) 110 = .ok (.istore_n 3, 1) := by decide +kernel
theorem dX11_netOf_111 : decode (mc mX11_netOf) 111 = .ok (.iinc 5 1, 3) := by decide +kernel
theorem dX11_netOf_114 : decode (mc mX11_netOf) 114 = .ok (.goto (-100), 3) := by decide +kernel
theorem dX11_netOf_117 : decode (mc mX11_netOf) 117 = .ok (.iload 4, 2) := by decide +kernel
theorem dX11_netOf_119 : decode (mc mX11_netOf) 119 = .ok (.ireturn, 1) := by decide +kernel
theorem dX11_answerOf_0 : decode (mc mX11_answerOf) 0 = .ok (.bipush (-9), 2) := by decide +kernel
theorem dX11_answerOf_2 : decode (mc mX11_answerOf) 2 = .ok (.istore_n 2, 1) := by decide +kernel
theorem dX11_answerOf_3 : decode (mc mX11_answerOf) 3 = .ok (.iconst 0, 1) := by decide +kernel
theorem dX11_answerOf_4 : decode (mc mX11_answerOf) 4 = .ok (.istore_n 3, 1) := by decide +kernel
theorem dX11_answerOf_5 : decode (mc mX11_answerOf) 5 = .ok (.iconst 0, 1) := by decide +kernel
theorem dX11_answerOf_6 : decode (mc mX11_answerOf) 6 = .ok (.istore 4, 2) := by decide +kernel
theorem dX11_answerOf_8 : decode (mc mX11_answerOf) 8 = .ok (.iload 4, 2) := by decide +kernel
theorem dX11_answerOf_10 : decode (mc mX11_answerOf) 10 = .ok (.iconst 1, 1) := by decide +kernel
theorem dX11_answerOf_11 : decode (mc mX11_answerOf) 11 = .ok (.aload_n 0, 1) := by decide +kernel
theorem dX11_answerOf_12 : decode (mc mX11_answerOf) 12 = .ok (.getfield 9, 3) := by decide +kernel
theorem dX11_answerOf_15 : decode (mc mX11_answerOf) 15 = .ok (.iconst 0, 1) := by decide +kernel
theorem dX11_answerOf_16 : decode (mc mX11_answerOf) 16 = .ok (.iaload, 1) := by decide +kernel
theorem dX11_answerOf_17 : decode (mc mX11_answerOf) 17 = .ok (.ishl, 1) := by decide +kernel
theorem dX11_answerOf_18 : decode (mc mX11_answerOf) 18 = .ok (.if_icmp .ge 46, 3) := by decide +kernel
theorem dX11_answerOf_21 : decode (mc mX11_answerOf) 21 = .ok (.aload_n 0, 1) := by decide +kernel
theorem dX11_answerOf_22 : decode (mc mX11_answerOf) 22 = .ok (.iload_n 1, 1) := by decide +kernel
theorem dX11_answerOf_23 : decode (mc mX11_answerOf) 23 = .ok (.iload 4, 2) := by decide +kernel
theorem dX11_answerOf_25 : decode (mc mX11_answerOf) 25 = .ok (.invokevirtual 176, 3) := by decide +kernel
theorem dX11_answerOf_28 : decode (mc mX11_answerOf) 28 = .ok (.ifCond .eq 30, 3) := by decide +kernel
theorem dX11_answerOf_31 : decode (mc mX11_answerOf) 31 = .ok (.aload_n 0, 1) := by decide +kernel
theorem dX11_answerOf_32 : decode (mc mX11_answerOf) 32 = .ok (.iload_n 1, 1) := by decide +kernel
theorem dX11_answerOf_33 : decode (mc mX11_answerOf) 33 = .ok (.iload 4, 2) := by decide +kernel
theorem dX11_answerOf_35 : decode (mc mX11_answerOf) 35 = .ok (.invokevirtual 252, 3) := by decide +kernel
theorem dX11_answerOf_38 : decode (mc mX11_answerOf) 38 = .ok (.istore 5, 2) := by decide +kernel
theorem dX11_answerOf_40 : decode (mc mX11_answerOf) 40 = .ok (.iload_n 2, 1) := by decide +kernel
theorem dX11_answerOf_41 : decode (mc mX11_answerOf) 41 = .ok (.bipush (-9), 2) := by decide +kernel
theorem dX11_answerOf_43 : decode (mc mX11_answerOf) 43 = .ok (.if_icmp .eq 9, 3) := by decide +kernel
theorem dX11_answerOf_46 : decode (mc mX11_answerOf) 46 = .ok (.iload 5, 2) := by decide +kernel
theorem dX11_answerOf_48 : decode (mc mX11_answerOf) 48 = .ok (.iload_n 3, 1) := by decide +kernel
theorem dX11_answerOf_49 : decode (mc mX11_answerOf) 49 = .ok (.if_icmp .ge 9, 3) := by decide +kernel
theorem dX11_answerOf_52 : decode (mc mX11_answerOf) 52 = .ok (.iload 4, 2) := by decide +kernel
theorem dX11_answerOf_54 : decode (mc mX11_answerOf) 54 = .ok (.istore_n 2, 1) := by decide +kernel
theorem dX11_answerOf_55 : decode (mc mX11_answerOf) 55 = .ok (.iload 5, 2) := by decide +kernel
theorem dX11_answerOf_57 : decode (mc mX11_answerOf) 57 = .ok (.istore_n 3, 1) := by decide +kernel
theorem dX11_answerOf_58 : decode (mc mX11_answerOf) 58 = .ok (.iinc 4 1, 3) := by decide +kernel
theorem dX11_answerOf_61 : decode (mc mX11_answerOf) 61 = .ok (.goto (-53), 3) := by decide +kernel
theorem dX11_answerOf_64 : decode (mc mX11_answerOf) 64 = .ok (.iload_n 2, 1) := by decide +kernel
theorem dX11_answerOf_65 : decode (mc mX11_answerOf) 65 = .ok (.ireturn, 1) := by decide +kernel
theorem dX11_givesBy_0 : decode (mc mX11_givesBy) 0 = .ok (.aload_n 0, 1) := by decide +kernel
theorem dX11_givesBy_1 : decode (mc mX11_givesBy) 1 = .ok (.iload_n 1, 1) := by decide +kernel
theorem dX11_givesBy_2 : decode (mc mX11_givesBy) 2 = .ok (.bipush 9, 2) := by decide +kernel
theorem dX11_givesBy_4 : decode (mc mX11_givesBy) 4 = .ok (.invokevirtual 130, 3) := by decide +kernel
theorem dX11_givesBy_7 : decode (mc mX11_givesBy) 7 = .ok (.istore 4, 2) := by decide +kernel
theorem dX11_givesBy_9 : decode (mc mX11_givesBy) 9 = .ok (.iconst 0, 1) := by decide +kernel
theorem dX11_givesBy_10 : decode (mc mX11_givesBy) 10 = .ok (.istore 5, 2) := by decide +kernel
theorem dX11_givesBy_12 : decode (mc mX11_givesBy) 12 = .ok (.iload 5, 2) := by decide +kernel
theorem dX11_givesBy_14 : decode (mc mX11_givesBy) 14 = .ok (.iload_n 3, 1) := by decide +kernel
theorem dX11_givesBy_15 : decode (mc mX11_givesBy) 15 = .ok (.if_icmp .ge 22, 3) := by decide +kernel
theorem dX11_givesBy_18 : decode (mc mX11_givesBy) 18 = .ok (.iload 4, 2) := by decide +kernel
theorem dX11_givesBy_20 : decode (mc mX11_givesBy) 20 = .ok (.iload_n 2, 1) := by decide +kernel
theorem dX11_givesBy_21 : decode (mc mX11_givesBy) 21 = .ok (.iload 5, 2) := by decide +kernel
theorem dX11_givesBy_23 : decode (mc mX11_givesBy) 23 = .ok (.invokestatic 165, 3) := by decide +kernel
theorem dX11_givesBy_26 : decode (mc mX11_givesBy) 26 = .ok (.invokestatic 173, 3) := by decide +kernel
theorem dX11_givesBy_29 : decode (mc mX11_givesBy) 29 = .ok (.istore 4, 2) := by decide +kernel
theorem dX11_givesBy_31 : decode (mc mX11_givesBy) 31 = .ok (.iinc 5 1, 3) := by decide +kernel
theorem dX11_givesBy_34 : decode (mc mX11_givesBy) 34 = .ok (.goto (-22), 3) := by decide +kernel
theorem dX11_givesBy_37 : decode (mc mX11_givesBy) 37 = .ok (.iload_n 2, 1) := by decide +kernel
theorem dX11_givesBy_38 : decode (mc mX11_givesBy) 38 = .ok (.iload_n 3, 1) := by decide +kernel
theorem dX11_givesBy_39 : decode (mc mX11_givesBy) 39 = .ok (.invokestatic 165, 3) := by decide +kernel
theorem dX11_givesBy_42 : decode (mc mX11_givesBy) 42 = .ok (.ifCond .eq 22, 3) := by decide +kernel
theorem dX11_givesBy_45 : decode (mc mX11_givesBy) 45 = .ok (.aload_n 0, 1) := by decide +kernel
theorem dX11_givesBy_46 : decode (mc mX11_givesBy) 46 = .ok (.iload_n 1, 1) := by decide +kernel
theorem dX11_givesBy_47 : decode (mc mX11_givesBy) 47 = .ok (.iload_n 3, 1) := by decide +kernel
theorem dX11_givesBy_48 : decode (mc mX11_givesBy) 48 = .ok (.iload 4, 2) := by decide +kernel
theorem dX11_givesBy_50 : decode (mc mX11_givesBy) 50 = .ok (.ifCond .ge 7, 3) := by decide +kernel
theorem dX11_givesBy_53 : decode (mc mX11_givesBy) 53 = .ok (.iconst 1, 1) := by decide +kernel
theorem dX11_givesBy_54 : decode (mc mX11_givesBy) 54 = .ok (.goto 4, 3) := by decide +kernel
theorem dX11_givesBy_57 : decode (mc mX11_givesBy) 57 = .ok (.iconst 0, 1) := by decide +kernel
theorem dX11_givesBy_58 : decode (mc mX11_givesBy) 58 = .ok (.invokevirtual 248, 3) := by decide +kernel
theorem dX11_givesBy_61 : decode (mc mX11_givesBy) 61 = .ok (.goto 4, 3) := by decide +kernel
theorem dX11_givesBy_64 : decode (mc mX11_givesBy) 64 = .ok (.iconst 0, 1) := by decide +kernel
theorem dX11_givesBy_65 : decode (mc mX11_givesBy) 65 = .ok (.ireturn, 1) := by decide +kernel
theorem dX11_answer_0 : decode (mc mX11_answer) 0 = .ok (.aload_n 0, 1) := by decide +kernel
theorem dX11_answer_1 : decode (mc mX11_answer) 1 = .ok (.iload_n 1, 1) := by decide +kernel
theorem dX11_answer_2 : decode (mc mX11_answer) 2 = .ok (.invokevirtual 124, 3) := by decide +kernel
theorem dX11_answer_5 : decode (mc mX11_answer) 5 = .ok (.ifCond .ne 9, 3) := by decide +kernel
theorem dX11_answer_8 : decode (mc mX11_answer) 8 = .ok (.aload_n 0, 1) := by decide +kernel
theorem dX11_answer_9 : decode (mc mX11_answer) 9 = .ok (.iconst (-1), 1) := by decide +kernel
theorem dX11_answer_10 : decode (mc mX11_answer) 10 = .ok (.invokevirtual 230, 3) := by decide +kernel
theorem dX11_answer_13 : decode (mc mX11_answer) 13 = .ok (.lreturn, 1) := by decide +kernel
theorem dX11_answer_14 : decode (mc mX11_answer) 14 = .ok (.iload_n 2, 1) := by decide +kernel
theorem dX11_answer_15 : decode (mc mX11_answer) 15 = .ok (.i2l, 1) := by decide +kernel
theorem dX11_answer_16 : decode (mc mX11_answer) 16 = .ok (.lconst 0, 1) := by decide +kernel
theorem dX11_answer_17 : decode (mc mX11_answer) 17 = .ok (.ldc2_w 143, 3) := by decide +kernel
theorem dX11_answer_20 : decode (mc mX11_answer) 20 = .ok (.invokestatic 89, 3) := by decide +kernel
theorem dX11_answer_23 : decode (mc mX11_answer) 23 = .ok (.ifCond .ne 10, 3) := by decide +kernel
theorem dX11_answer_26 : decode (mc mX11_answer) 26 = .ok (.aload_n 0, 1) := by decide +kernel
theorem dX11_answer_27 : decode (mc mX11_answer) 27 = .ok (.bipush (-2), 2) := by decide +kernel
theorem dX11_answer_29 : decode (mc mX11_answer) 29 = .ok (.invokevirtual 230, 3) := by decide +kernel
theorem dX11_answer_32 : decode (mc mX11_answer) 32 = .ok (.lreturn, 1) := by decide +kernel
theorem dX11_answer_33 : decode (mc mX11_answer) 33 = .ok (.aload_n 0, 1) := by decide +kernel
theorem dX11_answer_34 : decode (mc mX11_answer) 34 = .ok (.iload_n 1, 1) := by decide +kernel
theorem dX11_answer_35 : decode (mc mX11_answer) 35 = .ok (.invokevirtual 255, 3) := by decide +kernel
theorem dX11_answer_38 : decode (mc mX11_answer) 38 = .ok (.istore_n 3, 1) := by decide +kernel
theorem dX11_answer_39 : decode (mc mX11_answer) 39 = .ok (.iload_n 2, 1) := by decide +kernel
theorem dX11_answer_40 : decode (mc mX11_answer) 40 = .ok (.iconst 2, 1) := by decide +kernel
theorem dX11_answer_41 : decode (mc mX11_answer) 41 = .ok (.if_icmp .ge 20, 3) := by decide +kernel
theorem dX11_answer_44 : decode (mc mX11_answer) 44 = .ok (.iload_n 2, 1) := by decide +kernel
theorem dX11_answer_45 : decode (mc mX11_answer) 45 = .ok (.ifCond .ne 8, 3) := by decide +kernel
theorem dX11_answer_48 : decode (mc mX11_answer) 48 = .ok (.iload_n 3, 1) := by decide +kernel
theorem dX11_answer_49 : decode (mc mX11_answer) 49 = .ok (.i2l, 1) := by decide +kernel
theorem dX11_answer_50 : decode (mc mX11_answer) 50 = .ok (.goto 10, 3) := by decide +kernel
theorem dX11_answer_53 : decode (mc mX11_answer) 53 = .ok (.aload_n 0, 1) := by decide +kernel
theorem dX11_answer_54 : decode (mc mX11_answer) 54 = .ok (.iload_n 1, 1) := by decide +kernel
theorem dX11_answer_55 : decode (mc mX11_answer) 55 = .ok (.iload_n 3, 1) := by decide +kernel
theorem dX11_answer_56 : decode (mc mX11_answer) 56 = .ok (.invokevirtual 252, 3) := by decide +kernel
theorem dX11_answer_59 : decode (mc mX11_answer) 59 = .ok (.i2l, 1) := by decide +kernel
theorem dX11_answer_60 : decode (mc mX11_answer) 60 = .ok (.lreturn, 1) := by decide +kernel
theorem dX11_answer_61 : decode (mc mX11_answer) 61 = .ok (.iconst 0, 1) := by decide +kernel
theorem dX11_answer_62 : decode (mc mX11_answer) 62 = .ok (.istore 4, 2) := by decide +kernel
theorem dX11_answer_64 : decode (mc mX11_answer) 64 = .ok (.iconst 0, 1) := by decide +kernel
theorem dX11_answer_65 : decode (mc mX11_answer) 65 = .ok (.istore 5, 2) := by decide +kernel
theorem dX11_answer_67 : decode (mc mX11_answer) 67 = .ok (.iload 5, 2) := by decide +kernel
theorem dX11_answer_69 : decode (mc mX11_answer) 69 = .ok (.aload_n 0, 1) := by decide +kernel
theorem dX11_answer_70 : decode (mc mX11_answer) 70 = .ok (.getfield 9, 3) := by decide +kernel
theorem dX11_answer_73 : decode (mc mX11_answer) 73 = .ok (.iconst 0, 1) := by decide +kernel
theorem dX11_answer_74 : decode (mc mX11_answer) 74 = .ok (.iaload, 1) := by decide +kernel
theorem dX11_answer_75 : decode (mc mX11_answer) 75 = .ok (.if_icmp .ge 22, 3) := by decide +kernel
theorem dX11_answer_78 : decode (mc mX11_answer) 78 = .ok (.iload 4, 2) := by decide +kernel
theorem dX11_answer_80 : decode (mc mX11_answer) 80 = .ok (.aload_n 0, 1) := by decide +kernel
theorem dX11_answer_81 : decode (mc mX11_answer) 81 = .ok (.iload_n 1, 1) := by decide +kernel
theorem dX11_answer_82 : decode (mc mX11_answer) 82 = .ok (.iload_n 3, 1) := by decide +kernel
theorem dX11_answer_83 : decode (mc mX11_answer) 83 = .ok (.iload 5, 2) := by decide +kernel
theorem dX11_answer_85 : decode (mc mX11_answer) 85 = .ok (.invokevirtual 258, 3) := by decide +kernel
theorem dX11_answer_88 : decode (mc mX11_answer) 88 = .ok (.iadd, 1) := by decide +kernel
theorem dX11_answer_89 : decode (mc mX11_answer) 89 = .ok (.istore 4, 2) := by decide +kernel
theorem dX11_answer_91 : decode (mc mX11_answer) 91 = .ok (.iinc 5 1, 3) := by decide +kernel
theorem dX11_answer_94 : decode (mc mX11_answer) 94 = .ok (.goto (-27), 3) := by decide +kernel
theorem dX11_answer_97 : decode (mc mX11_answer) 97 = .ok (.iload 4, 2) := by decide +kernel
theorem dX11_answer_99 : decode (mc mX11_answer) 99 = .ok (.i2l, 1) := by decide +kernel
theorem dX11_answer_100 : decode (mc mX11_answer) 100 = .ok (.lreturn, 1) := by decide +kernel
theorem dX11_bound_0 : decode (mc mX11_bound) 0 = .ok (.iconst 0, 1) := by decide +kernel
theorem dX11_bound_1 : decode (mc mX11_bound) 1 = .ok (.istore_n 1, 1) := by decide +kernel
theorem dX11_bound_2 : decode (mc mX11_bound) 2 = .ok (.iconst 0, 1) := by decide +kernel
theorem dX11_bound_3 : decode (mc mX11_bound) 3 = .ok (.istore_n 2, 1) := by decide +kernel
theorem dX11_bound_4 : decode (mc mX11_bound) 4 = .ok (.iload_n 2, 1) := by decide +kernel
theorem dX11_bound_5 : decode (mc mX11_bound) 5 = .ok (.aload_n 0, 1) := by decide +kernel
theorem dX11_bound_6 : decode (mc mX11_bound) 6 = .ok (.getfield 9, 3) := by decide +kernel
theorem dX11_bound_9 : decode (mc mX11_bound) 9 = .ok (.iconst 0, 1) := by decide +kernel
theorem dX11_bound_10 : decode (mc mX11_bound) 10 = .ok (.iaload, 1) := by decide +kernel
theorem dX11_bound_11 : decode (mc mX11_bound) 11 = .ok (.if_icmp .ge 30, 3) := by decide +kernel
theorem dX11_bound_14 : decode (mc mX11_bound) 14 = .ok (.iload_n 1, 1) := by decide +kernel
theorem dX11_bound_15 : decode (mc mX11_bound) 15 = .ok (.aload_n 0, 1) := by decide +kernel
theorem dX11_bound_16 : decode (mc mX11_bound) 16 = .ok (.getfield 9, 3) := by decide +kernel
theorem dX11_bound_19 : decode (mc mX11_bound) 19 = .ok (.bipush 14, 2) := by decide +kernel
theorem dX11_bound_21 : decode (mc mX11_bound) 21 = .ok (.iload_n 2, 1) := by decide +kernel
theorem dX11_bound_22 : decode (mc mX11_bound) 22 = .ok (.iadd, 1) := by decide +kernel
theorem dX11_bound_23 : decode (mc mX11_bound) 23 = .ok (.iaload, 1) := by decide +kernel
theorem dX11_bound_24 : decode (mc mX11_bound) 24 = .ok (.aload_n 0, 1) := by decide +kernel
theorem dX11_bound_25 : decode (mc mX11_bound) 25 = .ok (.getfield 9, 3) := by decide +kernel
theorem dX11_bound_28 : decode (mc mX11_bound) 28 = .ok (.iconst 4, 1) := by decide +kernel
theorem dX11_bound_29 : decode (mc mX11_bound) 29 = .ok (.iload_n 2, 1) := by decide +kernel
theorem dX11_bound_30 : decode (mc mX11_bound) 30 = .ok (.iadd, 1) := by decide +kernel
theorem dX11_bound_31 : decode (mc mX11_bound) 31 = .ok (.iaload, 1) := by decide +kernel
theorem dX11_bound_32 : decode (mc mX11_bound) 32 = .ok (.imul, 1) := by decide +kernel
theorem dX11_bound_33 : decode (mc mX11_bound) 33 = .ok (.iadd, 1) := by decide +kernel
theorem dX11_bound_34 : decode (mc mX11_bound) 34 = .ok (.istore_n 1, 1) := by decide +kernel
theorem dX11_bound_35 : decode (mc mX11_bound) 35 = .ok (.iinc 2 1, 3) := by decide +kernel
theorem dX11_bound_38 : decode (mc mX11_bound) 38 = .ok (.goto (-34), 3) := by decide +kernel
theorem dX11_bound_41 : decode (mc mX11_bound) 41 = .ok (.iconst 0, 1) := by decide +kernel
theorem dX11_bound_42 : decode (mc mX11_bound) 42 = .ok (.istore_n 2, 1) := by decide +kernel
theorem dX11_bound_43 : decode (mc mX11_bound) 43 = .ok (.iload_n 2, 1) := by decide +kernel
theorem dX11_bound_44 : decode (mc mX11_bound) 44 = .ok (.aload_n 0, 1) := by decide +kernel
theorem dX11_bound_45 : decode (mc mX11_bound) 45 = .ok (.getfield 9, 3) := by decide +kernel
theorem dX11_bound_48 : decode (mc mX11_bound) 48 = .ok (.iconst 3, 1) := by decide +kernel
theorem dX11_bound_49 : decode (mc mX11_bound) 49 = .ok (.iaload, 1) := by decide +kernel
theorem dX11_bound_50 : decode (mc mX11_bound) 50 = .ok (.if_icmp .ge 22, 3) := by decide +kernel
theorem dX11_bound_53 : decode (mc mX11_bound) 53 = .ok (.iload_n 1, 1) := by decide +kernel
theorem dX11_bound_54 : decode (mc mX11_bound) 54 = .ok (.aload_n 0, 1) := by decide +kernel
theorem dX11_bound_55 : decode (mc mX11_bound) 55 = .ok (.iload_n 2, 1) := by decide +kernel
theorem dX11_bound_56 : decode (mc mX11_bound) 56 = .ok (.aload_n 0, 1) := by decide +kernel
theorem dX11_bound_57 : decode (mc mX11_bound) 57 = .ok (.iload_n 2, 1) := by decide +kernel
theorem dX11_bound_58 : decode (mc mX11_bound) 58 = .ok (.invokevirtual 255, 3) := by decide +kernel
theorem dX11_bound_61 : decode (mc mX11_bound) 61 = .ok (.invokevirtual 252, 3) := by decide +kernel
theorem dX11_bound_64 : decode (mc mX11_bound) 64 = .ok (.iadd, 1) := by decide +kernel
theorem dX11_bound_65 : decode (mc mX11_bound) 65 = .ok (.istore_n 1, 1) := by decide +kernel
theorem dX11_bound_66 : decode (mc mX11_bound) 66 = .ok (.iinc 2 1, 3) := by decide +kernel
theorem dX11_bound_69 : decode (mc mX11_bound) 69 = .ok (.goto (-26), 3) := by decide +kernel
theorem dX11_bound_72 : decode (mc mX11_bound) 72 = .ok (.iload_n 1, 1) := by decide +kernel
theorem dX11_bound_73 : decode (mc mX11_bound) 73 = .ok (.ireturn, 1) := by decide +kernel
theorem dX11_round_0 : decode (mc mX11_round) 0 = .ok (.iconst 0, 1) := by decide +kernel
theorem dX11_round_1 : decode (mc mX11_round) 1 = .ok (.istore_n 2, 1) := by decide +kernel
theorem dX11_round_2 : decode (mc mX11_round) 2 = .ok (.iload_n 2, 1) := by decide +kernel
theorem dX11_round_3 : decode (mc mX11_round) 3 = .ok (.aload_n 0, 1) := by decide +kernel
theorem dX11_round_4 : decode (mc mX11_round) 4 = .ok (.getfield 9, 3) := by decide +kernel
theorem dX11_round_7 : decode (mc mX11_round) 7 = .ok (.iconst 3, 1) := by decide +kernel
theorem dX11_round_8 : decode (mc mX11_round) 8 = .ok (.iaload, 1) := by decide +kernel
theorem dX11_round_9 : decode (mc mX11_round) 9 = .ok (.if_icmp .ge 20, 3) := by decide +kernel
theorem dX11_round_12 : decode (mc mX11_round) 12 = .ok (.aload_n 0, 1) := by decide +kernel
theorem dX11_round_13 : decode (mc mX11_round) 13 = .ok (.getfield 44, 3) := by decide +kernel
theorem dX11_round_16 : decode (mc mX11_round) 16 = .ok (.iload_n 2, 1) := by decide +kernel
theorem dX11_round_17 : decode (mc mX11_round) 17 = .ok (.aload_n 0, 1) := by decide +kernel
theorem dX11_round_18 : decode (mc mX11_round) 18 = .ok (.iload_n 2, 1) := by decide +kernel
theorem dX11_round_19 : decode (mc mX11_round) 19 = .ok (.invokevirtual 255, 3) := by decide +kernel
theorem dX11_round_22 : decode (mc mX11_round) 22 = .ok (.iastore, 1) := by decide +kernel
theorem dX11_round_23 : decode (mc mX11_round) 23 = .ok (.iinc 2 1, 3) := by decide +kernel
theorem dX11_round_26 : decode (mc mX11_round) 26 = .ok (.goto (-24), 3) := by decide +kernel
theorem dX11_round_29 : decode (mc mX11_round) 29 = .ok (.iconst 0, 1) := by decide +kernel
theorem dX11_round_30 : decode (mc mX11_round) 30 = .ok (.istore_n 2, 1) := by decide +kernel
theorem dX11_round_31 : decode (mc mX11_round) 31 = .ok (.iload_n 2, 1) := by decide +kernel
theorem dX11_round_32 : decode (mc mX11_round) 32 = .ok (.aload_n 0, 1) := by decide +kernel
theorem dX11_round_33 : decode (mc mX11_round) 33 = .ok (.getfield 9, 3) := by decide +kernel
theorem dX11_round_36 : decode (mc mX11_round) 36 = .ok (.iconst 0, 1) := by decide +kernel
theorem dX11_round_37 : decode (mc mX11_round) 37 = .ok (.iaload, 1) := by decide +kernel
theorem dX11_round_38 : decode (mc mX11_round) 38 = .ok (.if_icmp .ge 62, 3) := by decide +kernel
theorem dX11_round_41 : decode (mc mX11_round) 41 = .ok (.aload_n 0, 1) := by decide +kernel
theorem dX11_round_42 : decode (mc mX11_round) 42 = .ok (.getfield 47, 3) := by decide +kernel
theorem dX11_round_45 : decode (mc mX11_round) 45 = .ok (.iload_n 2, 1) := by decide +kernel
theorem dX11_round_46 : decode (mc mX11_round) 46 = .ok (.aload_n 0, 1) := by decide +kernel
theorem dX11_round_47 : decode (mc mX11_round) 47 = .ok (.getfield 9, 3) := by decide +kernel
theorem dX11_round_50 : decode (mc mX11_round) 50 = .ok (.iconst 4, 1) := by decide +kernel
theorem dX11_round_51 : decode (mc mX11_round) 51 = .ok (.iload_n 2, 1) := by decide +kernel
theorem dX11_round_52 : decode (mc mX11_round) 52 = .ok (.iadd, 1) := by decide +kernel
theorem dX11_round_53 : decode (mc mX11_round) 53 = .ok (.iaload, 1) := by decide +kernel
theorem dX11_round_54 : decode (mc mX11_round) 54 = .ok (.iastore, 1) := by decide +kernel
theorem dX11_round_55 : decode (mc mX11_round) 55 = .ok (.iconst 0, 1) := by decide +kernel
theorem dX11_round_56 : decode (mc mX11_round) 56 = .ok (.istore_n 3, 1) := by decide +kernel
theorem dX11_round_57 : decode (mc mX11_round) 57 = .ok (.iload_n 3, 1) := by decide +kernel
theorem dX11_round_58 : decode (mc mX11_round) 58 = .ok (.aload_n 0, 1) := by decide +kernel
theorem dX11_round_59 : decode (mc mX11_round) 59 = .ok (.getfield 9, 3) := by decide +kernel
theorem dX11_round_62 : decode (mc mX11_round) 62 = .ok (.iconst 3, 1) := by decide +kernel
theorem dX11_round_63 : decode (mc mX11_round) 63 = .ok (.iaload, 1) := by decide +kernel
theorem dX11_round_64 : decode (mc mX11_round) 64 = .ok (.if_icmp .ge 30, 3) := by decide +kernel
theorem dX11_round_67 : decode (mc mX11_round) 67 = .ok (.aload_n 0, 1) := by decide +kernel
theorem dX11_round_68 : decode (mc mX11_round) 68 = .ok (.getfield 47, 3) := by decide +kernel
theorem dX11_round_71 : decode (mc mX11_round) 71 = .ok (.iload_n 2, 1) := by decide +kernel
theorem dX11_round_72 : decode (mc mX11_round) 72 = .ok (.dup2, 1) := by decide +kernel
theorem dX11_round_73 : decode (mc mX11_round) 73 = .ok (.iaload, 1) := by decide +kernel
theorem dX11_round_74 : decode (mc mX11_round) 74 = .ok (.aload_n 0, 1) := by decide +kernel
theorem dX11_round_75 : decode (mc mX11_round) 75 = .ok (.iload_n 3, 1) := by decide +kernel
theorem dX11_round_76 : decode (mc mX11_round) 76 = .ok (.aload_n 0, 1) := by decide +kernel
theorem dX11_round_77 : decode (mc mX11_round) 77 = .ok (.getfield 44, 3) := by decide +kernel
theorem dX11_round_80 : decode (mc mX11_round) 80 = .ok (.iload_n 3, 1) := by decide +kernel
theorem dX11_round_81 : decode (mc mX11_round) 81 = .ok (.iaload, 1) := by decide +kernel
theorem dX11_round_82 : decode (mc mX11_round) 82 = .ok (.iload_n 2, 1) := by decide +kernel
theorem dX11_round_83 : decode (mc mX11_round) 83 = .ok (.invokevirtual 258, 3) := by decide +kernel
theorem dX11_round_86 : decode (mc mX11_round) 86 = .ok (.isub, 1) := by decide +kernel
theorem dX11_round_87 : decode (mc mX11_round) 87 = .ok (.iastore, 1) := by decide +kernel
theorem dX11_round_88 : decode (mc mX11_round) 88 = .ok (.iinc 3 1, 3) := by decide +kernel
theorem dX11_round_91 : decode (mc mX11_round) 91 = .ok (.goto (-34), 3) := by decide +kernel
theorem dX11_round_94 : decode (mc mX11_round) 94 = .ok (.iinc 2 1, 3) := by decide +kernel
theorem dX11_round_97 : decode (mc mX11_round) 97 = .ok (.goto (-66), 3) := by decide +kernel
theorem dX11_round_100 : decode (mc mX11_round) 100 = .ok (.iconst 0, 1) := by decide +kernel
theorem dX11_round_101 : decode (mc mX11_round) 101 = .ok (.istore_n 2, 1) := by decide +kernel
theorem dX11_round_102 : decode (mc mX11_round) 102 = .ok (.iload_n 2, 1) := by decide +kernel
theorem dX11_round_103 : decode (mc mX11_round) 103 = .ok (.aload_n 0, 1) := by decide +kernel
theorem dX11_round_104 : decode (mc mX11_round) 104 = .ok (.getfield 9, 3) := by decide +kernel
theorem dX11_round_107 : decode (mc mX11_round) 107 = .ok (.iconst 0, 1) := by decide +kernel
theorem dX11_round_108 : decode (mc mX11_round) 108 = .ok (.iaload, 1) := by decide +kernel
theorem dX11_round_109 : decode (mc mX11_round) 109 = .ok (.if_icmp .ge 64, 3) := by decide +kernel
theorem dX11_round_112 : decode (mc mX11_round) 112 = .ok (.aload_n 0, 1) := by decide +kernel
theorem dX11_round_113 : decode (mc mX11_round) 113 = .ok (.getfield 9, 3) := by decide +kernel
theorem dX11_round_116 : decode (mc mX11_round) 116 = .ok (.bipush 14, 2) := by decide +kernel
theorem dX11_round_118 : decode (mc mX11_round) 118 = .ok (.iload_n 2, 1) := by decide +kernel
theorem dX11_round_119 : decode (mc mX11_round) 119 = .ok (.iadd, 1) := by decide +kernel
theorem dX11_round_120 : decode (mc mX11_round) 120 = .ok (.iaload, 1) := by decide +kernel
theorem dX11_round_121 : decode (mc mX11_round) 121 = .ok (.aload_n 0, 1) := by decide +kernel
theorem dX11_round_122 : decode (mc mX11_round) 122 = .ok (.getfield 47, 3) := by decide +kernel
theorem dX11_round_125 : decode (mc mX11_round) 125 = .ok (.iload_n 2, 1) := by decide +kernel
theorem dX11_round_126 : decode (mc mX11_round) 126 = .ok (.iaload, 1) := by decide +kernel
theorem dX11_round_127 : decode (mc mX11_round) 127 = .ok (.aload_n 0, 1) := by decide +kernel
theorem dX11_round_128 : decode (mc mX11_round) 128 = .ok (.getfield 9, 3) := by decide +kernel
theorem dX11_round_131 : decode (mc mX11_round) 131 = .ok (.iconst 2, 1) := by decide +kernel
theorem dX11_round_132 : decode (mc mX11_round) 132 = .ok (.iaload, 1) := by decide +kernel
theorem dX11_round_133 : decode (mc mX11_round) 133 = .ok (.imul, 1) := by decide +kernel
theorem dX11_round_134 : decode (mc mX11_round) 134 = .ok (.iload_n 1, 1) := by decide +kernel
theorem dX11_round_135 : decode (mc mX11_round) 135 = .ok (.idiv, 1) := by decide +kernel
theorem dX11_round_136 : decode (mc mX11_round) 136 = .ok (.iadd, 1) := by decide +kernel
theorem dX11_round_137 : decode (mc mX11_round) 137 = .ok (.istore_n 3, 1) := by decide +kernel
theorem dX11_round_138 : decode (mc mX11_round) 138 = .ok (.aload_n 0, 1) := by decide +kernel
theorem dX11_round_139 : decode (mc mX11_round) 139 = .ok (.getfield 9, 3) := by decide +kernel
theorem dX11_round_142 : decode (mc mX11_round) 142 = .ok (.bipush 14, 2) := by decide +kernel
theorem dX11_round_144 : decode (mc mX11_round) 144 = .ok (.iload_n 2, 1) := by decide +kernel
theorem dX11_round_145 : decode (mc mX11_round) 145 = .ok (.iadd, 1) := by decide +kernel
theorem dX11_round_146 : decode (mc mX11_round) 146 = .ok (.iload_n 3, 1) := by decide +kernel
theorem dX11_round_147 : decode (mc mX11_round) 147 = .ok (.ifCond .ge 7, 3) := by decide +kernel
theorem dX11_round_150 : decode (mc mX11_round) 150 = .ok (.iconst 0, 1) := by decide +kernel
theorem dX11_round_151 : decode (mc mX11_round) 151 = .ok (.goto 15, 3) := by decide +kernel
theorem dX11_round_154 : decode (mc mX11_round) 154 = .ok (.iload_n 3, 1) := by decide +kernel
theorem dX11_round_155 : decode (mc mX11_round) 155 = .ok (.bipush 99, 2) := by decide +kernel
theorem dX11_round_157 : decode (mc mX11_round) 157 = .ok (.if_icmp .le 8, 3) := by decide +kernel
theorem dX11_round_160 : decode (mc mX11_round) 160 = .ok (.bipush 99, 2) := by decide +kernel
theorem dX11_round_162 : decode (mc mX11_round) 162 = .ok (.goto 4, 3) := by decide +kernel
theorem dX11_round_165 : decode (mc mX11_round) 165 = .ok (.iload_n 3, 1) := by decide +kernel
theorem dX11_round_166 : decode (mc mX11_round) 166 = .ok (.iastore, 1) := by decide +kernel
theorem dX11_round_167 : decode (mc mX11_round) 167 = .ok (.iinc 2 1, 3) := by decide +kernel
theorem dX11_round_170 : decode (mc mX11_round) 170 = .ok (.goto (-68), 3) := by decide +kernel
theorem dX11_round_173 : decode (mc mX11_round) 173 = .ok (.return_, 1) := by decide +kernel
theorem dX11_rounds_0 : decode (mc mX11_rounds) 0 = .ok (.iload_n 1, 1) := by decide +kernel
theorem dX11_rounds_1 : decode (mc mX11_rounds) 1 = .ok (.iconst 0, 1) := by decide +kernel
theorem dX11_rounds_2 : decode (mc mX11_rounds) 2 = .ok (.bipush 20, 2) := by decide +kernel
theorem dX11_rounds_4 : decode (mc mX11_rounds) 4 = .ok (.invokestatic 93, 3) := by decide +kernel
theorem dX11_rounds_7 : decode (mc mX11_rounds) 7 = .ok (.istore_n 3, 1) := by decide +kernel
theorem dX11_rounds_8 : decode (mc mX11_rounds) 8 = .ok (.iload_n 3, 1) := by decide +kernel
theorem dX11_rounds_9 : decode (mc mX11_rounds) 9 = .ok (.ifCond .ne 18, 3) := by decide +kernel
theorem dX11_rounds_12 : decode (mc mX11_rounds) 12 = .ok (.iload_n 2, 1) := by decide +kernel
theorem dX11_rounds_13 : decode (mc mX11_rounds) 13 = .ok (.iconst (-1), 1) := by decide +kernel
theorem dX11_rounds_14 : decode (mc mX11_rounds) 14 = .ok (.if_icmp .eq 13, 3) := by decide +kernel
theorem dX11_rounds_17 : decode (mc mX11_rounds) 17 = .ok (.aload_n 0, 1) := by decide +kernel
theorem dX11_rounds_18 : decode (mc mX11_rounds) 18 = .ok (.iload_n 2, 1) := by decide +kernel
theorem dX11_rounds_19 : decode (mc mX11_rounds) 19 = .ok (.invokevirtual 100, 3) := by decide +kernel
theorem dX11_rounds_22 : decode (mc mX11_rounds) 22 = .ok (.ifCond .ne 5, 3) := by decide +kernel
theorem dX11_rounds_25 : decode (mc mX11_rounds) 25 = .ok (.iconst (-1), 1) := by decide +kernel
theorem dX11_rounds_26 : decode (mc mX11_rounds) 26 = .ok (.istore_n 3, 1) := by decide +kernel
theorem dX11_rounds_27 : decode (mc mX11_rounds) 27 = .ok (.iload_n 3, 1) := by decide +kernel
theorem dX11_rounds_28 : decode (mc mX11_rounds) 28 = .ok (.ifCond .eq 9, 3) := by decide +kernel
theorem dX11_rounds_31 : decode (mc mX11_rounds) 31 = .ok (.aload_n 0, 1) := by decide +kernel
theorem dX11_rounds_32 : decode (mc mX11_rounds) 32 = .ok (.iload_n 3, 1) := by decide +kernel
theorem dX11_rounds_33 : decode (mc mX11_rounds) 33 = .ok (.invokevirtual 230, 3) := by decide +kernel
theorem dX11_rounds_36 : decode (mc mX11_rounds) 36 = .ok (.lreturn, 1) := by decide +kernel
theorem dX11_rounds_37 : decode (mc mX11_rounds) 37 = .ok (.aload_n 0, 1) := by decide +kernel
theorem dX11_rounds_38 : decode (mc mX11_rounds) 38 = .ok (.invokevirtual 261, 3) := by decide +kernel
theorem dX11_rounds_41 : decode (mc mX11_rounds) 41 = .ok (.aload_n 0, 1) := by decide +kernel
theorem dX11_rounds_42 : decode (mc mX11_rounds) 42 = .ok (.invokevirtual 264, 3) := by decide +kernel
theorem dX11_rounds_45 : decode (mc mX11_rounds) 45 = .ok (.istore 4, 2) := by decide +kernel
theorem dX11_rounds_47 : decode (mc mX11_rounds) 47 = .ok (.iconst 1, 1) := by decide +kernel
theorem dX11_rounds_48 : decode (mc mX11_rounds) 48 = .ok (.istore 5, 2) := by decide +kernel
theorem dX11_rounds_50 : decode (mc mX11_rounds) 50 = .ok (.iload 5, 2) := by decide +kernel
theorem dX11_rounds_52 : decode (mc mX11_rounds) 52 = .ok (.iload_n 1, 1) := by decide +kernel
theorem dX11_rounds_53 : decode (mc mX11_rounds) 53 = .ok (.if_icmp .gt 26, 3) := by decide +kernel
theorem dX11_rounds_56 : decode (mc mX11_rounds) 56 = .ok (.aload_n 0, 1) := by decide +kernel
theorem dX11_rounds_57 : decode (mc mX11_rounds) 57 = .ok (.iload 5, 2) := by decide +kernel
theorem dX11_rounds_59 : decode (mc mX11_rounds) 59 = .ok (.invokevirtual 267, 3) := by decide +kernel
theorem dX11_rounds_62 : decode (mc mX11_rounds) 62 = .ok (.iload 4, 2) := by decide +kernel
theorem dX11_rounds_64 : decode (mc mX11_rounds) 64 = .ok (.aload_n 0, 1) := by decide +kernel
theorem dX11_rounds_65 : decode (mc mX11_rounds) 65 = .ok (.invokevirtual 264, 3) := by decide +kernel
theorem dX11_rounds_68 : decode (mc mX11_rounds) 68 = .ok (.invokestatic 270, 3) := by decide +kernel
theorem dX11_rounds_71 : decode (mc mX11_rounds) 71 = .ok (.istore 4, 2) := by decide +kernel
theorem dX11_rounds_73 : decode (mc mX11_rounds) 73 = .ok (.iinc 5 1, 3) := by decide +kernel
theorem dX11_rounds_76 : decode (mc mX11_rounds) 76 = .ok (.goto (-26), 3) := by decide +kernel
theorem dX11_rounds_79 : decode (mc mX11_rounds) 79 = .ok (.iload_n 2, 1) := by decide +kernel
theorem dX11_rounds_80 : decode (mc mX11_rounds) 80 = .ok (.iconst (-1), 1) := by decide +kernel
theorem dX11_rounds_81 : decode (mc mX11_rounds) 81 = .ok (.if_icmp .ne 8, 3) := by decide +kernel
theorem dX11_rounds_84 : decode (mc mX11_rounds) 84 = .ok (.iload 4, 2) := by decide +kernel
theorem dX11_rounds_86 : decode (mc mX11_rounds) 86 = .ok (.goto 12, 3) := by decide +kernel
theorem dX11_rounds_89 : decode (mc mX11_rounds) 89 = .ok (.aload_n 0, 1) := by decide +kernel
theorem dX11_rounds_90 : decode (mc mX11_rounds) 90 = .ok (.getfield 9, 3) := by decide +kernel
theorem dX11_rounds_93 : decode (mc mX11_rounds) 93 = .ok (.bipush 14, 2) := by decide +kernel
theorem dX11_rounds_95 : decode (mc mX11_rounds) 95 = .ok (.iload_n 2, 1) := by decide +kernel
theorem dX11_rounds_96 : decode (mc mX11_rounds) 96 = .ok (.iadd, 1) := by decide +kernel
theorem dX11_rounds_97 : decode (mc mX11_rounds) 97 = .ok (.iaload, 1) := by decide +kernel
theorem dX11_rounds_98 : decode (mc mX11_rounds) 98 = .ok (.istore 5, 2) := by decide +kernel
theorem dX11_rounds_100 : decode (mc mX11_rounds) 100 = .ok (.aload_n 0, 1) := by decide +kernel
theorem dX11_rounds_101 : decode (mc mX11_rounds) 101 = .ok (.invokevirtual 273, 3) := by decide +kernel
theorem dX11_rounds_104 : decode (mc mX11_rounds) 104 = .ok (.iload 5, 2) := by decide +kernel
theorem dX11_rounds_106 : decode (mc mX11_rounds) 106 = .ok (.i2l, 1) := by decide +kernel
theorem dX11_rounds_107 : decode (mc mX11_rounds) 107 = .ok (.lreturn, 1) := by decide +kernel
theorem dX11_goes_0 : decode (mc mX11_goes) 0 = .ok (.iload_n 1, 1) := by decide +kernel
theorem dX11_goes_1 : decode (mc mX11_goes) 1 = .ok (.iconst 0, 1) := by decide +kernel
theorem dX11_goes_2 : decode (mc mX11_goes) 2 = .ok (.bipush 20, 2) := by decide +kernel
theorem dX11_goes_4 : decode (mc mX11_goes) 4 = .ok (.invokestatic 93, 3) := by decide +kernel
theorem dX11_goes_7 : decode (mc mX11_goes) 7 = .ok (.istore_n 2, 1) := by decide +kernel
theorem dX11_goes_8 : decode (mc mX11_goes) 8 = .ok (.iload_n 2, 1) := by decide +kernel
theorem dX11_goes_9 : decode (mc mX11_goes) 9 = .ok (.ifCond .eq 9, 3) := by decide +kernel
theorem dX11_goes_12 : decode (mc mX11_goes) 12 = .ok (.aload_n 0, 1) := by decide +kernel
theorem dX11_goes_13 : decode (mc mX11_goes) 13 = .ok (.iload_n 2, 1) := by decide +kernel
theorem dX11_goes_14 : decode (mc mX11_goes) 14 = .ok (.invokevirtual 79, 3) := by decide +kernel
theorem dX11_goes_17 : decode (mc mX11_goes) 17 = .ok (.ireturn, 1) := by decide +kernel
theorem dX11_goes_18 : decode (mc mX11_goes) 18 = .ok (.aload_n 0, 1) := by decide +kernel
theorem dX11_goes_19 : decode (mc mX11_goes) 19 = .ok (.invokevirtual 261, 3) := by decide +kernel
theorem dX11_goes_22 : decode (mc mX11_goes) 22 = .ok (.iconst 1, 1) := by decide +kernel
theorem dX11_goes_23 : decode (mc mX11_goes) 23 = .ok (.istore_n 3, 1) := by decide +kernel
theorem dX11_goes_24 : decode (mc mX11_goes) 24 = .ok (.iload_n 3, 1) := by decide +kernel
theorem dX11_goes_25 : decode (mc mX11_goes) 25 = .ok (.iload_n 1, 1) := by decide +kernel
theorem dX11_goes_26 : decode (mc mX11_goes) 26 = .ok (.if_icmp .gt 14, 3) := by decide +kernel
theorem dX11_goes_29 : decode (mc mX11_goes) 29 = .ok (.aload_n 0, 1) := by decide +kernel
theorem dX11_goes_30 : decode (mc mX11_goes) 30 = .ok (.iload_n 3, 1) := by decide +kernel
theorem dX11_goes_31 : decode (mc mX11_goes) 31 = .ok (.invokevirtual 267, 3) := by decide +kernel
theorem dX11_goes_34 : decode (mc mX11_goes) 34 = .ok (.iinc 3 1, 3) := by decide +kernel
theorem dX11_goes_37 : decode (mc mX11_goes) 37 = .ok (.goto (-13), 3) := by decide +kernel
theorem dX11_goes_40 : decode (mc mX11_goes) 40 = .ok (.iconst 0, 1) := by decide +kernel
theorem dX11_goes_41 : decode (mc mX11_goes) 41 = .ok (.istore_n 3, 1) := by decide +kernel
theorem dX11_goes_42 : decode (mc mX11_goes) 42 = .ok (.iconst 0, 1) := by decide +kernel
theorem dX11_goes_43 : decode (mc mX11_goes) 43 = .ok (.istore 4, 2) := by decide +kernel
theorem dX11_goes_45 : decode (mc mX11_goes) 45 = .ok (.iload 4, 2) := by decide +kernel
theorem dX11_goes_47 : decode (mc mX11_goes) 47 = .ok (.aload_n 0, 1) := by decide +kernel
theorem dX11_goes_48 : decode (mc mX11_goes) 48 = .ok (.getfield 9, 3) := by decide +kernel
theorem dX11_goes_51 : decode (mc mX11_goes) 51 = .ok (.iconst 0, 1) := by decide +kernel
theorem dX11_goes_52 : decode (mc mX11_goes) 52 = .ok (.iaload, 1) := by decide +kernel
theorem dX11_goes_53 : decode (mc mX11_goes) 53 = .ok (.if_icmp .ge 40, 3) := by decide +kernel
theorem dX11_goes_56 : decode (mc mX11_goes) 56 = .ok (.iload_n 3, 1) := by decide +kernel
theorem dX11_goes_57 : decode (mc mX11_goes) 57 = .ok (.aload_n 0, 1) := by decide +kernel
theorem dX11_goes_58 : decode (mc mX11_goes) 58 = .ok (.getfield 9, 3) := by decide +kernel
theorem dX11_goes_61 : decode (mc mX11_goes) 61 = .ok (.bipush 14, 2) := by decide +kernel
theorem dX11_goes_63 : decode (mc mX11_goes) 63 = .ok (.iload 4, 2) := by decide +kernel
theorem dX11_goes_65 : decode (mc mX11_goes) 65 = .ok (.iadd, 1) := by decide +kernel
theorem dX11_goes_66 : decode (mc mX11_goes) 66 = .ok (.iaload, 1) := by decide +kernel
theorem dX11_goes_67 : decode (mc mX11_goes) 67 = .ok (.aload_n 0, 1) := by decide +kernel
theorem dX11_goes_68 : decode (mc mX11_goes) 68 = .ok (.getfield 13, 3) := by decide +kernel
theorem dX11_goes_71 : decode (mc mX11_goes) 71 = .ok (.bipush 14, 2) := by decide +kernel
theorem dX11_goes_73 : decode (mc mX11_goes) 73 = .ok (.iload 4, 2) := by decide +kernel
theorem dX11_goes_75 : decode (mc mX11_goes) 75 = .ok (.iadd, 1) := by decide +kernel
theorem dX11_goes_76 : decode (mc mX11_goes) 76 = .ok (.iaload, 1) := by decide +kernel
theorem dX11_goes_77 : decode (mc mX11_goes) 77 = .ok (.if_icmp .ne 7, 3) := by decide +kernel
theorem dX11_goes_80 : decode (mc mX11_goes) 80 = .ok (.iconst 0, 1) := by decide +kernel
theorem dX11_goes_81 : decode (mc mX11_goes) 81 = .ok (.goto 4, 3) := by decide +kernel
theorem dX11_goes_84 : decode (mc mX11_goes) 84 = .ok (.iconst 1, 1) := by decide +kernel
theorem dX11_goes_85 : decode (mc mX11_goes) 85 = .ok (.iadd, 1) := by decide +kernel
theorem dX11_goes_86 : decode (mc mX11_goes) 86 = .ok (.istore_n 3, 1) := by decide +kernel
theorem dX11_goes_87 : decode (mc mX11_goes) 87 = .ok (.iinc 4 1, 3) := by decide +kernel
theorem dX11_goes_90 : decode (mc mX11_goes) 90 = .ok (.goto (-45), 3) := by decide +kernel
theorem dX11_goes_93 : decode (mc mX11_goes) 93 = .ok (.iload_n 3, 1) := by decide +kernel
theorem dX11_goes_94 : decode (mc mX11_goes) 94 = .ok (.ireturn, 1) := by decide +kernel
theorem dX11_mayAll_0 : decode (mc mX11_mayAll) 0 = .ok (.iconst 1, 1) := by decide +kernel
theorem dX11_mayAll_1 : decode (mc mX11_mayAll) 1 = .ok (.istore_n 2, 1) := by decide +kernel
theorem dX11_mayAll_2 : decode (mc mX11_mayAll) 2 = .ok (.iconst 0, 1) := by decide +kernel
theorem dX11_mayAll_3 : decode (mc mX11_mayAll) 3 = .ok (.istore_n 3, 1) := by decide +kernel
theorem dX11_mayAll_4 : decode (mc mX11_mayAll) 4 = .ok (.iload_n 3, 1) := by decide +kernel
theorem dX11_mayAll_5 : decode (mc mX11_mayAll) 5 = .ok (.aload_n 0, 1) := by decide +kernel
theorem dX11_mayAll_6 : decode (mc mX11_mayAll) 6 = .ok (.getfield 9, 3) := by decide +kernel
theorem dX11_mayAll_9 : decode (mc mX11_mayAll) 9 = .ok (.iconst 3, 1) := by decide +kernel
theorem dX11_mayAll_10 : decode (mc mX11_mayAll) 10 = .ok (.iaload, 1) := by decide +kernel
theorem dX11_mayAll_11 : decode (mc mX11_mayAll) 11 = .ok (.if_icmp .ge 38, 3) := by decide +kernel
theorem dX11_mayAll_14 : decode (mc mX11_mayAll) 14 = .ok (.iload_n 2, 1) := by decide +kernel
theorem dX11_mayAll_15 : decode (mc mX11_mayAll) 15 = .ok (.ifCond .eq 26, 3) := by decide +kernel
theorem dX11_mayAll_18 : decode (mc mX11_mayAll) 18 = .ok (.aload_n 0, 1) := by decide +kernel
theorem dX11_mayAll_19 : decode (mc mX11_mayAll) 19 = .ok (.iload_n 3, 1) := by decide +kernel
theorem dX11_mayAll_20 : decode (mc mX11_mayAll) 20 = .ok (.aload_n 0, 1) := by decide +kernel
theorem dX11_mayAll_21 : decode (mc mX11_mayAll) 21 = .ok (.getfield 50, 3) := by decide +kernel
theorem dX11_mayAll_24 : decode (mc mX11_mayAll) 24 = .ok (.iload_n 3, 1) := by decide +kernel
theorem dX11_mayAll_25 : decode (mc mX11_mayAll) 25 = .ok (.iaload, 1) := by decide +kernel
theorem dX11_mayAll_26 : decode (mc mX11_mayAll) 26 = .ok (.iload_n 1, 1) := by decide +kernel
theorem dX11_mayAll_27 : decode (mc mX11_mayAll) 27 = .ok (.iload_n 3, 1) := by decide +kernel
theorem dX11_mayAll_28 : decode (mc mX11_mayAll) 28 = .ok (.invokestatic 165, 3) := by decide +kernel
theorem dX11_mayAll_31 : decode (mc mX11_mayAll) 31 = .ok (.invokevirtual 169, 3) := by decide +kernel
theorem dX11_mayAll_34 : decode (mc mX11_mayAll) 34 = .ok (.ifCond .eq 7, 3) := by decide +kernel
theorem dX11_mayAll_37 : decode (mc mX11_mayAll) 37 = .ok (.iconst 1, 1) := by decide +kernel
theorem dX11_mayAll_38 : decode (mc mX11_mayAll) 38 = .ok (.goto 4, 3) := by decide +kernel
theorem dX11_mayAll_41 : decode (mc mX11_mayAll) 41 = .ok (.iconst 0, 1) := by decide +kernel
theorem dX11_mayAll_42 : decode (mc mX11_mayAll) 42 = .ok (.istore_n 2, 1) := by decide +kernel
theorem dX11_mayAll_43 : decode (mc mX11_mayAll) 43 = .ok (.iinc 3 1, 3) := by decide +kernel
theorem dX11_mayAll_46 : decode (mc mX11_mayAll) 46 = .ok (.goto (-42), 3) := by decide +kernel
theorem dX11_mayAll_49 : decode (mc mX11_mayAll) 49 = .ok (.iload_n 2, 1) := by decide +kernel
theorem dX11_mayAll_50 : decode (mc mX11_mayAll) 50 = .ok (.ireturn, 1) := by decide +kernel
theorem dX11_freshIn_0 : decode (mc mX11_freshIn) 0 = .ok (.iconst 0, 1) := by decide +kernel
theorem dX11_freshIn_1 : decode (mc mX11_freshIn) 1 = .ok (.istore_n 2, 1) := by decide +kernel
theorem dX11_freshIn_2 : decode (mc mX11_freshIn) 2 = .ok (.iconst 0, 1) := by decide +kernel
theorem dX11_freshIn_3 : decode (mc mX11_freshIn) 3 = .ok (.istore_n 3, 1) := by decide +kernel
theorem dX11_freshIn_4 : decode (mc mX11_freshIn) 4 = .ok (.iload_n 3, 1) := by decide +kernel
theorem dX11_freshIn_5 : decode (mc mX11_freshIn) 5 = .ok (.aload_n 0, 1) := by decide +kernel
theorem dX11_freshIn_6 : decode (mc mX11_freshIn) 6 = .ok (.getfield 9, 3) := by decide +kernel
theorem dX11_freshIn_9 : decode (mc mX11_freshIn) 9 = .ok (.iconst 3, 1) := by decide +kernel
theorem dX11_freshIn_10 : decode (mc mX11_freshIn) 10 = .ok (.iaload, 1) := by decide +kernel
theorem dX11_freshIn_11 : decode (mc mX11_freshIn) 11 = .ok (.if_icmp .ge 36, 3) := by decide +kernel
theorem dX11_freshIn_14 : decode (mc mX11_freshIn) 14 = .ok (.iload_n 2, 1) := by decide +kernel
theorem dX11_freshIn_15 : decode (mc mX11_freshIn) 15 = .ok (.iload_n 1, 1) := by decide +kernel
theorem dX11_freshIn_16 : decode (mc mX11_freshIn) 16 = .ok (.iload_n 3, 1) := by decide +kernel
theorem dX11_freshIn_17 : decode (mc mX11_freshIn) 17 = .ok (.invokestatic 165, 3) := by decide +kernel
theorem dX11_freshIn_20 : decode (mc mX11_freshIn) 20 = .ok (.ifCond .eq 18, 3) := by decide +kernel
theorem dX11_freshIn_23 : decode (mc mX11_freshIn) 23 = .ok (.aload_n 0, 1) := by decide +kernel
theorem dX11_freshIn_24 : decode (mc mX11_freshIn) 24 = .ok (.getfield 50, 3) := by decide +kernel
theorem dX11_freshIn_27 : decode (mc mX11_freshIn) 27 = .ok (.iload_n 3, 1) := by decide +kernel
theorem dX11_freshIn_28 : decode (mc mX11_freshIn) 28 = .ok (.iaload, 1) := by decide +kernel
theorem dX11_freshIn_29 : decode (mc mX11_freshIn) 29 = .ok (.ifCond .ge 9, 3) := by decide +kernel
theorem dX11_freshIn_32 : decode (mc mX11_freshIn) 32 = .ok (.iconst 1, 1) := by decide +kernel
theorem dX11_freshIn_33 : decode (mc mX11_freshIn) 33 = .ok (.iload_n 3, 1) := by decide +kernel
theorem dX11_freshIn_34 : decode (mc mX11_freshIn) 34 = .ok (.ishl, 1) := by decide +kernel
theorem dX11_freshIn_35 : decode (mc mX11_freshIn) 35 = .ok (.goto 4, 3) := by decide +kernel
theorem dX11_freshIn_38 : decode (mc mX11_freshIn) 38 = .ok (.iconst 0, 1) := by decide +kernel
theorem dX11_freshIn_39 : decode (mc mX11_freshIn) 39 = .ok (.ior, 1) := by decide +kernel
theorem dX11_freshIn_40 : decode (mc mX11_freshIn) 40 = .ok (.istore_n 2, 1) := by decide +kernel
theorem dX11_freshIn_41 : decode (mc mX11_freshIn) 41 = .ok (.iinc 3 1, 3) := by decide +kernel
theorem dX11_freshIn_44 : decode (mc mX11_freshIn) 44 = .ok (.goto (-40), 3) := by decide +kernel
theorem dX11_freshIn_47 : decode (mc mX11_freshIn) 47 = .ok (.iload_n 2, 1) := by decide +kernel
theorem dX11_freshIn_48 : decode (mc mX11_freshIn) 48 = .ok (.ireturn, 1) := by decide +kernel
theorem dX11_withStarts_0 : decode (mc mX11_withStarts) 0 = .ok (.aload_n 0, 1) := by decide +kernel
theorem dX11_withStarts_1 : decode (mc mX11_withStarts) 1 = .ok (.iload_n 1, 1) := by decide +kernel
theorem dX11_withStarts_2 : decode (mc mX11_withStarts) 2 = .ok (.iload_n 2, 1) := by decide +kernel
theorem dX11_withStarts_3 : decode (mc mX11_withStarts) 3 = .ok (.aload_n 0, 1) := by decide +kernel
theorem dX11_withStarts_4 : decode (mc mX11_withStarts) 4 = .ok (.iload_n 2, 1) := by decide +kernel
theorem dX11_withStarts_5 : decode (mc mX11_withStarts) 5 = .ok (.invokevirtual 276, 3) := by decide +kernel
theorem dX11_withStarts_8 : decode (mc mX11_withStarts) 8 = .ok (.invokevirtual 196, 3) := by decide +kernel
theorem dX11_withStarts_11 : decode (mc mX11_withStarts) 11 = .ok (.istore_n 3, 1) := by decide +kernel
theorem dX11_withStarts_12 : decode (mc mX11_withStarts) 12 = .ok (.iconst 0, 1) := by decide +kernel
theorem dX11_withStarts_13 : decode (mc mX11_withStarts) 13 = .ok (.istore 4, 2) := by decide +kernel
theorem dX11_withStarts_15 : decode (mc mX11_withStarts) 15 = .ok (.iload 4, 2) := by decide +kernel
theorem dX11_withStarts_17 : decode (mc mX11_withStarts) 17 = .ok (.aload_n 0, 1) := by decide +kernel
theorem dX11_withStarts_18 : decode (mc mX11_withStarts) 18 = .ok (.getfield 9, 3) := by decide +kernel
theorem dX11_withStarts_21 : decode (mc mX11_withStarts) 21 = .ok (.iconst 3, 1) := by decide +kernel
theorem dX11_withStarts_22 : decode (mc mX11_withStarts) 22 = .ok (.iaload, 1) := by decide +kernel
theorem dX11_withStarts_23 : decode (mc mX11_withStarts) 23 = .ok (.if_icmp .ge 55, 3) := by decide +kernel
theorem dX11_withStarts_26 : decode (mc mX11_withStarts) 26 = .ok (.iload_n 3, 1) := by decide +kernel
theorem dX11_withStarts_27 : decode (mc mX11_withStarts) 27 = .ok (.ldc 189, 2) := by decide +kernel
theorem dX11_withStarts_29 : decode (mc mX11_withStarts) 29 = .ok (.if_icmp .ge 49, 3) := by decide +kernel
theorem dX11_withStarts_32 : decode (mc mX11_withStarts) 32 = .ok (.iload_n 3, 1) := by decide +kernel
theorem dX11_withStarts_33 : decode (mc mX11_withStarts) 33 = .ok (.iload_n 2, 1) := by decide +kernel
theorem dX11_withStarts_34 : decode (mc mX11_withStarts) 34 = .ok (.iload 4, 2) := by decide +kernel
theorem dX11_withStarts_36 : decode (mc mX11_withStarts) 36 = .ok (.invokestatic 165, 3) := by decide +kernel
theorem dX11_withStarts_39 : decode (mc mX11_withStarts) 39 = .ok (.ifCond .eq 30, 3) := by decide +kernel
theorem dX11_withStarts_42 : decode (mc mX11_withStarts) 42 = .ok (.aload_n 0, 1) := by decide +kernel
theorem dX11_withStarts_43 : decode (mc mX11_withStarts) 43 = .ok (.getfield 50, 3) := by decide +kernel
theorem dX11_withStarts_46 : decode (mc mX11_withStarts) 46 = .ok (.iload 4, 2) := by decide +kernel
theorem dX11_withStarts_48 : decode (mc mX11_withStarts) 48 = .ok (.iaload, 1) := by decide +kernel
theorem dX11_withStarts_49 : decode (mc mX11_withStarts) 49 = .ok (.ifCond .ge 20, 3) := by decide +kernel
theorem dX11_withStarts_52 : decode (mc mX11_withStarts) 52 = .ok (.aload_n 0, 1) := by decide +kernel
theorem dX11_withStarts_53 : decode (mc mX11_withStarts) 53 = .ok (.iload 4, 2) := by decide +kernel
theorem dX11_withStarts_55 : decode (mc mX11_withStarts) 55 = .ok (.aload_n 0, 1) := by decide +kernel
theorem dX11_withStarts_56 : decode (mc mX11_withStarts) 56 = .ok (.getfield 50, 3) := by decide +kernel
theorem dX11_withStarts_59 : decode (mc mX11_withStarts) 59 = .ok (.iload 4, 2) := by decide +kernel
theorem dX11_withStarts_61 : decode (mc mX11_withStarts) 61 = .ok (.iaload, 1) := by decide +kernel
theorem dX11_withStarts_62 : decode (mc mX11_withStarts) 62 = .ok (.ineg, 1) := by decide +kernel
theorem dX11_withStarts_63 : decode (mc mX11_withStarts) 63 = .ok (.invokevirtual 162, 3) := by decide +kernel
theorem dX11_withStarts_66 : decode (mc mX11_withStarts) 66 = .ok (.goto 4, 3) := by decide +kernel
theorem dX11_withStarts_69 : decode (mc mX11_withStarts) 69 = .ok (.iconst 0, 1) := by decide +kernel
theorem dX11_withStarts_70 : decode (mc mX11_withStarts) 70 = .ok (.iadd, 1) := by decide +kernel
theorem dX11_withStarts_71 : decode (mc mX11_withStarts) 71 = .ok (.istore_n 3, 1) := by decide +kernel
theorem dX11_withStarts_72 : decode (mc mX11_withStarts) 72 = .ok (.iinc 4 1, 3) := by decide +kernel
theorem dX11_withStarts_75 : decode (mc mX11_withStarts) 75 = .ok (.goto (-60), 3) := by decide +kernel
theorem dX11_withStarts_78 : decode (mc mX11_withStarts) 78 = .ok (.iload_n 3, 1) := by decide +kernel
theorem dX11_withStarts_79 : decode (mc mX11_withStarts) 79 = .ok (.ireturn, 1) := by decide +kernel
theorem dX11_unlikeIn_0 : decode (mc mX11_unlikeIn) 0 = .ok (.iconst 0, 1) := by decide +kernel
theorem dX11_unlikeIn_1 : decode (mc mX11_unlikeIn) 1 = .ok (.istore_n 3, 1) := by decide +kernel
theorem dX11_unlikeIn_2 : decode (mc mX11_unlikeIn) 2 = .ok (.iconst 0, 1) := by decide +kernel
theorem dX11_unlikeIn_3 : decode (mc mX11_unlikeIn) 3 = .ok (.istore 4, 2) := by decide +kernel
theorem dX11_unlikeIn_5 : decode (mc mX11_unlikeIn) 5 = .ok (.iload 4, 2) := by decide +kernel
theorem dX11_unlikeIn_7 : decode (mc mX11_unlikeIn) 7 = .ok (.aload_n 0, 1) := by decide +kernel
theorem dX11_unlikeIn_8 : decode (mc mX11_unlikeIn) 8 = .ok (.getfield 9, 3) := by decide +kernel
theorem dX11_unlikeIn_11 : decode (mc mX11_unlikeIn) 11 = .ok (.iconst 3, 1) := by decide +kernel
theorem dX11_unlikeIn_12 : decode (mc mX11_unlikeIn) 12 = .ok (.iaload, 1) := by decide +kernel
theorem dX11_unlikeIn_13 : decode (mc mX11_unlikeIn) 13 = .ok (.if_icmp .ge 37, 3) := by decide +kernel
theorem dX11_unlikeIn_16 : decode (mc mX11_unlikeIn) 16 = .ok (.iload_n 3, 1) := by decide +kernel
theorem dX11_unlikeIn_17 : decode (mc mX11_unlikeIn) 17 = .ok (.iload_n 2, 1) := by decide +kernel
theorem dX11_unlikeIn_18 : decode (mc mX11_unlikeIn) 18 = .ok (.iload 4, 2) := by decide +kernel
theorem dX11_unlikeIn_20 : decode (mc mX11_unlikeIn) 20 = .ok (.invokestatic 165, 3) := by decide +kernel
theorem dX11_unlikeIn_23 : decode (mc mX11_unlikeIn) 23 = .ok (.aload_n 0, 1) := by decide +kernel
theorem dX11_unlikeIn_24 : decode (mc mX11_unlikeIn) 24 = .ok (.getfield 44, 3) := by decide +kernel
theorem dX11_unlikeIn_27 : decode (mc mX11_unlikeIn) 27 = .ok (.iload 4, 2) := by decide +kernel
theorem dX11_unlikeIn_29 : decode (mc mX11_unlikeIn) 29 = .ok (.iaload, 1) := by decide +kernel
theorem dX11_unlikeIn_30 : decode (mc mX11_unlikeIn) 30 = .ok (.iload_n 1, 1) := by decide +kernel
theorem dX11_unlikeIn_31 : decode (mc mX11_unlikeIn) 31 = .ok (.invokestatic 165, 3) := by decide +kernel
theorem dX11_unlikeIn_34 : decode (mc mX11_unlikeIn) 34 = .ok (.if_icmp .ne 7, 3) := by decide +kernel
theorem dX11_unlikeIn_37 : decode (mc mX11_unlikeIn) 37 = .ok (.iconst 0, 1) := by decide +kernel
theorem dX11_unlikeIn_38 : decode (mc mX11_unlikeIn) 38 = .ok (.goto 4, 3) := by decide +kernel
theorem dX11_unlikeIn_41 : decode (mc mX11_unlikeIn) 41 = .ok (.iconst 1, 1) := by decide +kernel
theorem dX11_unlikeIn_42 : decode (mc mX11_unlikeIn) 42 = .ok (.iadd, 1) := by decide +kernel
theorem dX11_unlikeIn_43 : decode (mc mX11_unlikeIn) 43 = .ok (.istore_n 3, 1) := by decide +kernel
theorem dX11_unlikeIn_44 : decode (mc mX11_unlikeIn) 44 = .ok (.iinc 4 1, 3) := by decide +kernel
theorem dX11_unlikeIn_47 : decode (mc mX11_unlikeIn) 47 = .ok (.goto (-42), 3) := by decide +kernel
theorem dX11_unlikeIn_50 : decode (mc mX11_unlikeIn) 50 = .ok (.iload_n 3, 1) := by decide +kernel
theorem dX11_unlikeIn_51 : decode (mc mX11_unlikeIn) 51 = .ok (.ireturn, 1) := by decide +kernel
theorem dX11_mends_0 : decode (mc mX11_mends) 0 = .ok (.bipush (-9), 2) := by decide +kernel
theorem dX11_mends_2 : decode (mc mX11_mends) 2 = .ok (.istore_n 2, 1) := by decide +kernel
theorem dX11_mends_3 : decode (mc mX11_mends) 3 = .ok (.iconst 0, 1) := by decide +kernel
theorem dX11_mends_4 : decode (mc mX11_mends) 4 = .ok (.istore_n 3, 1) := by decide +kernel
theorem dX11_mends_5 : decode (mc mX11_mends) 5 = .ok (.iconst 0, 1) := by decide +kernel
theorem dX11_mends_6 : decode (mc mX11_mends) 6 = .ok (.istore 4, 2) := by decide +kernel
theorem dX11_mends_8 : decode (mc mX11_mends) 8 = .ok (.iconst 0, 1) := by decide +kernel
theorem dX11_mends_9 : decode (mc mX11_mends) 9 = .ok (.istore 5, 2) := by decide +kernel
theorem dX11_mends_11 : decode (mc mX11_mends) 11 = .ok (.iload 5, 2) := by decide +kernel
theorem dX11_mends_13 : decode (mc mX11_mends) 13 = .ok (.iconst 1, 1) := by decide +kernel
theorem dX11_mends_14 : decode (mc mX11_mends) 14 = .ok (.aload_n 0, 1) := by decide +kernel
theorem dX11_mends_15 : decode (mc mX11_mends) 15 = .ok (.getfield 9, 3) := by decide +kernel
theorem dX11_mends_18 : decode (mc mX11_mends) 18 = .ok (.iconst 3, 1) := by decide +kernel
theorem dX11_mends_19 : decode (mc mX11_mends) 19 = .ok (.iaload, 1) := by decide +kernel
theorem dX11_mends_20 : decode (mc mX11_mends) 20 = .ok (.ishl, 1) := by decide +kernel
theorem dX11_mends_21 : decode (mc mX11_mends) 21 = .ok (.if_icmp .ge 83, 3) := by decide +kernel
theorem dX11_mends_24 : decode (mc mX11_mends) 24 = .ok (.aload_n 0, 1) := by decide +kernel
theorem dX11_mends_25 : decode (mc mX11_mends) 25 = .ok (.iload 5, 2) := by decide +kernel
theorem dX11_mends_27 : decode (mc mX11_mends) 27 = .ok (.invokevirtual 279, 3) := by decide +kernel
theorem dX11_mends_30 : decode (mc mX11_mends) 30 = .ok (.ifCond .eq 13, 3) := by decide +kernel
theorem dX11_mends_33 : decode (mc mX11_mends) 33 = .ok (.aload_n 0, 1) := by decide +kernel
theorem dX11_mends_34 : decode (mc mX11_mends) 34 = .ok (.iload_n 1, 1) := by decide +kernel
theorem dX11_mends_35 : decode (mc mX11_mends) 35 = .ok (.iload 5, 2) := by decide +kernel
theorem dX11_mends_37 : decode (mc mX11_mends) 37 = .ok (.invokevirtual 282, 3) := by decide +kernel
theorem dX11_mends_40 : decode (mc mX11_mends) 40 = .ok (.goto 5, 3) := by decide +kernel
theorem dX11_mends_43 : decode (mc mX11_mends) 43 = .ok (.ldc 189, 2) := by decide +kernel
theorem dX11_mends_45 : decode (mc mX11_mends) 45 = .ok (.istore 6, 2) := by decide +kernel
theorem dX11_mends_47 : decode (mc mX11_mends) 47 = .ok (.aload_n 0, 1) := by decide +kernel
theorem dX11_mends_48 : decode (mc mX11_mends) 48 = .ok (.iload_n 1, 1) := by decide +kernel
theorem dX11_mends_49 : decode (mc mX11_mends) 49 = .ok (.iload 5, 2) := by decide +kernel
theorem dX11_mends_51 : decode (mc mX11_mends) 51 = .ok (.invokevirtual 285, 3) := by decide +kernel
theorem dX11_mends_54 : decode (mc mX11_mends) 54 = .ok (.istore 7, 2) := by decide +kernel
theorem dX11_mends_56 : decode (mc mX11_mends) 56 = .ok (.iload 6, 2) := by decide +kernel
theorem dX11_mends_58 : decode (mc mX11_mends) 58 = .ok (.ldc 189, 2) := by decide +kernel
theorem dX11_mends_60 : decode (mc mX11_mends) 60 = .ok (.if_icmp .ge 38, 3) := by decide +kernel
theorem dX11_mends_63 : decode (mc mX11_mends) 63 = .ok (.iload_n 2, 1) := by decide +kernel
theorem dX11_mends_64 : decode (mc mX11_mends) 64 = .ok (.bipush (-9), 2) := by decide +kernel
theorem dX11_mends_66 : decode (mc mX11_mends) 66 = .ok (.if_icmp .eq 22, 3) := by decide +kernel
theorem dX11_mends_69 : decode (mc mX11_mends) 69 = .ok (.iload 7, 2) := by decide +kernel
theorem dX11_mends_71 : decode (mc mX11_mends) 71 = .ok (.iload_n 3, 1) := by decide +kernel
theorem dX11_mends_72 : decode (mc mX11_mends) 72 = .ok (.if_icmp .lt 16, 3) := by decide +kernel
theorem dX11_mends_75 : decode (mc mX11_mends) 75 = .ok (.iload 7, 2) := by decide +kernel
theorem dX11_mends_77 : decode (mc mX11_mends) 77 = .ok (.iload_n 3, 1) := by decide +kernel
theorem dX11_mends_78 : decode (mc mX11_mends) 78 = .ok (.if_icmp .ne 20, 3) := by decide +kernel
theorem dX11_mends_81 : decode (mc mX11_mends) 81 = .ok (.iload 6, 2) := by decide +kernel
theorem dX11_mends_83 : decode (mc mX11_mends) 83 = .ok (.iload 4, 2) := by decide +kernel
theorem dX11_mends_85 : decode (mc mX11_mends) 85 = .ok (.if_icmp .ge 13, 3) := by decide +kernel
theorem dX11_mends_88 : decode (mc mX11_mends) 88 = .ok (.iload 5, 2) := by decide +kernel
theorem dX11_mends_90 : decode (mc mX11_mends) 90 = .ok (.istore_n 2, 1) := by decide +kernel
theorem dX11_mends_91 : decode (mc mX11_mends) 91 = .ok (.iload 7, 2) := by decide +kernel
theorem dX11_mends_93 : decode (mc mX11_mends) 93 = .ok (.istore_n 3, 1) := by decide +kernel
theorem dX11_mends_94 : decode (mc mX11_mends) 94 = .ok (.iload 6, 2) := by decide +kernel
theorem dX11_mends_96 : decode (mc mX11_mends) 96 = .ok (.istore 4, 2) := by decide +kernel
theorem dX11_mends_98 : decode (mc mX11_mends) 98 = .ok (.iinc 5 1, 3) := by decide +kernel
theorem dX11_mends_101 : decode (mc mX11_mends) 101 = .ok (.goto (-90), 3) := by decide +kernel
theorem dX11_mends_104 : decode (mc mX11_mends) 104 = .ok (.iload_n 2, 1) := by decide +kernel
theorem dX11_mends_105 : decode (mc mX11_mends) 105 = .ok (.ireturn, 1) := by decide +kernel
theorem dX11_repairs_0 : decode (mc mX11_repairs) 0 = .ok (.iconst 0, 1) := by decide +kernel
theorem dX11_repairs_1 : decode (mc mX11_repairs) 1 = .ok (.istore_n 1, 1) := by decide +kernel
theorem dX11_repairs_2 : decode (mc mX11_repairs) 2 = .ok (.iload_n 1, 1) := by decide +kernel
theorem dX11_repairs_3 : decode (mc mX11_repairs) 3 = .ok (.aload_n 0, 1) := by decide +kernel
theorem dX11_repairs_4 : decode (mc mX11_repairs) 4 = .ok (.getfield 9, 3) := by decide +kernel
theorem dX11_repairs_7 : decode (mc mX11_repairs) 7 = .ok (.iconst 3, 1) := by decide +kernel
theorem dX11_repairs_8 : decode (mc mX11_repairs) 8 = .ok (.iaload, 1) := by decide +kernel
theorem dX11_repairs_9 : decode (mc mX11_repairs) 9 = .ok (.if_icmp .ge 40, 3) := by decide +kernel
theorem dX11_repairs_12 : decode (mc mX11_repairs) 12 = .ok (.aload_n 0, 1) := by decide +kernel
theorem dX11_repairs_13 : decode (mc mX11_repairs) 13 = .ok (.getfield 44, 3) := by decide +kernel
theorem dX11_repairs_16 : decode (mc mX11_repairs) 16 = .ok (.iload_n 1, 1) := by decide +kernel
theorem dX11_repairs_17 : decode (mc mX11_repairs) 17 = .ok (.aload_n 0, 1) := by decide +kernel
theorem dX11_repairs_18 : decode (mc mX11_repairs) 18 = .ok (.iload_n 1, 1) := by decide +kernel
theorem dX11_repairs_19 : decode (mc mX11_repairs) 19 = .ok (.invokevirtual 255, 3) := by decide +kernel
theorem dX11_repairs_22 : decode (mc mX11_repairs) 22 = .ok (.iastore, 1) := by decide +kernel
theorem dX11_repairs_23 : decode (mc mX11_repairs) 23 = .ok (.aload_n 0, 1) := by decide +kernel
theorem dX11_repairs_24 : decode (mc mX11_repairs) 24 = .ok (.getfield 50, 3) := by decide +kernel
theorem dX11_repairs_27 : decode (mc mX11_repairs) 27 = .ok (.iload_n 1, 1) := by decide +kernel
theorem dX11_repairs_28 : decode (mc mX11_repairs) 28 = .ok (.aload_n 0, 1) := by decide +kernel
theorem dX11_repairs_29 : decode (mc mX11_repairs) 29 = .ok (.iload_n 1, 1) := by decide +kernel
theorem dX11_repairs_30 : decode (mc mX11_repairs) 30 = .ok (.bipush 9, 2) := by decide +kernel
theorem dX11_repairs_32 : decode (mc mX11_repairs) 32 = .ok (.invokevirtual 130, 3) := by decide +kernel
theorem dX11_repairs_35 : decode (mc mX11_repairs) 35 = .ok (.iastore, 1) := by decide +kernel
theorem dX11_repairs_36 : decode (mc mX11_repairs) 36 = .ok (.aload_n 0, 1) := by decide +kernel
theorem dX11_repairs_37 : decode (mc mX11_repairs) 37 = .ok (.getfield 53, 3) := by decide +kernel
theorem dX11_repairs_40 : decode (mc mX11_repairs) 40 = .ok (.iload_n 1, 1) := by decide +kernel
theorem dX11_repairs_41 : decode (mc mX11_repairs) 41 = .ok (.iconst 0, 1) := by decide +kernel
theorem dX11_repairs_42 : decode (mc mX11_repairs) 42 = .ok (.iastore, 1) := by decide +kernel
theorem dX11_repairs_43 : decode (mc mX11_repairs) 43 = .ok (.iinc 1 1, 3) := by decide +kernel
theorem dX11_repairs_46 : decode (mc mX11_repairs) 46 = .ok (.goto (-44), 3) := by decide +kernel
theorem dX11_repairs_49 : decode (mc mX11_repairs) 49 = .ok (.iconst 0, 1) := by decide +kernel
theorem dX11_repairs_50 : decode (mc mX11_repairs) 50 = .ok (.istore_n 1, 1) := by decide +kernel
theorem dX11_repairs_51 : decode (mc mX11_repairs) 51 = .ok (.iconst 0, 1) := by decide +kernel
theorem dX11_repairs_52 : decode (mc mX11_repairs) 52 = .ok (.istore_n 2, 1) := by decide +kernel
theorem dX11_repairs_53 : decode (mc mX11_repairs) 53 = .ok (.iload_n 2, 1) := by decide +kernel
theorem dX11_repairs_54 : decode (mc mX11_repairs) 54 = .ok (.aload_n 0, 1) := by decide +kernel
theorem dX11_repairs_55 : decode (mc mX11_repairs) 55 = .ok (.getfield 9, 3) := by decide +kernel
theorem dX11_repairs_58 : decode (mc mX11_repairs) 58 = .ok (.iconst 0, 1) := by decide +kernel
theorem dX11_repairs_59 : decode (mc mX11_repairs) 59 = .ok (.iaload, 1) := by decide +kernel
theorem dX11_repairs_60 : decode (mc mX11_repairs) 60 = .ok (.if_icmp .ge 102, 3) := by decide +kernel
theorem dX11_repairs_63 : decode (mc mX11_repairs) 63 = .ok (.aload_n 0, 1) := by decide +kernel
theorem dX11_repairs_64 : decode (mc mX11_repairs) 64 = .ok (.iload_n 2, 1) := by decide +kernel
theorem dX11_repairs_65 : decode (mc mX11_repairs) 65 = .ok (.invokevirtual 288, 3) := by decide +kernel
theorem dX11_repairs_68 : decode (mc mX11_repairs) 68 = .ok (.istore_n 3, 1) := by decide +kernel
theorem dX11_repairs_69 : decode (mc mX11_repairs) 69 = .ok (.iload_n 3, 1) := by decide +kernel
theorem dX11_repairs_70 : decode (mc mX11_repairs) 70 = .ok (.bipush (-9), 2) := by decide +kernel
theorem dX11_repairs_72 : decode (mc mX11_repairs) 72 = .ok (.if_icmp .ne 6, 3) := by decide +kernel
theorem dX11_repairs_75 : decode (mc mX11_repairs) 75 = .ok (.bipush (-9), 2) := by decide +kernel
theorem dX11_repairs_77 : decode (mc mX11_repairs) 77 = .ok (.ireturn, 1) := by decide +kernel
theorem dX11_repairs_78 : decode (mc mX11_repairs) 78 = .ok (.iload_n 1, 1) := by decide +kernel
theorem dX11_repairs_79 : decode (mc mX11_repairs) 79 = .ok (.aload_n 0, 1) := by decide +kernel
theorem dX11_repairs_80 : decode (mc mX11_repairs) 80 = .ok (.iload_n 2, 1) := by decide +kernel
theorem dX11_repairs_81 : decode (mc mX11_repairs) 81 = .ok (.iload_n 3, 1) := by decide +kernel
theorem dX11_repairs_82 : decode (mc mX11_repairs) 82 = .ok (.invokevirtual 282, 3) := by decide +kernel
theorem dX11_repairs_85 : decode (mc mX11_repairs) 85 = .ok (.iadd, 1) := by decide +kernel
theorem dX11_repairs_86 : decode (mc mX11_repairs) 86 = .ok (.istore_n 1, 1) := by decide +kernel
theorem dX11_repairs_87 : decode (mc mX11_repairs) 87 = .ok (.iconst 0, 1) := by decide +kernel
theorem dX11_repairs_88 : decode (mc mX11_repairs) 88 = .ok (.istore 4, 2) := by decide +kernel
theorem dX11_repairs_90 : decode (mc mX11_repairs) 90 = .ok (.iload 4, 2) := by decide +kernel
theorem dX11_repairs_92 : decode (mc mX11_repairs) 92 = .ok (.aload_n 0, 1) := by decide +kernel
theorem dX11_repairs_93 : decode (mc mX11_repairs) 93 = .ok (.getfield 9, 3) := by decide +kernel
theorem dX11_repairs_96 : decode (mc mX11_repairs) 96 = .ok (.iconst 3, 1) := by decide +kernel
theorem dX11_repairs_97 : decode (mc mX11_repairs) 97 = .ok (.iaload, 1) := by decide +kernel
theorem dX11_repairs_98 : decode (mc mX11_repairs) 98 = .ok (.if_icmp .ge 58, 3) := by decide +kernel
theorem dX11_repairs_101 : decode (mc mX11_repairs) 101 = .ok (.aload_n 0, 1) := by decide +kernel
theorem dX11_repairs_102 : decode (mc mX11_repairs) 102 = .ok (.getfield 53, 3) := by decide +kernel
theorem dX11_repairs_105 : decode (mc mX11_repairs) 105 = .ok (.iload 4, 2) := by decide +kernel
theorem dX11_repairs_107 : decode (mc mX11_repairs) 107 = .ok (.dup2, 1) := by decide +kernel
theorem dX11_repairs_108 : decode (mc mX11_repairs) 108 = .ok (.iaload, 1) := by decide +kernel
theorem dX11_repairs_109 : decode (mc mX11_repairs) 109 = .ok (.iload_n 3, 1) := by decide +kernel
theorem dX11_repairs_110 : decode (mc mX11_repairs) 110 = .ok (.iload 4, 2) := by decide +kernel
theorem dX11_repairs_112 : decode (mc mX11_repairs) 112 = .ok (.invokestatic 165, 3) := by decide +kernel
theorem dX11_repairs_115 : decode (mc mX11_repairs) 115 = .ok (.ifCond .eq 9, 3) := by decide +kernel
theorem dX11_repairs_118 : decode (mc mX11_repairs) 118 = .ok (.iconst 1, 1) := by decide +kernel
theorem dX11_repairs_119 : decode (mc mX11_repairs) 119 = .ok (.iload_n 2, 1) := by decide +kernel
theorem dX11_repairs_120 : decode (mc mX11_repairs) 120 = .ok (.ishl, 1) := by decide +kernel
theorem dX11_repairs_121 : decode (mc mX11_repairs) 121 = .ok (.goto 4, 3) := by decide +kernel
theorem dX11_repairs_124 : decode (mc mX11_repairs) 124 = .ok (.iconst 0, 1) := by decide +kernel
theorem dX11_repairs_125 : decode (mc mX11_repairs) 125 = .ok (.ior, 1) := by decide +kernel
theorem dX11_repairs_126 : decode (mc mX11_repairs) 126 = .ok (.iastore, 1) := by decide +kernel
theorem dX11_repairs_127 : decode (mc mX11_repairs) 127 = .ok (.aload_n 0, 1) := by decide +kernel
theorem dX11_repairs_128 : decode (mc mX11_repairs) 128 = .ok (.getfield 50, 3) := by decide +kernel
theorem dX11_repairs_131 : decode (mc mX11_repairs) 131 = .ok (.iload 4, 2) := by decide +kernel
theorem dX11_repairs_133 : decode (mc mX11_repairs) 133 = .ok (.aload_n 0, 1) := by decide +kernel
theorem dX11_repairs_134 : decode (mc mX11_repairs) 134 = .ok (.getfield 50, 3) := by decide +kernel
theorem dX11_repairs_137 : decode (mc mX11_repairs) 137 = .ok (.iload 4, 2) := by decide +kernel
theorem dX11_repairs_139 : decode (mc mX11_repairs) 139 = .ok (.iaload, 1) := by decide +kernel
theorem dX11_repairs_140 : decode (mc mX11_repairs) 140 = .ok (.iload_n 3, 1) := by decide +kernel
theorem dX11_repairs_141 : decode (mc mX11_repairs) 141 = .ok (.iload 4, 2) := by decide +kernel
theorem dX11_repairs_143 : decode (mc mX11_repairs) 143 = .ok (.invokestatic 165, 3) := by decide +kernel
theorem dX11_repairs_146 : decode (mc mX11_repairs) 146 = .ok (.invokestatic 173, 3) := by decide +kernel
theorem dX11_repairs_149 : decode (mc mX11_repairs) 149 = .ok (.iastore, 1) := by decide +kernel
theorem dX11_repairs_150 : decode (mc mX11_repairs) 150 = .ok (.iinc 4 1, 3) := by decide +kernel
theorem dX11_repairs_153 : decode (mc mX11_repairs) 153 = .ok (.goto (-63), 3) := by decide +kernel
theorem dX11_repairs_156 : decode (mc mX11_repairs) 156 = .ok (.iinc 2 1, 3) := by decide +kernel
theorem dX11_repairs_159 : decode (mc mX11_repairs) 159 = .ok (.goto (-106), 3) := by decide +kernel
theorem dX11_repairs_162 : decode (mc mX11_repairs) 162 = .ok (.iload_n 1, 1) := by decide +kernel
theorem dX11_repairs_163 : decode (mc mX11_repairs) 163 = .ok (.ireturn, 1) := by decide +kernel
theorem dX11_repaired_0 : decode (mc mX11_repaired) 0 = .ok (.iload_n 1, 1) := by decide +kernel
theorem dX11_repaired_1 : decode (mc mX11_repaired) 1 = .ok (.iconst (-1), 1) := by decide +kernel
theorem dX11_repaired_2 : decode (mc mX11_repaired) 2 = .ok (.if_icmp .eq 17, 3) := by decide +kernel
theorem dX11_repaired_5 : decode (mc mX11_repaired) 5 = .ok (.aload_n 0, 1) := by decide +kernel
theorem dX11_repaired_6 : decode (mc mX11_repaired) 6 = .ok (.iload_n 1, 1) := by decide +kernel
theorem dX11_repaired_7 : decode (mc mX11_repaired) 7 = .ok (.invokevirtual 124, 3) := by decide +kernel
theorem dX11_repaired_10 : decode (mc mX11_repaired) 10 = .ok (.ifCond .ne 9, 3) := by decide +kernel
theorem dX11_repaired_13 : decode (mc mX11_repaired) 13 = .ok (.aload_n 0, 1) := by decide +kernel
theorem dX11_repaired_14 : decode (mc mX11_repaired) 14 = .ok (.iconst (-1), 1) := by decide +kernel
theorem dX11_repaired_15 : decode (mc mX11_repaired) 15 = .ok (.invokevirtual 79, 3) := by decide +kernel
theorem dX11_repaired_18 : decode (mc mX11_repaired) 18 = .ok (.ireturn, 1) := by decide +kernel
theorem dX11_repaired_19 : decode (mc mX11_repaired) 19 = .ok (.aload_n 0, 1) := by decide +kernel
theorem dX11_repaired_20 : decode (mc mX11_repaired) 20 = .ok (.invokevirtual 291, 3) := by decide +kernel
theorem dX11_repaired_23 : decode (mc mX11_repaired) 23 = .ok (.istore_n 2, 1) := by decide +kernel
theorem dX11_repaired_24 : decode (mc mX11_repaired) 24 = .ok (.iload_n 2, 1) := by decide +kernel
theorem dX11_repaired_25 : decode (mc mX11_repaired) 25 = .ok (.bipush (-9), 2) := by decide +kernel
theorem dX11_repaired_27 : decode (mc mX11_repaired) 27 = .ok (.if_icmp .eq 8, 3) := by decide +kernel
theorem dX11_repaired_30 : decode (mc mX11_repaired) 30 = .ok (.iload_n 1, 1) := by decide +kernel
theorem dX11_repaired_31 : decode (mc mX11_repaired) 31 = .ok (.iconst (-1), 1) := by decide +kernel
theorem dX11_repaired_32 : decode (mc mX11_repaired) 32 = .ok (.if_icmp .ne 7, 3) := by decide +kernel
theorem dX11_repaired_35 : decode (mc mX11_repaired) 35 = .ok (.iload_n 2, 1) := by decide +kernel
theorem dX11_repaired_36 : decode (mc mX11_repaired) 36 = .ok (.goto 9, 3) := by decide +kernel
theorem dX11_repaired_39 : decode (mc mX11_repaired) 39 = .ok (.aload_n 0, 1) := by decide +kernel
theorem dX11_repaired_40 : decode (mc mX11_repaired) 40 = .ok (.getfield 53, 3) := by decide +kernel
theorem dX11_repaired_43 : decode (mc mX11_repaired) 43 = .ok (.iload_n 1, 1) := by decide +kernel
theorem dX11_repaired_44 : decode (mc mX11_repaired) 44 = .ok (.iaload, 1) := by decide +kernel
theorem dX11_repaired_45 : decode (mc mX11_repaired) 45 = .ok (.ireturn, 1) := by decide +kernel
theorem dX11_isList_0 : decode (mc mX11_isList) 0 = .ok (.iload_n 0, 1) := by decide +kernel
theorem dX11_isList_1 : decode (mc mX11_isList) 1 = .ok (.i2l, 1) := by decide +kernel
theorem dX11_isList_2 : decode (mc mX11_isList) 2 = .ok (.lconst 0, 1) := by decide +kernel
theorem dX11_isList_3 : decode (mc mX11_isList) 3 = .ok (.ldc2_w 294, 3) := by decide +kernel
theorem dX11_isList_6 : decode (mc mX11_isList) 6 = .ok (.invokestatic 89, 3) := by decide +kernel
theorem dX11_isList_9 : decode (mc mX11_isList) 9 = .ok (.ireturn, 1) := by decide +kernel
theorem dX11_list_0 : decode (mc mX11_list) 0 = .ok (.iload_n 1, 1) := by decide +kernel
theorem dX11_list_1 : decode (mc mX11_list) 1 = .ok (.invokestatic 296, 3) := by decide +kernel
theorem dX11_list_4 : decode (mc mX11_list) 4 = .ok (.ifCond .ne 9, 3) := by decide +kernel
theorem dX11_list_7 : decode (mc mX11_list) 7 = .ok (.aload_n 0, 1) := by decide +kernel
theorem dX11_list_8 : decode (mc mX11_list) 8 = .ok (.iconst (-1), 1) := by decide +kernel
theorem dX11_list_9 : decode (mc mX11_list) 9 = .ok (.invokevirtual 79, 3) := by decide +kernel
theorem dX11_list_12 : decode (mc mX11_list) 12 = .ok (.ireturn, 1) := by decide +kernel
theorem dX11_list_13 : decode (mc mX11_list) 13 = .ok (.iload_n 2, 1) := by decide +kernel
theorem dX11_list_14 : decode (mc mX11_list) 14 = .ok (.bipush 20, 2) := by decide +kernel
theorem dX11_list_16 : decode (mc mX11_list) 16 = .ok (.if_icmp .le 10, 3) := by decide +kernel
theorem dX11_list_19 : decode (mc mX11_list) 19 = .ok (.aload_n 0, 1) := by decide +kernel
theorem dX11_list_20 : decode (mc mX11_list) 20 = .ok (.bipush (-6), 2) := by decide +kernel
theorem dX11_list_22 : decode (mc mX11_list) 22 = .ok (.invokevirtual 79, 3) := by decide +kernel
theorem dX11_list_25 : decode (mc mX11_list) 25 = .ok (.ireturn, 1) := by decide +kernel
theorem dX11_list_26 : decode (mc mX11_list) 26 = .ok (.iload_n 2, 1) := by decide +kernel
theorem dX11_list_27 : decode (mc mX11_list) 27 = .ok (.ifCond .ge 6, 3) := by decide +kernel
theorem dX11_list_30 : decode (mc mX11_list) 30 = .ok (.bipush (-14), 2) := by decide +kernel
theorem dX11_list_32 : decode (mc mX11_list) 32 = .ok (.ireturn, 1) := by decide +kernel
theorem dX11_list_33 : decode (mc mX11_list) 33 = .ok (.aload_n 0, 1) := by decide +kernel
theorem dX11_list_34 : decode (mc mX11_list) 34 = .ok (.getfield 56, 3) := by decide +kernel
theorem dX11_list_37 : decode (mc mX11_list) 37 = .ok (.iload_n 1, 1) := by decide +kernel
theorem dX11_list_38 : decode (mc mX11_list) 38 = .ok (.iload_n 2, 1) := by decide +kernel
theorem dX11_list_39 : decode (mc mX11_list) 39 = .ok (.iastore, 1) := by decide +kernel
theorem dX11_list_40 : decode (mc mX11_list) 40 = .ok (.iconst 0, 1) := by decide +kernel
theorem dX11_list_41 : decode (mc mX11_list) 41 = .ok (.istore_n 3, 1) := by decide +kernel
theorem dX11_list_42 : decode (mc mX11_list) 42 = .ok (.iload_n 3, 1) := by decide +kernel
theorem dX11_list_43 : decode (mc mX11_list) 43 = .ok (.bipush 20, 2) := by decide +kernel
theorem dX11_list_45 : decode (mc mX11_list) 45 = .ok (.if_icmp .ge 21, 3) := by decide +kernel
theorem dX11_list_48 : decode (mc mX11_list) 48 = .ok (.aload_n 0, 1) := by decide +kernel
theorem dX11_list_49 : decode (mc mX11_list) 49 = .ok (.getfield 59, 3) := by decide +kernel
theorem dX11_list_52 : decode (mc mX11_list) 52 = .ok (.bipush 20, 2) := by decide +kernel
theorem dX11_list_54 : decode (mc mX11_list) 54 = .ok (.iload_n 1, 1) := by decide +kernel
theorem dX11_list_55 : decode (mc mX11_list) 55 = .ok (.imul, 1) := by decide +kernel
theorem dX11_list_56 : decode (mc mX11_list) 56 = .ok (.iload_n 3, 1) := by decide +kernel
theorem dX11_list_57 : decode (mc mX11_list) 57 = .ok (.iadd, 1) := by decide +kernel
theorem dX11_list_58 : decode (mc mX11_list) 58 = .ok (.iconst 0, 1) := by decide +kernel
theorem dX11_list_59 : decode (mc mX11_list) 59 = .ok (.iastore, 1) := by decide +kernel
theorem dX11_list_60 : decode (mc mX11_list) 60 = .ok (.iinc 3 1, 3) := by decide +kernel
theorem dX11_list_63 : decode (mc mX11_list) 63 = .ok (.goto (-21), 3) := by decide +kernel
theorem dX11_list_66 : decode (mc mX11_list) 66 = .ok (.iconst 1, 1) := by decide +kernel
theorem dX11_list_67 : decode (mc mX11_list) 67 = .ok (.ireturn, 1) := by decide +kernel
theorem dX11_put_0 : decode (mc mX11_put) 0 = .ok (.iload_n 1, 1) := by decide +kernel
theorem dX11_put_1 : decode (mc mX11_put) 1 = .ok (.invokestatic 296, 3) := by decide +kernel
theorem dX11_put_4 : decode (mc mX11_put) 4 = .ok (.ifCond .ne 9, 3) := by decide +kernel
theorem dX11_put_7 : decode (mc mX11_put) 7 = .ok (.aload_n 0, 1) := by decide +kernel
theorem dX11_put_8 : decode (mc mX11_put) 8 = .ok (.iconst (-1), 1) := by decide +kernel
theorem dX11_put_9 : decode (mc mX11_put) 9 = .ok (.invokevirtual 79, 3) := by decide +kernel
theorem dX11_put_12 : decode (mc mX11_put) 12 = .ok (.ireturn, 1) := by decide +kernel
theorem dX11_put_13 : decode (mc mX11_put) 13 = .ok (.aload_n 0, 1) := by decide +kernel
theorem dX11_put_14 : decode (mc mX11_put) 14 = .ok (.getfield 56, 3) := by decide +kernel
theorem dX11_put_17 : decode (mc mX11_put) 17 = .ok (.iload_n 1, 1) := by decide +kernel
theorem dX11_put_18 : decode (mc mX11_put) 18 = .ok (.iaload, 1) := by decide +kernel
theorem dX11_put_19 : decode (mc mX11_put) 19 = .ok (.bipush (-9), 2) := by decide +kernel
theorem dX11_put_21 : decode (mc mX11_put) 21 = .ok (.if_icmp .ne 6, 3) := by decide +kernel
theorem dX11_put_24 : decode (mc mX11_put) 24 = .ok (.bipush (-11), 2) := by decide +kernel
theorem dX11_put_26 : decode (mc mX11_put) 26 = .ok (.ireturn, 1) := by decide +kernel
theorem dX11_put_27 : decode (mc mX11_put) 27 = .ok (.iload_n 2, 1) := by decide +kernel
theorem dX11_put_28 : decode (mc mX11_put) 28 = .ok (.i2l, 1) := by decide +kernel
theorem dX11_put_29 : decode (mc mX11_put) 29 = .ok (.lconst 0, 1) := by decide +kernel
theorem dX11_put_30 : decode (mc mX11_put) 30 = .ok (.aload_n 0, 1) := by decide +kernel
theorem dX11_put_31 : decode (mc mX11_put) 31 = .ok (.getfield 56, 3) := by decide +kernel
theorem dX11_put_34 : decode (mc mX11_put) 34 = .ok (.iload_n 1, 1) := by decide +kernel
theorem dX11_put_35 : decode (mc mX11_put) 35 = .ok (.iaload, 1) := by decide +kernel
theorem dX11_put_36 : decode (mc mX11_put) 36 = .ok (.iconst 1, 1) := by decide +kernel
theorem dX11_put_37 : decode (mc mX11_put) 37 = .ok (.isub, 1) := by decide +kernel
theorem dX11_put_38 : decode (mc mX11_put) 38 = .ok (.i2l, 1) := by decide +kernel
theorem dX11_put_39 : decode (mc mX11_put) 39 = .ok (.invokestatic 89, 3) := by decide +kernel
theorem dX11_put_42 : decode (mc mX11_put) 42 = .ok (.ifCond .ne 6, 3) := by decide +kernel
theorem dX11_put_45 : decode (mc mX11_put) 45 = .ok (.bipush (-13), 2) := by decide +kernel
theorem dX11_put_47 : decode (mc mX11_put) 47 = .ok (.ireturn, 1) := by decide +kernel
theorem dX11_put_48 : decode (mc mX11_put) 48 = .ok (.aload_n 0, 1) := by decide +kernel
theorem dX11_put_49 : decode (mc mX11_put) 49 = .ok (.getfield 59, 3) := by decide +kernel
theorem dX11_put_52 : decode (mc mX11_put) 52 = .ok (.bipush 20, 2) := by decide +kernel
theorem dX11_put_54 : decode (mc mX11_put) 54 = .ok (.iload_n 1, 1) := by decide +kernel
theorem dX11_put_55 : decode (mc mX11_put) 55 = .ok (.imul, 1) := by decide +kernel
theorem dX11_put_56 : decode (mc mX11_put) 56 = .ok (.iload_n 2, 1) := by decide +kernel
theorem dX11_put_57 : decode (mc mX11_put) 57 = .ok (.iadd, 1) := by decide +kernel
theorem dX11_put_58 : decode (mc mX11_put) 58 = .ok (.iload_n 3, 1) := by decide +kernel
theorem dX11_put_59 : decode (mc mX11_put) 59 = .ok (.iastore, 1) := by decide +kernel
theorem dX11_put_60 : decode (mc mX11_put) 60 = .ok (.iconst 1, 1) := by decide +kernel
theorem dX11_put_61 : decode (mc mX11_put) 61 = .ok (.ireturn, 1) := by decide +kernel
theorem dX11_lays_0 : decode (mc mX11_lays) 0 = .ok (.iload_n 1, 1) := by decide +kernel
theorem dX11_lays_1 : decode (mc mX11_lays) 1 = .ok (.invokestatic 296, 3) := by decide +kernel
theorem dX11_lays_4 : decode (mc mX11_lays) 4 = .ok (.ifCond .ne 9, 3) := by decide +kernel
theorem dX11_lays_7 : decode (mc mX11_lays) 7 = .ok (.aload_n 0, 1) := by decide +kernel
theorem dX11_lays_8 : decode (mc mX11_lays) 8 = .ok (.iconst (-1), 1) := by decide +kernel
theorem dX11_lays_9 : decode (mc mX11_lays) 9 = .ok (.invokevirtual 79, 3) := by decide +kernel
theorem dX11_lays_12 : decode (mc mX11_lays) 12 = .ok (.ireturn, 1) := by decide +kernel
theorem dX11_lays_13 : decode (mc mX11_lays) 13 = .ok (.aload_n 0, 1) := by decide +kernel
theorem dX11_lays_14 : decode (mc mX11_lays) 14 = .ok (.invokevirtual 220, 3) := by decide +kernel
theorem dX11_lays_17 : decode (mc mX11_lays) 17 = .ok (.bipush (-9), 2) := by decide +kernel
theorem dX11_lays_19 : decode (mc mX11_lays) 19 = .ok (.if_icmp .ne 10, 3) := by decide +kernel
theorem dX11_lays_22 : decode (mc mX11_lays) 22 = .ok (.aload_n 0, 1) := by decide +kernel
theorem dX11_lays_23 : decode (mc mX11_lays) 23 = .ok (.bipush (-3), 2) := by decide +kernel
theorem dX11_lays_25 : decode (mc mX11_lays) 25 = .ok (.invokevirtual 79, 3) := by decide +kernel
theorem dX11_lays_28 : decode (mc mX11_lays) 28 = .ok (.ireturn, 1) := by decide +kernel
theorem dX11_lays_29 : decode (mc mX11_lays) 29 = .ok (.aload_n 0, 1) := by decide +kernel
theorem dX11_lays_30 : decode (mc mX11_lays) 30 = .ok (.getfield 56, 3) := by decide +kernel
theorem dX11_lays_33 : decode (mc mX11_lays) 33 = .ok (.iload_n 1, 1) := by decide +kernel
theorem dX11_lays_34 : decode (mc mX11_lays) 34 = .ok (.iaload, 1) := by decide +kernel
theorem dX11_lays_35 : decode (mc mX11_lays) 35 = .ok (.bipush (-9), 2) := by decide +kernel
theorem dX11_lays_37 : decode (mc mX11_lays) 37 = .ok (.if_icmp .ne 6, 3) := by decide +kernel
theorem dX11_lays_40 : decode (mc mX11_lays) 40 = .ok (.bipush (-11), 2) := by decide +kernel
theorem dX11_lays_42 : decode (mc mX11_lays) 42 = .ok (.ireturn, 1) := by decide +kernel
theorem dX11_lays_43 : decode (mc mX11_lays) 43 = .ok (.iconst 0, 1) := by decide +kernel
theorem dX11_lays_44 : decode (mc mX11_lays) 44 = .ok (.istore_n 3, 1) := by decide +kernel
theorem dX11_lays_45 : decode (mc mX11_lays) 45 = .ok (.iload_n 3, 1) := by decide +kernel
theorem dX11_lays_46 : decode (mc mX11_lays) 46 = .ok (.aload_n 0, 1) := by decide +kernel
theorem dX11_lays_47 : decode (mc mX11_lays) 47 = .ok (.getfield 9, 3) := by decide +kernel
theorem dX11_lays_50 : decode (mc mX11_lays) 50 = .ok (.iconst 3, 1) := by decide +kernel
theorem dX11_lays_51 : decode (mc mX11_lays) 51 = .ok (.iaload, 1) := by decide +kernel
theorem dX11_lays_52 : decode (mc mX11_lays) 52 = .ok (.if_icmp .ge 47, 3) := by decide +kernel
theorem dX11_lays_55 : decode (mc mX11_lays) 55 = .ok (.iload_n 2, 1) := by decide +kernel
theorem dX11_lays_56 : decode (mc mX11_lays) 56 = .ok (.ifCond .lt 15, 3) := by decide +kernel
theorem dX11_lays_59 : decode (mc mX11_lays) 59 = .ok (.iload_n 2, 1) := by decide +kernel
theorem dX11_lays_60 : decode (mc mX11_lays) 60 = .ok (.aload_n 0, 1) := by decide +kernel
theorem dX11_lays_61 : decode (mc mX11_lays) 61 = .ok (.getfield 56, 3) := by decide +kernel
theorem dX11_lays_64 : decode (mc mX11_lays) 64 = .ok (.iload_n 1, 1) := by decide +kernel
theorem dX11_lays_65 : decode (mc mX11_lays) 65 = .ok (.iaload, 1) := by decide +kernel
theorem dX11_lays_66 : decode (mc mX11_lays) 66 = .ok (.iload_n 3, 1) := by decide +kernel
theorem dX11_lays_67 : decode (mc mX11_lays) 67 = .ok (.isub, 1) := by decide +kernel
theorem dX11_lays_68 : decode (mc mX11_lays) 68 = .ok (.if_icmp .lt 6, 3) := by decide +kernel
theorem dX11_lays_71 : decode (mc mX11_lays) 71 = .ok (.bipush (-13), 2) := by decide +kernel
theorem dX11_lays_73 : decode (mc mX11_lays) 73 = .ok (.ireturn, 1) := by decide +kernel
theorem dX11_lays_74 : decode (mc mX11_lays) 74 = .ok (.aload_n 0, 1) := by decide +kernel
theorem dX11_lays_75 : decode (mc mX11_lays) 75 = .ok (.getfield 59, 3) := by decide +kernel
theorem dX11_lays_78 : decode (mc mX11_lays) 78 = .ok (.bipush 20, 2) := by decide +kernel
theorem dX11_lays_80 : decode (mc mX11_lays) 80 = .ok (.iload_n 1, 1) := by decide +kernel
theorem dX11_lays_81 : decode (mc mX11_lays) 81 = .ok (.imul, 1) := by decide +kernel
theorem dX11_lays_82 : decode (mc mX11_lays) 82 = .ok (.iload_n 2, 1) := by decide +kernel
theorem dX11_lays_83 : decode (mc mX11_lays) 83 = .ok (.iadd, 1) := by decide +kernel
theorem dX11_lays_84 : decode (mc mX11_lays) 84 = .ok (.iload_n 3, 1) := by decide +kernel
theorem dX11_lays_85 : decode (mc mX11_lays) 85 = .ok (.iadd, 1) := by decide +kernel
theorem dX11_lays_86 : decode (mc mX11_lays) 86 = .ok (.aload_n 0, 1) := by decide +kernel
theorem dX11_lays_87 : decode (mc mX11_lays) 87 = .ok (.getfield 38, 3) := by decide +kernel
theorem dX11_lays_90 : decode (mc mX11_lays) 90 = .ok (.iload_n 3, 1) := by decide +kernel
theorem dX11_lays_91 : decode (mc mX11_lays) 91 = .ok (.iaload, 1) := by decide +kernel
theorem dX11_lays_92 : decode (mc mX11_lays) 92 = .ok (.iastore, 1) := by decide +kernel
theorem dX11_lays_93 : decode (mc mX11_lays) 93 = .ok (.iinc 3 1, 3) := by decide +kernel
theorem dX11_lays_96 : decode (mc mX11_lays) 96 = .ok (.goto (-51), 3) := by decide +kernel
theorem dX11_lays_99 : decode (mc mX11_lays) 99 = .ok (.aload_n 0, 1) := by decide +kernel
theorem dX11_lays_100 : decode (mc mX11_lays) 100 = .ok (.getfield 9, 3) := by decide +kernel
theorem dX11_lays_103 : decode (mc mX11_lays) 103 = .ok (.iconst 3, 1) := by decide +kernel
theorem dX11_lays_104 : decode (mc mX11_lays) 104 = .ok (.iaload, 1) := by decide +kernel
theorem dX11_lays_105 : decode (mc mX11_lays) 105 = .ok (.ireturn, 1) := by decide +kernel
theorem dX11_firstWrong_0 : decode (mc mX11_firstWrong) 0 = .ok (.iconst 0, 1) := by decide +kernel
theorem dX11_firstWrong_1 : decode (mc mX11_firstWrong) 1 = .ok (.istore_n 2, 1) := by decide +kernel
theorem dX11_firstWrong_2 : decode (mc mX11_firstWrong) 2 = .ok (.iload_n 2, 1) := by decide +kernel
theorem dX11_firstWrong_3 : decode (mc mX11_firstWrong) 3 = .ok (.aload_n 0, 1) := by decide +kernel
theorem dX11_firstWrong_4 : decode (mc mX11_firstWrong) 4 = .ok (.getfield 9, 3) := by decide +kernel
theorem dX11_firstWrong_7 : decode (mc mX11_firstWrong) 7 = .ok (.iconst 3, 1) := by decide +kernel
theorem dX11_firstWrong_8 : decode (mc mX11_firstWrong) 8 = .ok (.iaload, 1) := by decide +kernel
theorem dX11_firstWrong_9 : decode (mc mX11_firstWrong) 9 = .ok (.if_icmp .ge 22, 3) := by decide +kernel
theorem dX11_firstWrong_12 : decode (mc mX11_firstWrong) 12 = .ok (.aload_n 0, 1) := by decide +kernel
theorem dX11_firstWrong_13 : decode (mc mX11_firstWrong) 13 = .ok (.getfield 50, 3) := by decide +kernel
theorem dX11_firstWrong_16 : decode (mc mX11_firstWrong) 16 = .ok (.iload_n 2, 1) := by decide +kernel
theorem dX11_firstWrong_17 : decode (mc mX11_firstWrong) 17 = .ok (.aload_n 0, 1) := by decide +kernel
theorem dX11_firstWrong_18 : decode (mc mX11_firstWrong) 18 = .ok (.iload_n 2, 1) := by decide +kernel
theorem dX11_firstWrong_19 : decode (mc mX11_firstWrong) 19 = .ok (.bipush 9, 2) := by decide +kernel
theorem dX11_firstWrong_21 : decode (mc mX11_firstWrong) 21 = .ok (.invokevirtual 130, 3) := by decide +kernel
theorem dX11_firstWrong_24 : decode (mc mX11_firstWrong) 24 = .ok (.iastore, 1) := by decide +kernel
theorem dX11_firstWrong_25 : decode (mc mX11_firstWrong) 25 = .ok (.iinc 2 1, 3) := by decide +kernel
theorem dX11_firstWrong_28 : decode (mc mX11_firstWrong) 28 = .ok (.goto (-26), 3) := by decide +kernel
theorem dX11_firstWrong_31 : decode (mc mX11_firstWrong) 31 = .ok (.iconst 0, 1) := by decide +kernel
theorem dX11_firstWrong_32 : decode (mc mX11_firstWrong) 32 = .ok (.istore_n 2, 1) := by decide +kernel
theorem dX11_firstWrong_33 : decode (mc mX11_firstWrong) 33 = .ok (.iload_n 2, 1) := by decide +kernel
theorem dX11_firstWrong_34 : decode (mc mX11_firstWrong) 34 = .ok (.aload_n 0, 1) := by decide +kernel
theorem dX11_firstWrong_35 : decode (mc mX11_firstWrong) 35 = .ok (.getfield 9, 3) := by decide +kernel
theorem dX11_firstWrong_38 : decode (mc mX11_firstWrong) 38 = .ok (.iconst 0, 1) := by decide +kernel
theorem dX11_firstWrong_39 : decode (mc mX11_firstWrong) 39 = .ok (.iaload, 1) := by decide +kernel
theorem dX11_firstWrong_40 : decode (mc mX11_firstWrong) 40 = .ok (.if_icmp .ge 128, 3) := by decide +kernel
theorem dX11_firstWrong_43 : decode (mc mX11_firstWrong) 43 = .ok (.iconst 0, 1) := by decide +kernel
theorem dX11_firstWrong_44 : decode (mc mX11_firstWrong) 44 = .ok (.istore_n 3, 1) := by decide +kernel
theorem dX11_firstWrong_45 : decode (mc mX11_firstWrong) 45 = .ok (.iconst 0, 1) := by decide +kernel
theorem dX11_firstWrong_46 : decode (mc mX11_firstWrong) 46 = .ok (.istore 4, 2) := by decide +kernel
theorem dX11_firstWrong_48 : decode (mc mX11_firstWrong) 48 = .ok (.iload 4, 2) := by decide +kernel
theorem dX11_firstWrong_50 : decode (mc mX11_firstWrong) 50 = .ok (.aload_n 0, 1) := by decide +kernel
theorem dX11_firstWrong_51 : decode (mc mX11_firstWrong) 51 = .ok (.getfield 9, 3) := by decide +kernel
theorem dX11_firstWrong_54 : decode (mc mX11_firstWrong) 54 = .ok (.iconst 3, 1) := by decide +kernel
theorem dX11_firstWrong_55 : decode (mc mX11_firstWrong) 55 = .ok (.iaload, 1) := by decide +kernel
theorem dX11_firstWrong_56 : decode (mc mX11_firstWrong) 56 = .ok (.if_icmp .ge 39, 3) := by decide +kernel
theorem dX11_firstWrong_59 : decode (mc mX11_firstWrong) 59 = .ok (.iload_n 3, 1) := by decide +kernel
theorem dX11_firstWrong_60 : decode (mc mX11_firstWrong) 60 = .ok (.aload_n 0, 1) := by decide +kernel
theorem dX11_firstWrong_61 : decode (mc mX11_firstWrong) 61 = .ok (.getfield 59, 3) := by decide +kernel
theorem dX11_firstWrong_64 : decode (mc mX11_firstWrong) 64 = .ok (.bipush 20, 2) := by decide +kernel
theorem dX11_firstWrong_66 : decode (mc mX11_firstWrong) 66 = .ok (.iload_n 1, 1) := by decide +kernel
theorem dX11_firstWrong_67 : decode (mc mX11_firstWrong) 67 = .ok (.imul, 1) := by decide +kernel
theorem dX11_firstWrong_68 : decode (mc mX11_firstWrong) 68 = .ok (.iload 4, 2) := by decide +kernel
theorem dX11_firstWrong_70 : decode (mc mX11_firstWrong) 70 = .ok (.iadd, 1) := by decide +kernel
theorem dX11_firstWrong_71 : decode (mc mX11_firstWrong) 71 = .ok (.iaload, 1) := by decide +kernel
theorem dX11_firstWrong_72 : decode (mc mX11_firstWrong) 72 = .ok (.iload_n 2, 1) := by decide +kernel
theorem dX11_firstWrong_73 : decode (mc mX11_firstWrong) 73 = .ok (.invokestatic 165, 3) := by decide +kernel
theorem dX11_firstWrong_76 : decode (mc mX11_firstWrong) 76 = .ok (.ifCond .eq 10, 3) := by decide +kernel
theorem dX11_firstWrong_79 : decode (mc mX11_firstWrong) 79 = .ok (.iconst 1, 1) := by decide +kernel
theorem dX11_firstWrong_80 : decode (mc mX11_firstWrong) 80 = .ok (.iload 4, 2) := by decide +kernel
theorem dX11_firstWrong_82 : decode (mc mX11_firstWrong) 82 = .ok (.ishl, 1) := by decide +kernel
theorem dX11_firstWrong_83 : decode (mc mX11_firstWrong) 83 = .ok (.goto 4, 3) := by decide +kernel
theorem dX11_firstWrong_86 : decode (mc mX11_firstWrong) 86 = .ok (.iconst 0, 1) := by decide +kernel
theorem dX11_firstWrong_87 : decode (mc mX11_firstWrong) 87 = .ok (.ior, 1) := by decide +kernel
theorem dX11_firstWrong_88 : decode (mc mX11_firstWrong) 88 = .ok (.istore_n 3, 1) := by decide +kernel
theorem dX11_firstWrong_89 : decode (mc mX11_firstWrong) 89 = .ok (.iinc 4 1, 3) := by decide +kernel
theorem dX11_firstWrong_92 : decode (mc mX11_firstWrong) 92 = .ok (.goto (-44), 3) := by decide +kernel
theorem dX11_firstWrong_95 : decode (mc mX11_firstWrong) 95 = .ok (.aload_n 0, 1) := by decide +kernel
theorem dX11_firstWrong_96 : decode (mc mX11_firstWrong) 96 = .ok (.iload_n 3, 1) := by decide +kernel
theorem dX11_firstWrong_97 : decode (mc mX11_firstWrong) 97 = .ok (.invokevirtual 279, 3) := by decide +kernel
theorem dX11_firstWrong_100 : decode (mc mX11_firstWrong) 100 = .ok (.ifCond .eq 17, 3) := by decide +kernel
theorem dX11_firstWrong_103 : decode (mc mX11_firstWrong) 103 = .ok (.aload_n 0, 1) := by decide +kernel
theorem dX11_firstWrong_104 : decode (mc mX11_firstWrong) 104 = .ok (.iload_n 2, 1) := by decide +kernel
theorem dX11_firstWrong_105 : decode (mc mX11_firstWrong) 105 = .ok (.iload_n 3, 1) := by decide +kernel
theorem dX11_firstWrong_106 : decode (mc mX11_firstWrong) 106 = .ok (.aload_n 0, 1) := by decide +kernel
theorem dX11_firstWrong_107 : decode (mc mX11_firstWrong) 107 = .ok (.iload_n 3, 1) := by decide +kernel
theorem dX11_firstWrong_108 : decode (mc mX11_firstWrong) 108 = .ok (.invokevirtual 276, 3) := by decide +kernel
theorem dX11_firstWrong_111 : decode (mc mX11_firstWrong) 111 = .ok (.invokevirtual 185, 3) := by decide +kernel
theorem dX11_firstWrong_114 : decode (mc mX11_firstWrong) 114 = .ok (.ifCond .ne 5, 3) := by decide +kernel
theorem dX11_firstWrong_117 : decode (mc mX11_firstWrong) 117 = .ok (.iload_n 2, 1) := by decide +kernel
theorem dX11_firstWrong_118 : decode (mc mX11_firstWrong) 118 = .ok (.ireturn, 1) := by decide +kernel
theorem dX11_firstWrong_119 : decode (mc mX11_firstWrong) 119 = .ok (.iconst 0, 1) := by decide +kernel
theorem dX11_firstWrong_120 : decode (mc mX11_firstWrong) 120 = .ok (.istore 4, 2) := by decide +kernel
theorem dX11_firstWrong_122 : decode (mc mX11_firstWrong) 122 = .ok (.iload 4, 2) := by decide +kernel
theorem dX11_firstWrong_124 : decode (mc mX11_firstWrong) 124 = .ok (.aload_n 0, 1) := by decide +kernel
theorem dX11_firstWrong_125 : decode (mc mX11_firstWrong) 125 = .ok (.getfield 9, 3) := by decide +kernel
theorem dX11_firstWrong_128 : decode (mc mX11_firstWrong) 128 = .ok (.iconst 3, 1) := by decide +kernel
theorem dX11_firstWrong_129 : decode (mc mX11_firstWrong) 129 = .ok (.iaload, 1) := by decide +kernel
theorem dX11_firstWrong_130 : decode (mc mX11_firstWrong) 130 = .ok (.if_icmp .ge 32, 3) := by decide +kernel
theorem dX11_firstWrong_133 : decode (mc mX11_firstWrong) 133 = .ok (.aload_n 0, 1) := by decide +kernel
theorem dX11_firstWrong_134 : decode (mc mX11_firstWrong) 134 = .ok (.getfield 50, 3) := by decide +kernel
theorem dX11_firstWrong_137 : decode (mc mX11_firstWrong) 137 = .ok (.iload 4, 2) := by decide +kernel
theorem dX11_firstWrong_139 : decode (mc mX11_firstWrong) 139 = .ok (.aload_n 0, 1) := by decide +kernel
theorem dX11_firstWrong_140 : decode (mc mX11_firstWrong) 140 = .ok (.getfield 50, 3) := by decide +kernel
theorem dX11_firstWrong_143 : decode (mc mX11_firstWrong) 143 = .ok (.iload 4, 2) := by decide +kernel
theorem dX11_firstWrong_145 : decode (mc mX11_firstWrong) 145 = .ok (.iaload, 1) := by decide +kernel
theorem dX11_firstWrong_146 : decode (mc mX11_firstWrong) 146 = .ok (.iload_n 3, 1) := by decide +kernel
theorem dX11_firstWrong_147 : decode (mc mX11_firstWrong) 147 = .ok (.iload 4, 2) := by decide +kernel
theorem dX11_firstWrong_149 : decode (mc mX11_firstWrong) 149 = .ok (.invokestatic 165, 3) := by decide +kernel
theorem dX11_firstWrong_152 : decode (mc mX11_firstWrong) 152 = .ok (.invokestatic 173, 3) := by decide +kernel
theorem dX11_firstWrong_155 : decode (mc mX11_firstWrong) 155 = .ok (.iastore, 1) := by decide +kernel
theorem dX11_firstWrong_156 : decode (mc mX11_firstWrong) 156 = .ok (.iinc 4 1, 3) := by decide +kernel
theorem dX11_firstWrong_159 : decode (mc mX11_firstWrong) 159 = .ok (.goto (-37), 3) := by decide +kernel
theorem dX11_firstWrong_162 : decode (mc mX11_firstWrong) 162 = .ok (.iinc 2 1, 3) := by decide +kernel
theorem dX11_firstWrong_165 : decode (mc mX11_firstWrong) 165 = .ok (.goto (-132), 3) := by decide +kernel
theorem dX11_firstWrong_168 : decode (mc mX11_firstWrong) 168 = .ok (.bipush (-9), 2) := by decide +kernel
theorem dX11_firstWrong_170 : decode (mc mX11_firstWrong) 170 = .ok (.ireturn, 1) := by decide +kernel
theorem dX11_judge_0 : decode (mc mX11_judge) 0 = .ok (.iload_n 1, 1) := by decide +kernel
theorem dX11_judge_1 : decode (mc mX11_judge) 1 = .ok (.invokestatic 296, 3) := by decide +kernel
theorem dX11_judge_4 : decode (mc mX11_judge) 4 = .ok (.ifCond .ne 9, 3) := by decide +kernel
theorem dX11_judge_7 : decode (mc mX11_judge) 7 = .ok (.aload_n 0, 1) := by decide +kernel
theorem dX11_judge_8 : decode (mc mX11_judge) 8 = .ok (.iconst (-1), 1) := by decide +kernel
theorem dX11_judge_9 : decode (mc mX11_judge) 9 = .ok (.invokevirtual 79, 3) := by decide +kernel
theorem dX11_judge_12 : decode (mc mX11_judge) 12 = .ok (.ireturn, 1) := by decide +kernel
theorem dX11_judge_13 : decode (mc mX11_judge) 13 = .ok (.aload_n 0, 1) := by decide +kernel
theorem dX11_judge_14 : decode (mc mX11_judge) 14 = .ok (.getfield 56, 3) := by decide +kernel
theorem dX11_judge_17 : decode (mc mX11_judge) 17 = .ok (.iload_n 1, 1) := by decide +kernel
theorem dX11_judge_18 : decode (mc mX11_judge) 18 = .ok (.iaload, 1) := by decide +kernel
theorem dX11_judge_19 : decode (mc mX11_judge) 19 = .ok (.bipush (-9), 2) := by decide +kernel
theorem dX11_judge_21 : decode (mc mX11_judge) 21 = .ok (.if_icmp .ne 6, 3) := by decide +kernel
theorem dX11_judge_24 : decode (mc mX11_judge) 24 = .ok (.bipush (-11), 2) := by decide +kernel
theorem dX11_judge_26 : decode (mc mX11_judge) 26 = .ok (.ireturn, 1) := by decide +kernel
theorem dX11_judge_27 : decode (mc mX11_judge) 27 = .ok (.aload_n 0, 1) := by decide +kernel
theorem dX11_judge_28 : decode (mc mX11_judge) 28 = .ok (.getfield 56, 3) := by decide +kernel
theorem dX11_judge_31 : decode (mc mX11_judge) 31 = .ok (.iload_n 1, 1) := by decide +kernel
theorem dX11_judge_32 : decode (mc mX11_judge) 32 = .ok (.iaload, 1) := by decide +kernel
theorem dX11_judge_33 : decode (mc mX11_judge) 33 = .ok (.aload_n 0, 1) := by decide +kernel
theorem dX11_judge_34 : decode (mc mX11_judge) 34 = .ok (.getfield 9, 3) := by decide +kernel
theorem dX11_judge_37 : decode (mc mX11_judge) 37 = .ok (.iconst 3, 1) := by decide +kernel
theorem dX11_judge_38 : decode (mc mX11_judge) 38 = .ok (.iaload, 1) := by decide +kernel
theorem dX11_judge_39 : decode (mc mX11_judge) 39 = .ok (.if_icmp .ge 15, 3) := by decide +kernel
theorem dX11_judge_42 : decode (mc mX11_judge) 42 = .ok (.bipush 100, 2) := by decide +kernel
theorem dX11_judge_44 : decode (mc mX11_judge) 44 = .ok (.aload_n 0, 1) := by decide +kernel
theorem dX11_judge_45 : decode (mc mX11_judge) 45 = .ok (.getfield 56, 3) := by decide +kernel
theorem dX11_judge_48 : decode (mc mX11_judge) 48 = .ok (.iload_n 1, 1) := by decide +kernel
theorem dX11_judge_49 : decode (mc mX11_judge) 49 = .ok (.iaload, 1) := by decide +kernel
theorem dX11_judge_50 : decode (mc mX11_judge) 50 = .ok (.iadd, 1) := by decide +kernel
theorem dX11_judge_51 : decode (mc mX11_judge) 51 = .ok (.goto 8, 3) := by decide +kernel
theorem dX11_judge_54 : decode (mc mX11_judge) 54 = .ok (.aload_n 0, 1) := by decide +kernel
theorem dX11_judge_55 : decode (mc mX11_judge) 55 = .ok (.iload_n 1, 1) := by decide +kernel
theorem dX11_judge_56 : decode (mc mX11_judge) 56 = .ok (.invokevirtual 299, 3) := by decide +kernel
theorem dX11_judge_59 : decode (mc mX11_judge) 59 = .ok (.ireturn, 1) := by decide +kernel
theorem dX11_isSo_0 : decode (mc mX11_isSo) 0 = .ok (.iconst 1, 1) := by decide +kernel
theorem dX11_isSo_1 : decode (mc mX11_isSo) 1 = .ok (.istore 5, 2) := by decide +kernel
theorem dX11_isSo_3 : decode (mc mX11_isSo) 3 = .ok (.iconst 0, 1) := by decide +kernel
theorem dX11_isSo_4 : decode (mc mX11_isSo) 4 = .ok (.istore 6, 2) := by decide +kernel
theorem dX11_isSo_6 : decode (mc mX11_isSo) 6 = .ok (.iload 6, 2) := by decide +kernel
theorem dX11_isSo_8 : decode (mc mX11_isSo) 8 = .ok (.aload_n 0, 1) := by decide +kernel
theorem dX11_isSo_9 : decode (mc mX11_isSo) 9 = .ok (.getfield 56, 3) := by decide +kernel
theorem dX11_isSo_12 : decode (mc mX11_isSo) 12 = .ok (.iload_n 1, 1) := by decide +kernel
theorem dX11_isSo_13 : decode (mc mX11_isSo) 13 = .ok (.iaload, 1) := by decide +kernel
theorem dX11_isSo_14 : decode (mc mX11_isSo) 14 = .ok (.if_icmp .ge 47, 3) := by decide +kernel
theorem dX11_isSo_17 : decode (mc mX11_isSo) 17 = .ok (.iload 5, 2) := by decide +kernel
theorem dX11_isSo_19 : decode (mc mX11_isSo) 19 = .ok (.ifCond .eq 33, 3) := by decide +kernel
theorem dX11_isSo_22 : decode (mc mX11_isSo) 22 = .ok (.aload_n 0, 1) := by decide +kernel
theorem dX11_isSo_23 : decode (mc mX11_isSo) 23 = .ok (.getfield 59, 3) := by decide +kernel
theorem dX11_isSo_26 : decode (mc mX11_isSo) 26 = .ok (.bipush 20, 2) := by decide +kernel
theorem dX11_isSo_28 : decode (mc mX11_isSo) 28 = .ok (.iload_n 1, 1) := by decide +kernel
theorem dX11_isSo_29 : decode (mc mX11_isSo) 29 = .ok (.imul, 1) := by decide +kernel
theorem dX11_isSo_30 : decode (mc mX11_isSo) 30 = .ok (.iload 6, 2) := by decide +kernel
theorem dX11_isSo_32 : decode (mc mX11_isSo) 32 = .ok (.iadd, 1) := by decide +kernel
theorem dX11_isSo_33 : decode (mc mX11_isSo) 33 = .ok (.iaload, 1) := by decide +kernel
theorem dX11_isSo_34 : decode (mc mX11_isSo) 34 = .ok (.iload_n 2, 1) := by decide +kernel
theorem dX11_isSo_35 : decode (mc mX11_isSo) 35 = .ok (.iload_n 3, 1) := by decide +kernel
theorem dX11_isSo_36 : decode (mc mX11_isSo) 36 = .ok (.iload 4, 2) := by decide +kernel
theorem dX11_isSo_38 : decode (mc mX11_isSo) 38 = .ok (.iload 6, 2) := by decide +kernel
theorem dX11_isSo_40 : decode (mc mX11_isSo) 40 = .ok (.iconst 1, 1) := by decide +kernel
theorem dX11_isSo_41 : decode (mc mX11_isSo) 41 = .ok (.iadd, 1) := by decide +kernel
theorem dX11_isSo_42 : decode (mc mX11_isSo) 42 = .ok (.invokestatic 145, 3) := by decide +kernel
theorem dX11_isSo_45 : decode (mc mX11_isSo) 45 = .ok (.if_icmp .ne 7, 3) := by decide +kernel
theorem dX11_isSo_48 : decode (mc mX11_isSo) 48 = .ok (.iconst 1, 1) := by decide +kernel
theorem dX11_isSo_49 : decode (mc mX11_isSo) 49 = .ok (.goto 4, 3) := by decide +kernel
theorem dX11_isSo_52 : decode (mc mX11_isSo) 52 = .ok (.iconst 0, 1) := by decide +kernel
theorem dX11_isSo_53 : decode (mc mX11_isSo) 53 = .ok (.istore 5, 2) := by decide +kernel
theorem dX11_isSo_55 : decode (mc mX11_isSo) 55 = .ok (.iinc 6 1, 3) := by decide +kernel
theorem dX11_isSo_58 : decode (mc mX11_isSo) 58 = .ok (.goto (-52), 3) := by decide +kernel
theorem dX11_isSo_61 : decode (mc mX11_isSo) 61 = .ok (.iload 5, 2) := by decide +kernel
theorem dX11_isSo_63 : decode (mc mX11_isSo) 63 = .ok (.ireturn, 1) := by decide +kernel
theorem dX11_whatIs_0 : decode (mc mX11_whatIs) 0 = .ok (.iload_n 1, 1) := by decide +kernel
theorem dX11_whatIs_1 : decode (mc mX11_whatIs) 1 = .ok (.invokestatic 296, 3) := by decide +kernel
theorem dX11_whatIs_4 : decode (mc mX11_whatIs) 4 = .ok (.ifCond .eq 11, 3) := by decide +kernel
theorem dX11_whatIs_7 : decode (mc mX11_whatIs) 7 = .ok (.aload_n 0, 1) := by decide +kernel
theorem dX11_whatIs_8 : decode (mc mX11_whatIs) 8 = .ok (.iload_n 2, 1) := by decide +kernel
theorem dX11_whatIs_9 : decode (mc mX11_whatIs) 9 = .ok (.invokevirtual 124, 3) := by decide +kernel
theorem dX11_whatIs_12 : decode (mc mX11_whatIs) 12 = .ok (.ifCond .ne 9, 3) := by decide +kernel
theorem dX11_whatIs_15 : decode (mc mX11_whatIs) 15 = .ok (.aload_n 0, 1) := by decide +kernel
theorem dX11_whatIs_16 : decode (mc mX11_whatIs) 16 = .ok (.iconst (-1), 1) := by decide +kernel
theorem dX11_whatIs_17 : decode (mc mX11_whatIs) 17 = .ok (.invokevirtual 79, 3) := by decide +kernel
theorem dX11_whatIs_20 : decode (mc mX11_whatIs) 20 = .ok (.ireturn, 1) := by decide +kernel
theorem dX11_whatIs_21 : decode (mc mX11_whatIs) 21 = .ok (.iload_n 3, 1) := by decide +kernel
theorem dX11_whatIs_22 : decode (mc mX11_whatIs) 22 = .ok (.i2l, 1) := by decide +kernel
theorem dX11_whatIs_23 : decode (mc mX11_whatIs) 23 = .ok (.lconst 0, 1) := by decide +kernel
theorem dX11_whatIs_24 : decode (mc mX11_whatIs) 24 = .ok (.lconst 1, 1) := by decide +kernel
theorem dX11_whatIs_25 : decode (mc mX11_whatIs) 25 = .ok (.invokestatic 89, 3) := by decide +kernel
theorem dX11_whatIs_28 : decode (mc mX11_whatIs) 28 = .ok (.ifCond .ne 10, 3) := by decide +kernel
theorem dX11_whatIs_31 : decode (mc mX11_whatIs) 31 = .ok (.aload_n 0, 1) := by decide +kernel
theorem dX11_whatIs_32 : decode (mc mX11_whatIs) 32 = .ok (.bipush (-2), 2) := by decide +kernel
theorem dX11_whatIs_34 : decode (mc mX11_whatIs) 34 = .ok (.invokevirtual 79, 3) := by decide +kernel
theorem dX11_whatIs_37 : decode (mc mX11_whatIs) 37 = .ok (.ireturn, 1) := by decide +kernel
theorem dX11_whatIs_38 : decode (mc mX11_whatIs) 38 = .ok (.aload_n 0, 1) := by decide +kernel
theorem dX11_whatIs_39 : decode (mc mX11_whatIs) 39 = .ok (.getfield 56, 3) := by decide +kernel
theorem dX11_whatIs_42 : decode (mc mX11_whatIs) 42 = .ok (.iload_n 1, 1) := by decide +kernel
theorem dX11_whatIs_43 : decode (mc mX11_whatIs) 43 = .ok (.iaload, 1) := by decide +kernel
theorem dX11_whatIs_44 : decode (mc mX11_whatIs) 44 = .ok (.bipush (-9), 2) := by decide +kernel
theorem dX11_whatIs_46 : decode (mc mX11_whatIs) 46 = .ok (.if_icmp .ne 6, 3) := by decide +kernel
theorem dX11_whatIs_49 : decode (mc mX11_whatIs) 49 = .ok (.bipush (-11), 2) := by decide +kernel
theorem dX11_whatIs_51 : decode (mc mX11_whatIs) 51 = .ok (.ireturn, 1) := by decide +kernel
theorem dX11_whatIs_52 : decode (mc mX11_whatIs) 52 = .ok (.iconst 0, 1) := by decide +kernel
theorem dX11_whatIs_53 : decode (mc mX11_whatIs) 53 = .ok (.istore 4, 2) := by decide +kernel
theorem dX11_whatIs_55 : decode (mc mX11_whatIs) 55 = .ok (.iconst 0, 1) := by decide +kernel
theorem dX11_whatIs_56 : decode (mc mX11_whatIs) 56 = .ok (.istore 5, 2) := by decide +kernel
theorem dX11_whatIs_58 : decode (mc mX11_whatIs) 58 = .ok (.iload 5, 2) := by decide +kernel
theorem dX11_whatIs_60 : decode (mc mX11_whatIs) 60 = .ok (.iload_n 3, 1) := by decide +kernel
theorem dX11_whatIs_61 : decode (mc mX11_whatIs) 61 = .ok (.ifCond .ne 8, 3) := by decide +kernel
theorem dX11_whatIs_64 : decode (mc mX11_whatIs) 64 = .ok (.bipush 6, 2) := by decide +kernel
theorem dX11_whatIs_66 : decode (mc mX11_whatIs) 66 = .ok (.goto 5, 3) := by decide +kernel
theorem dX11_whatIs_69 : decode (mc mX11_whatIs) 69 = .ok (.bipush 10, 2) := by decide +kernel
theorem dX11_whatIs_71 : decode (mc mX11_whatIs) 71 = .ok (.if_icmp .ge 76, 3) := by decide +kernel
theorem dX11_whatIs_74 : decode (mc mX11_whatIs) 74 = .ok (.iload_n 3, 1) := by decide +kernel
theorem dX11_whatIs_75 : decode (mc mX11_whatIs) 75 = .ok (.ifCond .ne 26, 3) := by decide +kernel
theorem dX11_whatIs_78 : decode (mc mX11_whatIs) 78 = .ok (.aload_n 0, 1) := by decide +kernel
theorem dX11_whatIs_79 : decode (mc mX11_whatIs) 79 = .ok (.iload_n 1, 1) := by decide +kernel
theorem dX11_whatIs_80 : decode (mc mX11_whatIs) 80 = .ok (.iload 5, 2) := by decide +kernel
theorem dX11_whatIs_82 : decode (mc mX11_whatIs) 82 = .ok (.aload_n 0, 1) := by decide +kernel
theorem dX11_whatIs_83 : decode (mc mX11_whatIs) 83 = .ok (.iload_n 2, 1) := by decide +kernel
theorem dX11_whatIs_84 : decode (mc mX11_whatIs) 84 = .ok (.iconst 1, 1) := by decide +kernel
theorem dX11_whatIs_85 : decode (mc mX11_whatIs) 85 = .ok (.invokevirtual 130, 3) := by decide +kernel
theorem dX11_whatIs_88 : decode (mc mX11_whatIs) 88 = .ok (.aload_n 0, 1) := by decide +kernel
theorem dX11_whatIs_89 : decode (mc mX11_whatIs) 89 = .ok (.iload_n 2, 1) := by decide +kernel
theorem dX11_whatIs_90 : decode (mc mX11_whatIs) 90 = .ok (.bipush 6, 2) := by decide +kernel
theorem dX11_whatIs_92 : decode (mc mX11_whatIs) 92 = .ok (.invokevirtual 130, 3) := by decide +kernel
theorem dX11_whatIs_95 : decode (mc mX11_whatIs) 95 = .ok (.invokevirtual 302, 3) := by decide +kernel
theorem dX11_whatIs_98 : decode (mc mX11_whatIs) 98 = .ok (.goto 23, 3) := by decide +kernel
theorem dX11_whatIs_101 : decode (mc mX11_whatIs) 101 = .ok (.aload_n 0, 1) := by decide +kernel
theorem dX11_whatIs_102 : decode (mc mX11_whatIs) 102 = .ok (.iload_n 1, 1) := by decide +kernel
theorem dX11_whatIs_103 : decode (mc mX11_whatIs) 103 = .ok (.aload_n 0, 1) := by decide +kernel
theorem dX11_whatIs_104 : decode (mc mX11_whatIs) 104 = .ok (.iload_n 2, 1) := by decide +kernel
theorem dX11_whatIs_105 : decode (mc mX11_whatIs) 105 = .ok (.iconst 0, 1) := by decide +kernel
theorem dX11_whatIs_106 : decode (mc mX11_whatIs) 106 = .ok (.invokevirtual 130, 3) := by decide +kernel
theorem dX11_whatIs_109 : decode (mc mX11_whatIs) 109 = .ok (.iload 5, 2) := by decide +kernel
theorem dX11_whatIs_111 : decode (mc mX11_whatIs) 111 = .ok (.aload_n 0, 1) := by decide +kernel
theorem dX11_whatIs_112 : decode (mc mX11_whatIs) 112 = .ok (.iload_n 2, 1) := by decide +kernel
theorem dX11_whatIs_113 : decode (mc mX11_whatIs) 113 = .ok (.bipush 6, 2) := by decide +kernel
theorem dX11_whatIs_115 : decode (mc mX11_whatIs) 115 = .ok (.invokevirtual 130, 3) := by decide +kernel
theorem dX11_whatIs_118 : decode (mc mX11_whatIs) 118 = .ok (.invokevirtual 302, 3) := by decide +kernel
theorem dX11_whatIs_121 : decode (mc mX11_whatIs) 121 = .ok (.istore 6, 2) := by decide +kernel
theorem dX11_whatIs_123 : decode (mc mX11_whatIs) 123 = .ok (.iload 4, 2) := by decide +kernel
theorem dX11_whatIs_125 : decode (mc mX11_whatIs) 125 = .ok (.iload 6, 2) := by decide +kernel
theorem dX11_whatIs_127 : decode (mc mX11_whatIs) 127 = .ok (.ifCond .eq 10, 3) := by decide +kernel
theorem dX11_whatIs_130 : decode (mc mX11_whatIs) 130 = .ok (.iconst 1, 1) := by decide +kernel
theorem dX11_whatIs_131 : decode (mc mX11_whatIs) 131 = .ok (.iload 5, 2) := by decide +kernel
theorem dX11_whatIs_133 : decode (mc mX11_whatIs) 133 = .ok (.ishl, 1) := by decide +kernel
theorem dX11_whatIs_134 : decode (mc mX11_whatIs) 134 = .ok (.goto 4, 3) := by decide +kernel
theorem dX11_whatIs_137 : decode (mc mX11_whatIs) 137 = .ok (.iconst 0, 1) := by decide +kernel
theorem dX11_whatIs_138 : decode (mc mX11_whatIs) 138 = .ok (.ior, 1) := by decide +kernel
theorem dX11_whatIs_139 : decode (mc mX11_whatIs) 139 = .ok (.istore 4, 2) := by decide +kernel
theorem dX11_whatIs_141 : decode (mc mX11_whatIs) 141 = .ok (.iinc 5 1, 3) := by decide +kernel
theorem dX11_whatIs_144 : decode (mc mX11_whatIs) 144 = .ok (.goto (-86), 3) := by decide +kernel
theorem dX11_whatIs_147 : decode (mc mX11_whatIs) 147 = .ok (.iload 4, 2) := by decide +kernel
theorem dX11_whatIs_149 : decode (mc mX11_whatIs) 149 = .ok (.ireturn, 1) := by decide +kernel
theorem dX11_lots_0 : decode (mc mX11_lots) 0 = .ok (.iload_n 1, 1) := by decide +kernel
theorem dX11_lots_1 : decode (mc mX11_lots) 1 = .ok (.iconst 1, 1) := by decide +kernel
theorem dX11_lots_2 : decode (mc mX11_lots) 2 = .ok (.bipush 20, 2) := by decide +kernel
theorem dX11_lots_4 : decode (mc mX11_lots) 4 = .ok (.invokestatic 93, 3) := by decide +kernel
theorem dX11_lots_7 : decode (mc mX11_lots) 7 = .ok (.istore 4, 2) := by decide +kernel
theorem dX11_lots_9 : decode (mc mX11_lots) 9 = .ok (.iload 4, 2) := by decide +kernel
theorem dX11_lots_11 : decode (mc mX11_lots) 11 = .ok (.ifCond .ne 17, 3) := by decide +kernel
theorem dX11_lots_14 : decode (mc mX11_lots) 14 = .ok (.iload_n 3, 1) := by decide +kernel
theorem dX11_lots_15 : decode (mc mX11_lots) 15 = .ok (.i2l, 1) := by decide +kernel
theorem dX11_lots_16 : decode (mc mX11_lots) 16 = .ok (.lconst 0, 1) := by decide +kernel
theorem dX11_lots_17 : decode (mc mX11_lots) 17 = .ok (.lconst 1, 1) := by decide +kernel
theorem dX11_lots_18 : decode (mc mX11_lots) 18 = .ok (.invokestatic 89, 3) := by decide +kernel
theorem dX11_lots_21 : decode (mc mX11_lots) 21 = .ok (.ifCond .ne 7, 3) := by decide +kernel
theorem dX11_lots_24 : decode (mc mX11_lots) 24 = .ok (.bipush (-2), 2) := by decide +kernel
theorem dX11_lots_26 : decode (mc mX11_lots) 26 = .ok (.istore 4, 2) := by decide +kernel
theorem dX11_lots_28 : decode (mc mX11_lots) 28 = .ok (.iload 4, 2) := by decide +kernel
theorem dX11_lots_30 : decode (mc mX11_lots) 30 = .ok (.ifCond .eq 10, 3) := by decide +kernel
theorem dX11_lots_33 : decode (mc mX11_lots) 33 = .ok (.aload_n 0, 1) := by decide +kernel
theorem dX11_lots_34 : decode (mc mX11_lots) 34 = .ok (.iload 4, 2) := by decide +kernel
theorem dX11_lots_36 : decode (mc mX11_lots) 36 = .ok (.invokevirtual 79, 3) := by decide +kernel
theorem dX11_lots_39 : decode (mc mX11_lots) 39 = .ok (.ireturn, 1) := by decide +kernel
theorem dX11_lots_40 : decode (mc mX11_lots) 40 = .ok (.iload_n 2, 1) := by decide +kernel
theorem dX11_lots_41 : decode (mc mX11_lots) 41 = .ok (.istore 5, 2) := by decide +kernel
theorem dX11_lots_43 : decode (mc mX11_lots) 43 = .ok (.iconst 0, 1) := by decide +kernel
theorem dX11_lots_44 : decode (mc mX11_lots) 44 = .ok (.istore 6, 2) := by decide +kernel
theorem dX11_lots_46 : decode (mc mX11_lots) 46 = .ok (.aload_n 0, 1) := by decide +kernel
theorem dX11_lots_47 : decode (mc mX11_lots) 47 = .ok (.invokevirtual 261, 3) := by decide +kernel
theorem dX11_lots_50 : decode (mc mX11_lots) 50 = .ok (.iconst 0, 1) := by decide +kernel
theorem dX11_lots_51 : decode (mc mX11_lots) 51 = .ok (.istore 7, 2) := by decide +kernel
theorem dX11_lots_53 : decode (mc mX11_lots) 53 = .ok (.iload 7, 2) := by decide +kernel
theorem dX11_lots_55 : decode (mc mX11_lots) 55 = .ok (.iload_n 1, 1) := by decide +kernel
theorem dX11_lots_56 : decode (mc mX11_lots) 56 = .ok (.if_icmp .ge 95, 3) := by decide +kernel
theorem dX11_lots_59 : decode (mc mX11_lots) 59 = .ok (.iconst 0, 1) := by decide +kernel
theorem dX11_lots_60 : decode (mc mX11_lots) 60 = .ok (.istore 8, 2) := by decide +kernel
theorem dX11_lots_62 : decode (mc mX11_lots) 62 = .ok (.iload 8, 2) := by decide +kernel
theorem dX11_lots_64 : decode (mc mX11_lots) 64 = .ok (.aload_n 0, 1) := by decide +kernel
theorem dX11_lots_65 : decode (mc mX11_lots) 65 = .ok (.getfield 9, 3) := by decide +kernel
theorem dX11_lots_68 : decode (mc mX11_lots) 68 = .ok (.iconst 0, 1) := by decide +kernel
theorem dX11_lots_69 : decode (mc mX11_lots) 69 = .ok (.iaload, 1) := by decide +kernel
theorem dX11_lots_70 : decode (mc mX11_lots) 70 = .ok (.if_icmp .ge 43, 3) := by decide +kernel
theorem dX11_lots_73 : decode (mc mX11_lots) 73 = .ok (.iload 5, 2) := by decide +kernel
theorem dX11_lots_75 : decode (mc mX11_lots) 75 = .ok (.ldc_w 306, 3) := by decide +kernel
theorem dX11_lots_78 : decode (mc mX11_lots) 78 = .ok (.imul, 1) := by decide +kernel
theorem dX11_lots_79 : decode (mc mX11_lots) 79 = .ok (.ldc_w 307, 3) := by decide +kernel
theorem dX11_lots_82 : decode (mc mX11_lots) 82 = .ok (.iadd, 1) := by decide +kernel
theorem dX11_lots_83 : decode (mc mX11_lots) 83 = .ok (.istore 5, 2) := by decide +kernel
theorem dX11_lots_85 : decode (mc mX11_lots) 85 = .ok (.aload_n 0, 1) := by decide +kernel
theorem dX11_lots_86 : decode (mc mX11_lots) 86 = .ok (.getfield 9, 3) := by decide +kernel
theorem dX11_lots_89 : decode (mc mX11_lots) 89 = .ok (.iconst 4, 1) := by decide +kernel
theorem dX11_lots_90 : decode (mc mX11_lots) 90 = .ok (.iload 8, 2) := by decide +kernel
theorem dX11_lots_92 : decode (mc mX11_lots) 92 = .ok (.iadd, 1) := by decide +kernel
theorem dX11_lots_93 : decode (mc mX11_lots) 93 = .ok (.iload 5, 2) := by decide +kernel
theorem dX11_lots_95 : decode (mc mX11_lots) 95 = .ok (.ldc_w 308, 3) := by decide +kernel
theorem dX11_lots_98 : decode (mc mX11_lots) 98 = .ok (.iand, 1) := by decide +kernel
theorem dX11_lots_99 : decode (mc mX11_lots) 99 = .ok (.sipush 256, 3) := by decide +kernel
theorem dX11_lots_102 : decode (mc mX11_lots) 102 = .ok (.idiv, 1) := by decide +kernel
theorem dX11_lots_103 : decode (mc mX11_lots) 103 = .ok (.bipush 100, 2) := by decide +kernel
theorem dX11_lots_105 : decode (mc mX11_lots) 105 = .ok (.irem, 1) := by decide +kernel
theorem dX11_lots_106 : decode (mc mX11_lots) 106 = .ok (.iastore, 1) := by decide +kernel
theorem dX11_lots_107 : decode (mc mX11_lots) 107 = .ok (.iinc 8 1, 3) := by decide +kernel
theorem dX11_lots_110 : decode (mc mX11_lots) 110 = .ok (.goto (-48), 3) := by decide +kernel
theorem dX11_lots_113 : decode (mc mX11_lots) 113 = .ok (.aload_n 0, 1) := by decide +kernel
theorem dX11_lots_114 : decode (mc mX11_lots) 114 = .ok (.invokevirtual 220, 3) := by decide +kernel
theorem dX11_lots_117 : decode (mc mX11_lots) 117 = .ok (.istore 8, 2) := by decide +kernel
theorem dX11_lots_119 : decode (mc mX11_lots) 119 = .ok (.iload 6, 2) := by decide +kernel
theorem dX11_lots_121 : decode (mc mX11_lots) 121 = .ok (.iload 8, 2) := by decide +kernel
theorem dX11_lots_123 : decode (mc mX11_lots) 123 = .ok (.bipush (-9), 2) := by decide +kernel
theorem dX11_lots_125 : decode (mc mX11_lots) 125 = .ok (.if_icmp .ne 7, 3) := by decide +kernel
theorem dX11_lots_128 : decode (mc mX11_lots) 128 = .ok (.iconst 0, 1) := by decide +kernel
theorem dX11_lots_129 : decode (mc mX11_lots) 129 = .ok (.goto 13, 3) := by decide +kernel
theorem dX11_lots_132 : decode (mc mX11_lots) 132 = .ok (.iload_n 3, 1) := by decide +kernel
theorem dX11_lots_133 : decode (mc mX11_lots) 133 = .ok (.ifCond .ne 7, 3) := by decide +kernel
theorem dX11_lots_136 : decode (mc mX11_lots) 136 = .ok (.iconst 1, 1) := by decide +kernel
theorem dX11_lots_137 : decode (mc mX11_lots) 137 = .ok (.goto 5, 3) := by decide +kernel
theorem dX11_lots_140 : decode (mc mX11_lots) 140 = .ok (.iload 8, 2) := by decide +kernel
theorem dX11_lots_142 : decode (mc mX11_lots) 142 = .ok (.iadd, 1) := by decide +kernel
theorem dX11_lots_143 : decode (mc mX11_lots) 143 = .ok (.istore 6, 2) := by decide +kernel
theorem dX11_lots_145 : decode (mc mX11_lots) 145 = .ok (.iinc 7 1, 3) := by decide +kernel
theorem dX11_lots_148 : decode (mc mX11_lots) 148 = .ok (.goto (-95), 3) := by decide +kernel
theorem dX11_lots_151 : decode (mc mX11_lots) 151 = .ok (.aload_n 0, 1) := by decide +kernel
theorem dX11_lots_152 : decode (mc mX11_lots) 152 = .ok (.invokevirtual 273, 3) := by decide +kernel
theorem dX11_lots_155 : decode (mc mX11_lots) 155 = .ok (.iload 6, 2) := by decide +kernel
theorem dX11_lots_157 : decode (mc mX11_lots) 157 = .ok (.ireturn, 1) := by decide +kernel
theorem dX11_isOver_0 : decode (mc mX11_isOver) 0 = .ok (.lload_n 0, 1) := by decide +kernel
theorem dX11_isOver_1 : decode (mc mX11_isOver) 1 = .ok (.lconst 0, 1) := by decide +kernel
theorem dX11_isOver_2 : decode (mc mX11_isOver) 2 = .ok (.lcmp, 1) := by decide +kernel
theorem dX11_isOver_3 : decode (mc mX11_isOver) 3 = .ok (.ifCond .eq 9, 3) := by decide +kernel
theorem dX11_isOver_6 : decode (mc mX11_isOver) 6 = .ok (.lload_n 2, 1) := by decide +kernel
theorem dX11_isOver_7 : decode (mc mX11_isOver) 7 = .ok (.lconst 0, 1) := by decide +kernel
theorem dX11_isOver_8 : decode (mc mX11_isOver) 8 = .ok (.lcmp, 1) := by decide +kernel
theorem dX11_isOver_9 : decode (mc mX11_isOver) 9 = .ok (.ifCond .ne 5, 3) := by decide +kernel
theorem dX11_isOver_12 : decode (mc mX11_isOver) 12 = .ok (.iconst 0, 1) := by decide +kernel
theorem dX11_isOver_13 : decode (mc mX11_isOver) 13 = .ok (.ireturn, 1) := by decide +kernel
theorem dX11_isOver_14 : decode (mc mX11_isOver) 14 = .ok (.lload_n 0, 1) := by decide +kernel
theorem dX11_isOver_15 : decode (mc mX11_isOver) 15 = .ok (.ldc2_w 309, 3) := by decide +kernel
theorem dX11_isOver_18 : decode (mc mX11_isOver) 18 = .ok (.lcmp, 1) := by decide +kernel
theorem dX11_isOver_19 : decode (mc mX11_isOver) 19 = .ok (.ifCond .ne 11, 3) := by decide +kernel
theorem dX11_isOver_22 : decode (mc mX11_isOver) 22 = .ok (.lload_n 2, 1) := by decide +kernel
theorem dX11_isOver_23 : decode (mc mX11_isOver) 23 = .ok (.ldc2_w 313, 3) := by decide +kernel
theorem dX11_isOver_26 : decode (mc mX11_isOver) 26 = .ok (.lcmp, 1) := by decide +kernel
theorem dX11_isOver_27 : decode (mc mX11_isOver) 27 = .ok (.ifCond .eq 29, 3) := by decide +kernel
theorem dX11_isOver_30 : decode (mc mX11_isOver) 30 = .ok (.lload_n 2, 1) := by decide +kernel
theorem dX11_isOver_31 : decode (mc mX11_isOver) 31 = .ok (.ldc2_w 309, 3) := by decide +kernel
theorem dX11_isOver_34 : decode (mc mX11_isOver) 34 = .ok (.lcmp, 1) := by decide +kernel
theorem dX11_isOver_35 : decode (mc mX11_isOver) 35 = .ok (.ifCond .ne 11, 3) := by decide +kernel
theorem dX11_isOver_38 : decode (mc mX11_isOver) 38 = .ok (.lload_n 0, 1) := by decide +kernel
theorem dX11_isOver_39 : decode (mc mX11_isOver) 39 = .ok (.ldc2_w 313, 3) := by decide +kernel
theorem dX11_isOver_42 : decode (mc mX11_isOver) 42 = .ok (.lcmp, 1) := by decide +kernel
theorem dX11_isOver_43 : decode (mc mX11_isOver) 43 = .ok (.ifCond .eq 13, 3) := by decide +kernel
theorem dX11_isOver_46 : decode (mc mX11_isOver) 46 = .ok (.lload_n 0, 1) := by decide +kernel
theorem dX11_isOver_47 : decode (mc mX11_isOver) 47 = .ok (.lload_n 2, 1) := by decide +kernel
theorem dX11_isOver_48 : decode (mc mX11_isOver) 48 = .ok (.lmul, 1) := by decide +kernel
theorem dX11_isOver_49 : decode (mc mX11_isOver) 49 = .ok (.lload_n 2, 1) := by decide +kernel
theorem dX11_isOver_50 : decode (mc mX11_isOver) 50 = .ok (.ldiv, 1) := by decide +kernel
theorem dX11_isOver_51 : decode (mc mX11_isOver) 51 = .ok (.lload_n 0, 1) := by decide +kernel
theorem dX11_isOver_52 : decode (mc mX11_isOver) 52 = .ok (.lcmp, 1) := by decide +kernel
theorem dX11_isOver_53 : decode (mc mX11_isOver) 53 = .ok (.ifCond .eq 7, 3) := by decide +kernel
theorem dX11_isOver_56 : decode (mc mX11_isOver) 56 = .ok (.iconst 1, 1) := by decide +kernel
theorem dX11_isOver_57 : decode (mc mX11_isOver) 57 = .ok (.goto 4, 3) := by decide +kernel
theorem dX11_isOver_60 : decode (mc mX11_isOver) 60 = .ok (.iconst 0, 1) := by decide +kernel
theorem dX11_isOver_61 : decode (mc mX11_isOver) 61 = .ok (.ireturn, 1) := by decide +kernel
theorem dX11_comes_0 : decode (mc mX11_comes) 0 = .ok (.aload_n 0, 1) := by decide +kernel
theorem dX11_comes_1 : decode (mc mX11_comes) 1 = .ok (.getfield 315, 3) := by decide +kernel
theorem dX11_comes_4 : decode (mc mX11_comes) 4 = .ok (.lload_n 1, 1) := by decide +kernel
theorem dX11_comes_5 : decode (mc mX11_comes) 5 = .ok (.ladd, 1) := by decide +kernel
theorem dX11_comes_6 : decode (mc mX11_comes) 6 = .ok (.lstore_n 3, 1) := by decide +kernel
theorem dX11_comes_7 : decode (mc mX11_comes) 7 = .ok (.lload_n 1, 1) := by decide +kernel
theorem dX11_comes_8 : decode (mc mX11_comes) 8 = .ok (.lconst 0, 1) := by decide +kernel
theorem dX11_comes_9 : decode (mc mX11_comes) 9 = .ok (.lcmp, 1) := by decide +kernel
theorem dX11_comes_10 : decode (mc mX11_comes) 10 = .ok (.ifCond .le 12, 3) := by decide +kernel
theorem dX11_comes_13 : decode (mc mX11_comes) 13 = .ok (.lload_n 3, 1) := by decide +kernel
theorem dX11_comes_14 : decode (mc mX11_comes) 14 = .ok (.aload_n 0, 1) := by decide +kernel
theorem dX11_comes_15 : decode (mc mX11_comes) 15 = .ok (.getfield 315, 3) := by decide +kernel
theorem dX11_comes_18 : decode (mc mX11_comes) 18 = .ok (.lcmp, 1) := by decide +kernel
theorem dX11_comes_19 : decode (mc mX11_comes) 19 = .ok (.ifCond .lt 18, 3) := by decide +kernel
theorem dX11_comes_22 : decode (mc mX11_comes) 22 = .ok (.lload_n 1, 1) := by decide +kernel
theorem dX11_comes_23 : decode (mc mX11_comes) 23 = .ok (.lconst 0, 1) := by decide +kernel
theorem dX11_comes_24 : decode (mc mX11_comes) 24 = .ok (.lcmp, 1) := by decide +kernel
theorem dX11_comes_25 : decode (mc mX11_comes) 25 = .ok (.ifCond .ge 14, 3) := by decide +kernel
theorem dX11_comes_28 : decode (mc mX11_comes) 28 = .ok (.lload_n 3, 1) := by decide +kernel
theorem dX11_comes_29 : decode (mc mX11_comes) 29 = .ok (.aload_n 0, 1) := by decide +kernel
theorem dX11_comes_30 : decode (mc mX11_comes) 30 = .ok (.getfield 315, 3) := by decide +kernel
theorem dX11_comes_33 : decode (mc mX11_comes) 33 = .ok (.lcmp, 1) := by decide +kernel
theorem dX11_comes_34 : decode (mc mX11_comes) 34 = .ok (.ifCond .le 5, 3) := by decide +kernel
theorem dX11_comes_37 : decode (mc mX11_comes) 37 = .ok (.iconst 1, 1) := by decide +kernel
theorem dX11_comes_38 : decode (mc mX11_comes) 38 = .ok (.ireturn, 1) := by decide +kernel
theorem dX11_comes_39 : decode (mc mX11_comes) 39 = .ok (.aload_n 0, 1) := by decide +kernel
theorem dX11_comes_40 : decode (mc mX11_comes) 40 = .ok (.lload_n 3, 1) := by decide +kernel
theorem dX11_comes_41 : decode (mc mX11_comes) 41 = .ok (.putfield 315, 3) := by decide +kernel
theorem dX11_comes_44 : decode (mc mX11_comes) 44 = .ok (.iconst 0, 1) := by decide +kernel
theorem dX11_comes_45 : decode (mc mX11_comes) 45 = .ok (.ireturn, 1) := by decide +kernel
theorem dX11_pays_0 : decode (mc mX11_pays) 0 = .ok (.lload_n 1, 1) := by decide +kernel
theorem dX11_pays_1 : decode (mc mX11_pays) 1 = .ok (.lload_n 3, 1) := by decide +kernel
theorem dX11_pays_2 : decode (mc mX11_pays) 2 = .ok (.invokestatic 319, 3) := by decide +kernel
theorem dX11_pays_5 : decode (mc mX11_pays) 5 = .ok (.ifCond .ne 13, 3) := by decide +kernel
theorem dX11_pays_8 : decode (mc mX11_pays) 8 = .ok (.aload_n 0, 1) := by decide +kernel
theorem dX11_pays_9 : decode (mc mX11_pays) 9 = .ok (.lload_n 1, 1) := by decide +kernel
theorem dX11_pays_10 : decode (mc mX11_pays) 10 = .ok (.lload_n 3, 1) := by decide +kernel
theorem dX11_pays_11 : decode (mc mX11_pays) 11 = .ok (.lmul, 1) := by decide +kernel
theorem dX11_pays_12 : decode (mc mX11_pays) 12 = .ok (.invokevirtual 323, 3) := by decide +kernel
theorem dX11_pays_15 : decode (mc mX11_pays) 15 = .ok (.ifCond .eq 8, 3) := by decide +kernel
theorem dX11_pays_18 : decode (mc mX11_pays) 18 = .ok (.bipush (-7), 2) := by decide +kernel
theorem dX11_pays_20 : decode (mc mX11_pays) 20 = .ok (.goto 4, 3) := by decide +kernel
theorem dX11_pays_23 : decode (mc mX11_pays) 23 = .ok (.iconst 1, 1) := by decide +kernel
theorem dX11_pays_24 : decode (mc mX11_pays) 24 = .ok (.ireturn, 1) := by decide +kernel
theorem dX11_purse_0 : decode (mc mX11_purse) 0 = .ok (.aload_n 0, 1) := by decide +kernel
theorem dX11_purse_1 : decode (mc mX11_purse) 1 = .ok (.getfield 315, 3) := by decide +kernel
theorem dX11_purse_4 : decode (mc mX11_purse) 4 = .ok (.lreturn, 1) := by decide +kernel
theorem dX11_bills_0 : decode (mc mX11_bills) 0 = .ok (.aload_n 0, 1) := by decide +kernel
theorem dX11_bills_1 : decode (mc mX11_bills) 1 = .ok (.invokevirtual 220, 3) := by decide +kernel
theorem dX11_bills_4 : decode (mc mX11_bills) 4 = .ok (.istore_n 2, 1) := by decide +kernel
theorem dX11_bills_5 : decode (mc mX11_bills) 5 = .ok (.iload_n 2, 1) := by decide +kernel
theorem dX11_bills_6 : decode (mc mX11_bills) 6 = .ok (.bipush (-9), 2) := by decide +kernel
theorem dX11_bills_8 : decode (mc mX11_bills) 8 = .ok (.if_icmp .ne 10, 3) := by decide +kernel
theorem dX11_bills_11 : decode (mc mX11_bills) 11 = .ok (.aload_n 0, 1) := by decide +kernel
theorem dX11_bills_12 : decode (mc mX11_bills) 12 = .ok (.bipush (-3), 2) := by decide +kernel
theorem dX11_bills_14 : decode (mc mX11_bills) 14 = .ok (.invokevirtual 79, 3) := by decide +kernel
theorem dX11_bills_17 : decode (mc mX11_bills) 17 = .ok (.ireturn, 1) := by decide +kernel
theorem dX11_bills_18 : decode (mc mX11_bills) 18 = .ok (.aload_n 0, 1) := by decide +kernel
theorem dX11_bills_19 : decode (mc mX11_bills) 19 = .ok (.iload_n 2, 1) := by decide +kernel
theorem dX11_bills_20 : decode (mc mX11_bills) 20 = .ok (.i2l, 1) := by decide +kernel
theorem dX11_bills_21 : decode (mc mX11_bills) 21 = .ok (.iload_n 1, 1) := by decide +kernel
theorem dX11_bills_22 : decode (mc mX11_bills) 22 = .ok (.i2l, 1) := by decide +kernel
theorem dX11_bills_23 : decode (mc mX11_bills) 23 = .ok (.lmul, 1) := by decide +kernel
theorem dX11_bills_24 : decode (mc mX11_bills) 24 = .ok (.lneg, 1) := by decide +kernel
theorem dX11_bills_25 : decode (mc mX11_bills) 25 = .ok (.invokevirtual 323, 3) := by decide +kernel
theorem dX11_bills_28 : decode (mc mX11_bills) 28 = .ok (.ifCond .eq 8, 3) := by decide +kernel
theorem dX11_bills_31 : decode (mc mX11_bills) 31 = .ok (.bipush (-7), 2) := by decide +kernel
theorem dX11_bills_33 : decode (mc mX11_bills) 33 = .ok (.goto 4, 3) := by decide +kernel
theorem dX11_bills_36 : decode (mc mX11_bills) 36 = .ok (.iconst 1, 1) := by decide +kernel
theorem dX11_bills_37 : decode (mc mX11_bills) 37 = .ok (.ireturn, 1) := by decide +kernel
theorem dX11_isRack_0 : decode (mc mX11_isRack) 0 = .ok (.iload_n 0, 1) := by decide +kernel
theorem dX11_isRack_1 : decode (mc mX11_isRack) 1 = .ok (.i2l, 1) := by decide +kernel
theorem dX11_isRack_2 : decode (mc mX11_isRack) 2 = .ok (.lconst 0, 1) := by decide +kernel
theorem dX11_isRack_3 : decode (mc mX11_isRack) 3 = .ok (.ldc2_w 143, 3) := by decide +kernel
theorem dX11_isRack_6 : decode (mc mX11_isRack) 6 = .ok (.invokestatic 89, 3) := by decide +kernel
theorem dX11_isRack_9 : decode (mc mX11_isRack) 9 = .ok (.ireturn, 1) := by decide +kernel
theorem dX11_placeOf_0 : decode (mc mX11_placeOf) 0 = .ok (.iconst 3, 1) := by decide +kernel
theorem dX11_placeOf_1 : decode (mc mX11_placeOf) 1 = .ok (.bipush 9, 2) := by decide +kernel
theorem dX11_placeOf_3 : decode (mc mX11_placeOf) 3 = .ok (.iload_n 0, 1) := by decide +kernel
theorem dX11_placeOf_4 : decode (mc mX11_placeOf) 4 = .ok (.imul, 1) := by decide +kernel
theorem dX11_placeOf_5 : decode (mc mX11_placeOf) 5 = .ok (.iload_n 1, 1) := by decide +kernel
theorem dX11_placeOf_6 : decode (mc mX11_placeOf) 6 = .ok (.iadd, 1) := by decide +kernel
theorem dX11_placeOf_7 : decode (mc mX11_placeOf) 7 = .ok (.imul, 1) := by decide +kernel
theorem dX11_placeOf_8 : decode (mc mX11_placeOf) 8 = .ok (.ireturn, 1) := by decide +kernel
theorem dX11_rack_0 : decode (mc mX11_rack) 0 = .ok (.iload_n 1, 1) := by decide +kernel
theorem dX11_rack_1 : decode (mc mX11_rack) 1 = .ok (.invokestatic 327, 3) := by decide +kernel
theorem dX11_rack_4 : decode (mc mX11_rack) 4 = .ok (.ifCond .ne 9, 3) := by decide +kernel
theorem dX11_rack_7 : decode (mc mX11_rack) 7 = .ok (.aload_n 0, 1) := by decide +kernel
theorem dX11_rack_8 : decode (mc mX11_rack) 8 = .ok (.iconst (-1), 1) := by decide +kernel
theorem dX11_rack_9 : decode (mc mX11_rack) 9 = .ok (.invokevirtual 79, 3) := by decide +kernel
theorem dX11_rack_12 : decode (mc mX11_rack) 12 = .ok (.ireturn, 1) := by decide +kernel
theorem dX11_rack_13 : decode (mc mX11_rack) 13 = .ok (.iload_n 2, 1) := by decide +kernel
theorem dX11_rack_14 : decode (mc mX11_rack) 14 = .ok (.i2l, 1) := by decide +kernel
theorem dX11_rack_15 : decode (mc mX11_rack) 15 = .ok (.lconst 0, 1) := by decide +kernel
theorem dX11_rack_16 : decode (mc mX11_rack) 16 = .ok (.ldc2_w 111, 3) := by decide +kernel
theorem dX11_rack_19 : decode (mc mX11_rack) 19 = .ok (.invokestatic 89, 3) := by decide +kernel
theorem dX11_rack_22 : decode (mc mX11_rack) 22 = .ok (.ifCond .ne 10, 3) := by decide +kernel
theorem dX11_rack_25 : decode (mc mX11_rack) 25 = .ok (.aload_n 0, 1) := by decide +kernel
theorem dX11_rack_26 : decode (mc mX11_rack) 26 = .ok (.bipush (-2), 2) := by decide +kernel
theorem dX11_rack_28 : decode (mc mX11_rack) 28 = .ok (.invokevirtual 79, 3) := by decide +kernel
theorem dX11_rack_31 : decode (mc mX11_rack) 31 = .ok (.ireturn, 1) := by decide +kernel
theorem dX11_rack_32 : decode (mc mX11_rack) 32 = .ok (.iload_n 3, 1) := by decide +kernel
theorem dX11_rack_33 : decode (mc mX11_rack) 33 = .ok (.bipush 9, 2) := by decide +kernel
theorem dX11_rack_35 : decode (mc mX11_rack) 35 = .ok (.if_icmp .le 10, 3) := by decide +kernel
theorem dX11_rack_38 : decode (mc mX11_rack) 38 = .ok (.aload_n 0, 1) := by decide +kernel
theorem dX11_rack_39 : decode (mc mX11_rack) 39 = .ok (.bipush (-6), 2) := by decide +kernel
theorem dX11_rack_41 : decode (mc mX11_rack) 41 = .ok (.invokevirtual 79, 3) := by decide +kernel
theorem dX11_rack_44 : decode (mc mX11_rack) 44 = .ok (.ireturn, 1) := by decide +kernel
theorem dX11_rack_45 : decode (mc mX11_rack) 45 = .ok (.iload_n 3, 1) := by decide +kernel
theorem dX11_rack_46 : decode (mc mX11_rack) 46 = .ok (.ifCond .ge 6, 3) := by decide +kernel
theorem dX11_rack_49 : decode (mc mX11_rack) 49 = .ok (.bipush (-14), 2) := by decide +kernel
theorem dX11_rack_51 : decode (mc mX11_rack) 51 = .ok (.ireturn, 1) := by decide +kernel
theorem dX11_rack_52 : decode (mc mX11_rack) 52 = .ok (.aload_n 0, 1) := by decide +kernel
theorem dX11_rack_53 : decode (mc mX11_rack) 53 = .ok (.getfield 62, 3) := by decide +kernel
theorem dX11_rack_56 : decode (mc mX11_rack) 56 = .ok (.iload_n 1, 1) := by decide +kernel
theorem dX11_rack_57 : decode (mc mX11_rack) 57 = .ok (.iload_n 2, 1) := by decide +kernel
theorem dX11_rack_58 : decode (mc mX11_rack) 58 = .ok (.iastore, 1) := by decide +kernel
theorem dX11_rack_59 : decode (mc mX11_rack) 59 = .ok (.aload_n 0, 1) := by decide +kernel
theorem dX11_rack_60 : decode (mc mX11_rack) 60 = .ok (.getfield 65, 3) := by decide +kernel
theorem dX11_rack_63 : decode (mc mX11_rack) 63 = .ok (.iload_n 1, 1) := by decide +kernel
theorem dX11_rack_64 : decode (mc mX11_rack) 64 = .ok (.iload_n 3, 1) := by decide +kernel
theorem dX11_rack_65 : decode (mc mX11_rack) 65 = .ok (.iastore, 1) := by decide +kernel
theorem dX11_rack_66 : decode (mc mX11_rack) 66 = .ok (.iconst 0, 1) := by decide +kernel
theorem dX11_rack_67 : decode (mc mX11_rack) 67 = .ok (.istore 4, 2) := by decide +kernel
theorem dX11_rack_69 : decode (mc mX11_rack) 69 = .ok (.iload 4, 2) := by decide +kernel
theorem dX11_rack_71 : decode (mc mX11_rack) 71 = .ok (.bipush 9, 2) := by decide +kernel
theorem dX11_rack_73 : decode (mc mX11_rack) 73 = .ok (.if_icmp .ge 22, 3) := by decide +kernel
theorem dX11_rack_76 : decode (mc mX11_rack) 76 = .ok (.aload_n 0, 1) := by decide +kernel
theorem dX11_rack_77 : decode (mc mX11_rack) 77 = .ok (.getfield 68, 3) := by decide +kernel
theorem dX11_rack_80 : decode (mc mX11_rack) 80 = .ok (.iload_n 1, 1) := by decide +kernel
theorem dX11_rack_81 : decode (mc mX11_rack) 81 = .ok (.iload 4, 2) := by decide +kernel
theorem dX11_rack_83 : decode (mc mX11_rack) 83 = .ok (.invokestatic 330, 3) := by decide +kernel
theorem dX11_rack_86 : decode (mc mX11_rack) 86 = .ok (.bipush (-9), 2) := by decide +kernel
theorem dX11_rack_88 : decode (mc mX11_rack) 88 = .ok (.iastore, 1) := by decide +kernel
theorem dX11_rack_89 : decode (mc mX11_rack) 89 = .ok (.iinc 4 1, 3) := by decide +kernel
theorem dX11_rack_92 : decode (mc mX11_rack) 92 = .ok (.goto (-23), 3) := by decide +kernel
theorem dX11_rack_95 : decode (mc mX11_rack) 95 = .ok (.iconst 1, 1) := by decide +kernel
theorem dX11_rack_96 : decode (mc mX11_rack) 96 = .ok (.ireturn, 1) := by decide +kernel
theorem dX11_above_0 : decode (mc mX11_above) 0 = .ok (.iload_n 0, 1) := by decide +kernel
theorem dX11_above_1 : decode (mc mX11_above) 1 = .ok (.iconst 3, 1) := by decide +kernel
theorem dX11_above_2 : decode (mc mX11_above) 2 = .ok (.if_icmp .ne 7, 3) := by decide +kernel
theorem dX11_above_5 : decode (mc mX11_above) 5 = .ok (.iconst 2, 1) := by decide +kernel
theorem dX11_above_6 : decode (mc mX11_above) 6 = .ok (.goto 22, 3) := by decide +kernel
theorem dX11_above_9 : decode (mc mX11_above) 9 = .ok (.iload_n 0, 1) := by decide +kernel
theorem dX11_above_10 : decode (mc mX11_above) 10 = .ok (.iconst 4, 1) := by decide +kernel
theorem dX11_above_11 : decode (mc mX11_above) 11 = .ok (.if_icmp .ne 7, 3) := by decide +kernel
theorem dX11_above_14 : decode (mc mX11_above) 14 = .ok (.iconst 1, 1) := by decide +kernel
theorem dX11_above_15 : decode (mc mX11_above) 15 = .ok (.goto 13, 3) := by decide +kernel
theorem dX11_above_18 : decode (mc mX11_above) 18 = .ok (.iload_n 0, 1) := by decide +kernel
theorem dX11_above_19 : decode (mc mX11_above) 19 = .ok (.iconst 5, 1) := by decide +kernel
theorem dX11_above_20 : decode (mc mX11_above) 20 = .ok (.if_icmp .ne 7, 3) := by decide +kernel
theorem dX11_above_23 : decode (mc mX11_above) 23 = .ok (.iconst 3, 1) := by decide +kernel
theorem dX11_above_24 : decode (mc mX11_above) 24 = .ok (.goto 4, 3) := by decide +kernel
theorem dX11_above_27 : decode (mc mX11_above) 27 = .ok (.iconst 0, 1) := by decide +kernel
theorem dX11_above_28 : decode (mc mX11_above) 28 = .ok (.ireturn, 1) := by decide +kernel
theorem dX11_isUnder_0 : decode (mc mX11_isUnder) 0 = .ok (.iload_n 0, 1) := by decide +kernel
theorem dX11_isUnder_1 : decode (mc mX11_isUnder) 1 = .ok (.istore_n 2, 1) := by decide +kernel
theorem dX11_isUnder_2 : decode (mc mX11_isUnder) 2 = .ok (.iload_n 2, 1) := by decide +kernel
theorem dX11_isUnder_3 : decode (mc mX11_isUnder) 3 = .ok (.iload_n 1, 1) := by decide +kernel
theorem dX11_isUnder_4 : decode (mc mX11_isUnder) 4 = .ok (.if_icmp .eq 15, 3) := by decide +kernel
theorem dX11_isUnder_7 : decode (mc mX11_isUnder) 7 = .ok (.iload_n 2, 1) := by decide +kernel
theorem dX11_isUnder_8 : decode (mc mX11_isUnder) 8 = .ok (.ifCond .eq 11, 3) := by decide +kernel
theorem dX11_isUnder_11 : decode (mc mX11_isUnder) 11 = .ok (.iload_n 2, 1) := by decide +kernel
theorem dX11_isUnder_12 : decode (mc mX11_isUnder) 12 = .ok (.invokestatic 333, 3) := by decide +kernel
theorem dX11_isUnder_15 : decode (mc mX11_isUnder) 15 = .ok (.istore_n 2, 1) := by decide +kernel
theorem dX11_isUnder_16 : decode (mc mX11_isUnder) 16 = .ok (.goto (-14), 3) := by decide +kernel
theorem dX11_isUnder_19 : decode (mc mX11_isUnder) 19 = .ok (.iload_n 2, 1) := by decide +kernel
theorem dX11_isUnder_20 : decode (mc mX11_isUnder) 20 = .ok (.iload_n 1, 1) := by decide +kernel
theorem dX11_isUnder_21 : decode (mc mX11_isUnder) 21 = .ok (.if_icmp .ne 7, 3) := by decide +kernel
theorem dX11_isUnder_24 : decode (mc mX11_isUnder) 24 = .ok (.iconst 1, 1) := by decide +kernel
theorem dX11_isUnder_25 : decode (mc mX11_isUnder) 25 = .ok (.goto 4, 3) := by decide +kernel
theorem dX11_isUnder_28 : decode (mc mX11_isUnder) 28 = .ok (.iconst 0, 1) := by decide +kernel
theorem dX11_isUnder_29 : decode (mc mX11_isUnder) 29 = .ok (.ireturn, 1) := by decide +kernel
theorem dX11_rackWrong_0 : decode (mc mX11_rackWrong) 0 = .ok (.aload_n 0, 1) := by decide +kernel
theorem dX11_rackWrong_1 : decode (mc mX11_rackWrong) 1 = .ok (.getfield 62, 3) := by decide +kernel
theorem dX11_rackWrong_4 : decode (mc mX11_rackWrong) 4 = .ok (.iload_n 1, 1) := by decide +kernel
theorem dX11_rackWrong_5 : decode (mc mX11_rackWrong) 5 = .ok (.iaload, 1) := by decide +kernel
theorem dX11_rackWrong_6 : decode (mc mX11_rackWrong) 6 = .ok (.bipush (-9), 2) := by decide +kernel
theorem dX11_rackWrong_8 : decode (mc mX11_rackWrong) 8 = .ok (.if_icmp .ne 8, 3) := by decide +kernel
theorem dX11_rackWrong_11 : decode (mc mX11_rackWrong) 11 = .ok (.bipush (-11), 2) := by decide +kernel
theorem dX11_rackWrong_13 : decode (mc mX11_rackWrong) 13 = .ok (.goto 27, 3) := by decide +kernel
theorem dX11_rackWrong_16 : decode (mc mX11_rackWrong) 16 = .ok (.iload_n 2, 1) := by decide +kernel
theorem dX11_rackWrong_17 : decode (mc mX11_rackWrong) 17 = .ok (.i2l, 1) := by decide +kernel
theorem dX11_rackWrong_18 : decode (mc mX11_rackWrong) 18 = .ok (.lconst 0, 1) := by decide +kernel
theorem dX11_rackWrong_19 : decode (mc mX11_rackWrong) 19 = .ok (.aload_n 0, 1) := by decide +kernel
theorem dX11_rackWrong_20 : decode (mc mX11_rackWrong) 20 = .ok (.getfield 65, 3) := by decide +kernel
theorem dX11_rackWrong_23 : decode (mc mX11_rackWrong) 23 = .ok (.iload_n 1, 1) := by decide +kernel
theorem dX11_rackWrong_24 : decode (mc mX11_rackWrong) 24 = .ok (.iaload, 1) := by decide +kernel
theorem dX11_rackWrong_25 : decode (mc mX11_rackWrong) 25 = .ok (.iconst 1, 1) := by decide +kernel
theorem dX11_rackWrong_26 : decode (mc mX11_rackWrong) 26 = .ok (.isub, 1) := by decide +kernel
theorem dX11_rackWrong_27 : decode (mc mX11_rackWrong) 27 = .ok (.i2l, 1) := by decide +kernel
theorem dX11_rackWrong_28 : decode (mc mX11_rackWrong) 28 = .ok (.invokestatic 89, 3) := by decide +kernel
theorem dX11_rackWrong_31 : decode (mc mX11_rackWrong) 31 = .ok (.ifCond .eq 7, 3) := by decide +kernel
theorem dX11_rackWrong_34 : decode (mc mX11_rackWrong) 34 = .ok (.iconst 0, 1) := by decide +kernel
theorem dX11_rackWrong_35 : decode (mc mX11_rackWrong) 35 = .ok (.goto 5, 3) := by decide +kernel
theorem dX11_rackWrong_38 : decode (mc mX11_rackWrong) 38 = .ok (.bipush (-13), 2) := by decide +kernel
theorem dX11_rackWrong_40 : decode (mc mX11_rackWrong) 40 = .ok (.ireturn, 1) := by decide +kernel
theorem dX11_racks_0 : decode (mc mX11_racks) 0 = .ok (.iload_n 1, 1) := by decide +kernel
theorem dX11_racks_1 : decode (mc mX11_racks) 1 = .ok (.invokestatic 327, 3) := by decide +kernel
theorem dX11_racks_4 : decode (mc mX11_racks) 4 = .ok (.ifCond .eq 16, 3) := by decide +kernel
theorem dX11_racks_7 : decode (mc mX11_racks) 7 = .ok (.iload_n 3, 1) := by decide +kernel
theorem dX11_racks_8 : decode (mc mX11_racks) 8 = .ok (.iconst (-1), 1) := by decide +kernel
theorem dX11_racks_9 : decode (mc mX11_racks) 9 = .ok (.if_icmp .eq 17, 3) := by decide +kernel
theorem dX11_racks_12 : decode (mc mX11_racks) 12 = .ok (.aload_n 0, 1) := by decide +kernel
theorem dX11_racks_13 : decode (mc mX11_racks) 13 = .ok (.iload_n 3, 1) := by decide +kernel
theorem dX11_racks_14 : decode (mc mX11_racks) 14 = .ok (.invokevirtual 124, 3) := by decide +kernel
theorem dX11_racks_17 : decode (mc mX11_racks) 17 = .ok (.ifCond .ne 9, 3) := by decide +kernel
theorem dX11_racks_20 : decode (mc mX11_racks) 20 = .ok (.aload_n 0, 1) := by decide +kernel
theorem dX11_racks_21 : decode (mc mX11_racks) 21 = .ok (.iconst (-1), 1) := by decide +kernel
theorem dX11_racks_22 : decode (mc mX11_racks) 22 = .ok (.invokevirtual 79, 3) := by decide +kernel
theorem dX11_racks_25 : decode (mc mX11_racks) 25 = .ok (.ireturn, 1) := by decide +kernel
theorem dX11_racks_26 : decode (mc mX11_racks) 26 = .ok (.aload_n 0, 1) := by decide +kernel
theorem dX11_racks_27 : decode (mc mX11_racks) 27 = .ok (.iload_n 1, 1) := by decide +kernel
theorem dX11_racks_28 : decode (mc mX11_racks) 28 = .ok (.iload_n 2, 1) := by decide +kernel
theorem dX11_racks_29 : decode (mc mX11_racks) 29 = .ok (.invokevirtual 336, 3) := by decide +kernel
theorem dX11_racks_32 : decode (mc mX11_racks) 32 = .ok (.istore 4, 2) := by decide +kernel
theorem dX11_racks_34 : decode (mc mX11_racks) 34 = .ok (.iload 4, 2) := by decide +kernel
theorem dX11_racks_36 : decode (mc mX11_racks) 36 = .ok (.ifCond .eq 6, 3) := by decide +kernel
theorem dX11_racks_39 : decode (mc mX11_racks) 39 = .ok (.iload 4, 2) := by decide +kernel
theorem dX11_racks_41 : decode (mc mX11_racks) 41 = .ok (.ireturn, 1) := by decide +kernel
theorem dX11_racks_42 : decode (mc mX11_racks) 42 = .ok (.iload_n 3, 1) := by decide +kernel
theorem dX11_racks_43 : decode (mc mX11_racks) 43 = .ok (.iconst (-1), 1) := by decide +kernel
theorem dX11_racks_44 : decode (mc mX11_racks) 44 = .ok (.if_icmp .eq 28, 3) := by decide +kernel
theorem dX11_racks_47 : decode (mc mX11_racks) 47 = .ok (.aload_n 0, 1) := by decide +kernel
theorem dX11_racks_48 : decode (mc mX11_racks) 48 = .ok (.iconst 0, 1) := by decide +kernel
theorem dX11_racks_49 : decode (mc mX11_racks) 49 = .ok (.iload_n 3, 1) := by decide +kernel
theorem dX11_racks_50 : decode (mc mX11_racks) 50 = .ok (.invokestatic 270, 3) := by decide +kernel
theorem dX11_racks_53 : decode (mc mX11_racks) 53 = .ok (.iconst 0, 1) := by decide +kernel
theorem dX11_racks_54 : decode (mc mX11_racks) 54 = .ok (.invokevirtual 130, 3) := by decide +kernel
theorem dX11_racks_57 : decode (mc mX11_racks) 57 = .ok (.aload_n 0, 1) := by decide +kernel
theorem dX11_racks_58 : decode (mc mX11_racks) 58 = .ok (.getfield 62, 3) := by decide +kernel
theorem dX11_racks_61 : decode (mc mX11_racks) 61 = .ok (.iload_n 1, 1) := by decide +kernel
theorem dX11_racks_62 : decode (mc mX11_racks) 62 = .ok (.iaload, 1) := by decide +kernel
theorem dX11_racks_63 : decode (mc mX11_racks) 63 = .ok (.invokestatic 339, 3) := by decide +kernel
theorem dX11_racks_66 : decode (mc mX11_racks) 66 = .ok (.ifCond .ne 6, 3) := by decide +kernel
theorem dX11_racks_69 : decode (mc mX11_racks) 69 = .ok (.bipush (-16), 2) := by decide +kernel
theorem dX11_racks_71 : decode (mc mX11_racks) 71 = .ok (.ireturn, 1) := by decide +kernel
theorem dX11_racks_72 : decode (mc mX11_racks) 72 = .ok (.iload_n 1, 1) := by decide +kernel
theorem dX11_racks_73 : decode (mc mX11_racks) 73 = .ok (.iload_n 2, 1) := by decide +kernel
theorem dX11_racks_74 : decode (mc mX11_racks) 74 = .ok (.invokestatic 330, 3) := by decide +kernel
theorem dX11_racks_77 : decode (mc mX11_racks) 77 = .ok (.istore 5, 2) := by decide +kernel
theorem dX11_racks_79 : decode (mc mX11_racks) 79 = .ok (.aload_n 0, 1) := by decide +kernel
theorem dX11_racks_80 : decode (mc mX11_racks) 80 = .ok (.getfield 68, 3) := by decide +kernel
theorem dX11_racks_83 : decode (mc mX11_racks) 83 = .ok (.iload 5, 2) := by decide +kernel
theorem dX11_racks_85 : decode (mc mX11_racks) 85 = .ok (.iload_n 3, 1) := by decide +kernel
theorem dX11_racks_86 : decode (mc mX11_racks) 86 = .ok (.iconst (-1), 1) := by decide +kernel
theorem dX11_racks_87 : decode (mc mX11_racks) 87 = .ok (.if_icmp .ne 8, 3) := by decide +kernel
theorem dX11_racks_90 : decode (mc mX11_racks) 90 = .ok (.bipush (-9), 2) := by decide +kernel
theorem dX11_racks_92 : decode (mc mX11_racks) 92 = .ok (.goto 9, 3) := by decide +kernel
theorem dX11_racks_95 : decode (mc mX11_racks) 95 = .ok (.aload_n 0, 1) := by decide +kernel
theorem dX11_racks_96 : decode (mc mX11_racks) 96 = .ok (.iload_n 3, 1) := by decide +kernel
theorem dX11_racks_97 : decode (mc mX11_racks) 97 = .ok (.iconst 0, 1) := by decide +kernel
theorem dX11_racks_98 : decode (mc mX11_racks) 98 = .ok (.invokevirtual 130, 3) := by decide +kernel
theorem dX11_racks_101 : decode (mc mX11_racks) 101 = .ok (.iastore, 1) := by decide +kernel
theorem dX11_racks_102 : decode (mc mX11_racks) 102 = .ok (.aload_n 0, 1) := by decide +kernel
theorem dX11_racks_103 : decode (mc mX11_racks) 103 = .ok (.getfield 68, 3) := by decide +kernel
theorem dX11_racks_106 : decode (mc mX11_racks) 106 = .ok (.iload 5, 2) := by decide +kernel
theorem dX11_racks_108 : decode (mc mX11_racks) 108 = .ok (.iconst 1, 1) := by decide +kernel
theorem dX11_racks_109 : decode (mc mX11_racks) 109 = .ok (.iadd, 1) := by decide +kernel
theorem dX11_racks_110 : decode (mc mX11_racks) 110 = .ok (.iload_n 3, 1) := by decide +kernel
theorem dX11_racks_111 : decode (mc mX11_racks) 111 = .ok (.iconst (-1), 1) := by decide +kernel
theorem dX11_racks_112 : decode (mc mX11_racks) 112 = .ok (.if_icmp .ne 7, 3) := by decide +kernel
theorem dX11_racks_115 : decode (mc mX11_racks) 115 = .ok (.iconst 0, 1) := by decide +kernel
theorem dX11_racks_116 : decode (mc mX11_racks) 116 = .ok (.goto 9, 3) := by decide +kernel
theorem dX11_racks_119 : decode (mc mX11_racks) 119 = .ok (.aload_n 0, 1) := by decide +kernel
theorem dX11_racks_120 : decode (mc mX11_racks) 120 = .ok (.iload_n 3, 1) := by decide +kernel
theorem dX11_racks_121 : decode (mc mX11_racks) 121 = .ok (.iconst 1, 1) := by decide +kernel
theorem dX11_racks_122 : decode (mc mX11_racks) 122 = .ok (.invokevirtual 130, 3) := by decide +kernel
theorem dX11_racks_125 : decode (mc mX11_racks) 125 = .ok (.iastore, 1) := by decide +kernel
theorem dX11_racks_126 : decode (mc mX11_racks) 126 = .ok (.aload_n 0, 1) := by decide +kernel
theorem dX11_racks_127 : decode (mc mX11_racks) 127 = .ok (.getfield 68, 3) := by decide +kernel
theorem dX11_racks_130 : decode (mc mX11_racks) 130 = .ok (.iload 5, 2) := by decide +kernel
theorem dX11_racks_132 : decode (mc mX11_racks) 132 = .ok (.iconst 2, 1) := by decide +kernel
theorem dX11_racks_133 : decode (mc mX11_racks) 133 = .ok (.iadd, 1) := by decide +kernel
theorem dX11_racks_134 : decode (mc mX11_racks) 134 = .ok (.iload_n 3, 1) := by decide +kernel
theorem dX11_racks_135 : decode (mc mX11_racks) 135 = .ok (.iconst (-1), 1) := by decide +kernel
theorem dX11_racks_136 : decode (mc mX11_racks) 136 = .ok (.if_icmp .ne 7, 3) := by decide +kernel
theorem dX11_racks_139 : decode (mc mX11_racks) 139 = .ok (.iconst 0, 1) := by decide +kernel
theorem dX11_racks_140 : decode (mc mX11_racks) 140 = .ok (.goto 10, 3) := by decide +kernel
theorem dX11_racks_143 : decode (mc mX11_racks) 143 = .ok (.aload_n 0, 1) := by decide +kernel
theorem dX11_racks_144 : decode (mc mX11_racks) 144 = .ok (.iload_n 3, 1) := by decide +kernel
theorem dX11_racks_145 : decode (mc mX11_racks) 145 = .ok (.bipush 6, 2) := by decide +kernel
theorem dX11_racks_147 : decode (mc mX11_racks) 147 = .ok (.invokevirtual 130, 3) := by decide +kernel
theorem dX11_racks_150 : decode (mc mX11_racks) 150 = .ok (.iastore, 1) := by decide +kernel
theorem dX11_racks_151 : decode (mc mX11_racks) 151 = .ok (.iconst 1, 1) := by decide +kernel
theorem dX11_racks_152 : decode (mc mX11_racks) 152 = .ok (.ireturn, 1) := by decide +kernel
theorem dX11_racked_0 : decode (mc mX11_racked) 0 = .ok (.iload_n 1, 1) := by decide +kernel
theorem dX11_racked_1 : decode (mc mX11_racked) 1 = .ok (.invokestatic 327, 3) := by decide +kernel
theorem dX11_racked_4 : decode (mc mX11_racked) 4 = .ok (.ifCond .eq 13, 3) := by decide +kernel
theorem dX11_racked_7 : decode (mc mX11_racked) 7 = .ok (.iload_n 3, 1) := by decide +kernel
theorem dX11_racked_8 : decode (mc mX11_racked) 8 = .ok (.iconst 1, 1) := by decide +kernel
theorem dX11_racked_9 : decode (mc mX11_racked) 9 = .ok (.bipush 9, 2) := by decide +kernel
theorem dX11_racked_11 : decode (mc mX11_racked) 11 = .ok (.invokestatic 93, 3) := by decide +kernel
theorem dX11_racked_14 : decode (mc mX11_racked) 14 = .ok (.goto 4, 3) := by decide +kernel
theorem dX11_racked_17 : decode (mc mX11_racked) 17 = .ok (.iconst (-1), 1) := by decide +kernel
theorem dX11_racked_18 : decode (mc mX11_racked) 18 = .ok (.istore 4, 2) := by decide +kernel
theorem dX11_racked_20 : decode (mc mX11_racked) 20 = .ok (.iload 4, 2) := by decide +kernel
theorem dX11_racked_22 : decode (mc mX11_racked) 22 = .ok (.ifCond .eq 10, 3) := by decide +kernel
theorem dX11_racked_25 : decode (mc mX11_racked) 25 = .ok (.aload_n 0, 1) := by decide +kernel
theorem dX11_racked_26 : decode (mc mX11_racked) 26 = .ok (.iload 4, 2) := by decide +kernel
theorem dX11_racked_28 : decode (mc mX11_racked) 28 = .ok (.invokevirtual 79, 3) := by decide +kernel
theorem dX11_racked_31 : decode (mc mX11_racked) 31 = .ok (.ireturn, 1) := by decide +kernel
theorem dX11_racked_32 : decode (mc mX11_racked) 32 = .ok (.aload_n 0, 1) := by decide +kernel
theorem dX11_racked_33 : decode (mc mX11_racked) 33 = .ok (.iload_n 1, 1) := by decide +kernel
theorem dX11_racked_34 : decode (mc mX11_racked) 34 = .ok (.iload_n 2, 1) := by decide +kernel
theorem dX11_racked_35 : decode (mc mX11_racked) 35 = .ok (.invokevirtual 336, 3) := by decide +kernel
theorem dX11_racked_38 : decode (mc mX11_racked) 38 = .ok (.istore 4, 2) := by decide +kernel
theorem dX11_racked_40 : decode (mc mX11_racked) 40 = .ok (.iload 4, 2) := by decide +kernel
theorem dX11_racked_42 : decode (mc mX11_racked) 42 = .ok (.ifCond .eq 6, 3) := by decide +kernel
theorem dX11_racked_45 : decode (mc mX11_racked) 45 = .ok (.iload 4, 2) := by decide +kernel
theorem dX11_racked_47 : decode (mc mX11_racked) 47 = .ok (.ireturn, 1) := by decide +kernel
theorem dX11_racked_48 : decode (mc mX11_racked) 48 = .ok (.iload_n 1, 1) := by decide +kernel
theorem dX11_racked_49 : decode (mc mX11_racked) 49 = .ok (.iload_n 2, 1) := by decide +kernel
theorem dX11_racked_50 : decode (mc mX11_racked) 50 = .ok (.invokestatic 330, 3) := by decide +kernel
theorem dX11_racked_53 : decode (mc mX11_racked) 53 = .ok (.istore 5, 2) := by decide +kernel
theorem dX11_racked_55 : decode (mc mX11_racked) 55 = .ok (.aload_n 0, 1) := by decide +kernel
theorem dX11_racked_56 : decode (mc mX11_racked) 56 = .ok (.getfield 68, 3) := by decide +kernel
theorem dX11_racked_59 : decode (mc mX11_racked) 59 = .ok (.iload 5, 2) := by decide +kernel
theorem dX11_racked_61 : decode (mc mX11_racked) 61 = .ok (.iaload, 1) := by decide +kernel
theorem dX11_racked_62 : decode (mc mX11_racked) 62 = .ok (.bipush (-9), 2) := by decide +kernel
theorem dX11_racked_64 : decode (mc mX11_racked) 64 = .ok (.if_icmp .ne 8, 3) := by decide +kernel
theorem dX11_racked_67 : decode (mc mX11_racked) 67 = .ok (.bipush (-9), 2) := by decide +kernel
theorem dX11_racked_69 : decode (mc mX11_racked) 69 = .ok (.goto 32, 3) := by decide +kernel
theorem dX11_racked_72 : decode (mc mX11_racked) 72 = .ok (.aload_n 0, 1) := by decide +kernel
theorem dX11_racked_73 : decode (mc mX11_racked) 73 = .ok (.getfield 68, 3) := by decide +kernel
theorem dX11_racked_76 : decode (mc mX11_racked) 76 = .ok (.iload 5, 2) := by decide +kernel
theorem dX11_racked_78 : decode (mc mX11_racked) 78 = .ok (.iaload, 1) := by decide +kernel
theorem dX11_racked_79 : decode (mc mX11_racked) 79 = .ok (.aload_n 0, 1) := by decide +kernel
theorem dX11_racked_80 : decode (mc mX11_racked) 80 = .ok (.getfield 68, 3) := by decide +kernel
theorem dX11_racked_83 : decode (mc mX11_racked) 83 = .ok (.iload 5, 2) := by decide +kernel
theorem dX11_racked_85 : decode (mc mX11_racked) 85 = .ok (.iconst 1, 1) := by decide +kernel
theorem dX11_racked_86 : decode (mc mX11_racked) 86 = .ok (.iadd, 1) := by decide +kernel
theorem dX11_racked_87 : decode (mc mX11_racked) 87 = .ok (.iaload, 1) := by decide +kernel
theorem dX11_racked_88 : decode (mc mX11_racked) 88 = .ok (.aload_n 0, 1) := by decide +kernel
theorem dX11_racked_89 : decode (mc mX11_racked) 89 = .ok (.getfield 68, 3) := by decide +kernel
theorem dX11_racked_92 : decode (mc mX11_racked) 92 = .ok (.iload 5, 2) := by decide +kernel
theorem dX11_racked_94 : decode (mc mX11_racked) 94 = .ok (.iconst 2, 1) := by decide +kernel
theorem dX11_racked_95 : decode (mc mX11_racked) 95 = .ok (.iadd, 1) := by decide +kernel
theorem dX11_racked_96 : decode (mc mX11_racked) 96 = .ok (.iaload, 1) := by decide +kernel
theorem dX11_racked_97 : decode (mc mX11_racked) 97 = .ok (.iload_n 3, 1) := by decide +kernel
theorem dX11_racked_98 : decode (mc mX11_racked) 98 = .ok (.invokestatic 145, 3) := by decide +kernel
theorem dX11_racked_101 : decode (mc mX11_racked) 101 = .ok (.ireturn, 1) := by decide +kernel
theorem dX11_like_0 : decode (mc mX11_like) 0 = .ok (.iload_n 1, 1) := by decide +kernel
theorem dX11_like_1 : decode (mc mX11_like) 1 = .ok (.invokestatic 327, 3) := by decide +kernel
theorem dX11_like_4 : decode (mc mX11_like) 4 = .ok (.ifCond .eq 10, 3) := by decide +kernel
theorem dX11_like_7 : decode (mc mX11_like) 7 = .ok (.iload_n 2, 1) := by decide +kernel
theorem dX11_like_8 : decode (mc mX11_like) 8 = .ok (.invokestatic 327, 3) := by decide +kernel
theorem dX11_like_11 : decode (mc mX11_like) 11 = .ok (.ifCond .ne 9, 3) := by decide +kernel
theorem dX11_like_14 : decode (mc mX11_like) 14 = .ok (.aload_n 0, 1) := by decide +kernel
theorem dX11_like_15 : decode (mc mX11_like) 15 = .ok (.iconst (-1), 1) := by decide +kernel
theorem dX11_like_16 : decode (mc mX11_like) 16 = .ok (.invokevirtual 79, 3) := by decide +kernel
theorem dX11_like_19 : decode (mc mX11_like) 19 = .ok (.ireturn, 1) := by decide +kernel
theorem dX11_like_20 : decode (mc mX11_like) 20 = .ok (.aload_n 0, 1) := by decide +kernel
theorem dX11_like_21 : decode (mc mX11_like) 21 = .ok (.getfield 62, 3) := by decide +kernel
theorem dX11_like_24 : decode (mc mX11_like) 24 = .ok (.iload_n 2, 1) := by decide +kernel
theorem dX11_like_25 : decode (mc mX11_like) 25 = .ok (.iaload, 1) := by decide +kernel
theorem dX11_like_26 : decode (mc mX11_like) 26 = .ok (.bipush (-9), 2) := by decide +kernel
theorem dX11_like_28 : decode (mc mX11_like) 28 = .ok (.if_icmp .ne 6, 3) := by decide +kernel
theorem dX11_like_31 : decode (mc mX11_like) 31 = .ok (.bipush (-11), 2) := by decide +kernel
theorem dX11_like_33 : decode (mc mX11_like) 33 = .ok (.ireturn, 1) := by decide +kernel
theorem dX11_like_34 : decode (mc mX11_like) 34 = .ok (.aload_n 0, 1) := by decide +kernel
theorem dX11_like_35 : decode (mc mX11_like) 35 = .ok (.getfield 62, 3) := by decide +kernel
theorem dX11_like_38 : decode (mc mX11_like) 38 = .ok (.iload_n 1, 1) := by decide +kernel
theorem dX11_like_39 : decode (mc mX11_like) 39 = .ok (.aload_n 0, 1) := by decide +kernel
theorem dX11_like_40 : decode (mc mX11_like) 40 = .ok (.getfield 62, 3) := by decide +kernel
theorem dX11_like_43 : decode (mc mX11_like) 43 = .ok (.iload_n 2, 1) := by decide +kernel
theorem dX11_like_44 : decode (mc mX11_like) 44 = .ok (.iaload, 1) := by decide +kernel
theorem dX11_like_45 : decode (mc mX11_like) 45 = .ok (.iastore, 1) := by decide +kernel
theorem dX11_like_46 : decode (mc mX11_like) 46 = .ok (.aload_n 0, 1) := by decide +kernel
theorem dX11_like_47 : decode (mc mX11_like) 47 = .ok (.getfield 65, 3) := by decide +kernel
theorem dX11_like_50 : decode (mc mX11_like) 50 = .ok (.iload_n 1, 1) := by decide +kernel
theorem dX11_like_51 : decode (mc mX11_like) 51 = .ok (.aload_n 0, 1) := by decide +kernel
theorem dX11_like_52 : decode (mc mX11_like) 52 = .ok (.getfield 65, 3) := by decide +kernel
theorem dX11_like_55 : decode (mc mX11_like) 55 = .ok (.iload_n 2, 1) := by decide +kernel
theorem dX11_like_56 : decode (mc mX11_like) 56 = .ok (.iaload, 1) := by decide +kernel
theorem dX11_like_57 : decode (mc mX11_like) 57 = .ok (.iastore, 1) := by decide +kernel
theorem dX11_like_58 : decode (mc mX11_like) 58 = .ok (.aload_n 0, 1) := by decide +kernel
theorem dX11_like_59 : decode (mc mX11_like) 59 = .ok (.getfield 68, 3) := by decide +kernel
theorem dX11_like_62 : decode (mc mX11_like) 62 = .ok (.iload_n 2, 1) := by decide +kernel
theorem dX11_like_63 : decode (mc mX11_like) 63 = .ok (.iconst 0, 1) := by decide +kernel
theorem dX11_like_64 : decode (mc mX11_like) 64 = .ok (.invokestatic 330, 3) := by decide +kernel
theorem dX11_like_67 : decode (mc mX11_like) 67 = .ok (.aload_n 0, 1) := by decide +kernel
theorem dX11_like_68 : decode (mc mX11_like) 68 = .ok (.getfield 68, 3) := by decide +kernel
theorem dX11_like_71 : decode (mc mX11_like) 71 = .ok (.iload_n 1, 1) := by decide +kernel
theorem dX11_like_72 : decode (mc mX11_like) 72 = .ok (.iconst 0, 1) := by decide +kernel
theorem dX11_like_73 : decode (mc mX11_like) 73 = .ok (.invokestatic 330, 3) := by decide +kernel
theorem dX11_like_76 : decode (mc mX11_like) 76 = .ok (.bipush 27, 2) := by decide +kernel
theorem dX11_like_78 : decode (mc mX11_like) 78 = .ok (.invokestatic 83, 3) := by decide +kernel
theorem dX11_like_81 : decode (mc mX11_like) 81 = .ok (.aload_n 0, 1) := by decide +kernel
theorem dX11_like_82 : decode (mc mX11_like) 82 = .ok (.getfield 65, 3) := by decide +kernel
theorem dX11_like_85 : decode (mc mX11_like) 85 = .ok (.iload_n 1, 1) := by decide +kernel
theorem dX11_like_86 : decode (mc mX11_like) 86 = .ok (.iaload, 1) := by decide +kernel
theorem dX11_like_87 : decode (mc mX11_like) 87 = .ok (.ireturn, 1) := by decide +kernel
theorem dX11_letter_0 : decode (mc mX11_letter) 0 = .ok (.iload_n 1, 1) := by decide +kernel
theorem dX11_letter_1 : decode (mc mX11_letter) 1 = .ok (.iconst 0, 1) := by decide +kernel
theorem dX11_letter_2 : decode (mc mX11_letter) 2 = .ok (.sipush 255, 3) := by decide +kernel
theorem dX11_letter_5 : decode (mc mX11_letter) 5 = .ok (.invokestatic 93, 3) := by decide +kernel
theorem dX11_letter_8 : decode (mc mX11_letter) 8 = .ok (.istore_n 2, 1) := by decide +kernel
theorem dX11_letter_9 : decode (mc mX11_letter) 9 = .ok (.iload_n 2, 1) := by decide +kernel
theorem dX11_letter_10 : decode (mc mX11_letter) 10 = .ok (.ifCond .ne 15, 3) := by decide +kernel
theorem dX11_letter_13 : decode (mc mX11_letter) 13 = .ok (.aload_n 0, 1) := by decide +kernel
theorem dX11_letter_14 : decode (mc mX11_letter) 14 = .ok (.getfield 342, 3) := by decide +kernel
theorem dX11_letter_17 : decode (mc mX11_letter) 17 = .ok (.bipush 120, 2) := by decide +kernel
theorem dX11_letter_19 : decode (mc mX11_letter) 19 = .ok (.if_icmp .ne 6, 3) := by decide +kernel
theorem dX11_letter_22 : decode (mc mX11_letter) 22 = .ok (.bipush (-6), 2) := by decide +kernel
theorem dX11_letter_24 : decode (mc mX11_letter) 24 = .ok (.istore_n 2, 1) := by decide +kernel
theorem dX11_letter_25 : decode (mc mX11_letter) 25 = .ok (.iload_n 2, 1) := by decide +kernel
theorem dX11_letter_26 : decode (mc mX11_letter) 26 = .ok (.ifCond .eq 9, 3) := by decide +kernel
theorem dX11_letter_29 : decode (mc mX11_letter) 29 = .ok (.aload_n 0, 1) := by decide +kernel
theorem dX11_letter_30 : decode (mc mX11_letter) 30 = .ok (.iload_n 2, 1) := by decide +kernel
theorem dX11_letter_31 : decode (mc mX11_letter) 31 = .ok (.invokevirtual 79, 3) := by decide +kernel
theorem dX11_letter_34 : decode (mc mX11_letter) 34 = .ok (.ireturn, 1) := by decide +kernel
theorem dX11_letter_35 : decode (mc mX11_letter) 35 = .ok (.aload_n 0, 1) := by decide +kernel
theorem dX11_letter_36 : decode (mc mX11_letter) 36 = .ok (.getfield 71, 3) := by decide +kernel
theorem dX11_letter_39 : decode (mc mX11_letter) 39 = .ok (.aload_n 0, 1) := by decide +kernel
theorem dX11_letter_40 : decode (mc mX11_letter) 40 = .ok (.getfield 342, 3) := by decide +kernel
theorem dX11_letter_43 : decode (mc mX11_letter) 43 = .ok (.iload_n 1, 1) := by decide +kernel
theorem dX11_letter_44 : decode (mc mX11_letter) 44 = .ok (.iastore, 1) := by decide +kernel
theorem dX11_letter_45 : decode (mc mX11_letter) 45 = .ok (.aload_n 0, 1) := by decide +kernel
theorem dX11_letter_46 : decode (mc mX11_letter) 46 = .ok (.dup, 1) := by decide +kernel
theorem dX11_letter_47 : decode (mc mX11_letter) 47 = .ok (.getfield 342, 3) := by decide +kernel
theorem dX11_letter_50 : decode (mc mX11_letter) 50 = .ok (.iconst 1, 1) := by decide +kernel
theorem dX11_letter_51 : decode (mc mX11_letter) 51 = .ok (.iadd, 1) := by decide +kernel
theorem dX11_letter_52 : decode (mc mX11_letter) 52 = .ok (.putfield 342, 3) := by decide +kernel
theorem dX11_letter_55 : decode (mc mX11_letter) 55 = .ok (.aload_n 0, 1) := by decide +kernel
theorem dX11_letter_56 : decode (mc mX11_letter) 56 = .ok (.getfield 342, 3) := by decide +kernel
theorem dX11_letter_59 : decode (mc mX11_letter) 59 = .ok (.ireturn, 1) := by decide +kernel
theorem dX11_here_0 : decode (mc mX11_here) 0 = .ok (.aload_n 0, 1) := by decide +kernel
theorem dX11_here_1 : decode (mc mX11_here) 1 = .ok (.getfield 345, 3) := by decide +kernel
theorem dX11_here_4 : decode (mc mX11_here) 4 = .ok (.aload_n 0, 1) := by decide +kernel
theorem dX11_here_5 : decode (mc mX11_here) 5 = .ok (.getfield 342, 3) := by decide +kernel
theorem dX11_here_8 : decode (mc mX11_here) 8 = .ok (.if_icmp .ge 15, 3) := by decide +kernel
theorem dX11_here_11 : decode (mc mX11_here) 11 = .ok (.aload_n 0, 1) := by decide +kernel
theorem dX11_here_12 : decode (mc mX11_here) 12 = .ok (.getfield 71, 3) := by decide +kernel
theorem dX11_here_15 : decode (mc mX11_here) 15 = .ok (.aload_n 0, 1) := by decide +kernel
theorem dX11_here_16 : decode (mc mX11_here) 16 = .ok (.getfield 345, 3) := by decide +kernel
theorem dX11_here_19 : decode (mc mX11_here) 19 = .ok (.iaload, 1) := by decide +kernel
theorem dX11_here_20 : decode (mc mX11_here) 20 = .ok (.goto 4, 3) := by decide +kernel
theorem dX11_here_23 : decode (mc mX11_here) 23 = .ok (.iconst (-1), 1) := by decide +kernel
theorem dX11_here_24 : decode (mc mX11_here) 24 = .ok (.ireturn, 1) := by decide +kernel
theorem dX11_takes_0 : decode (mc mX11_takes) 0 = .ok (.aload_n 0, 1) := by decide +kernel
theorem dX11_takes_1 : decode (mc mX11_takes) 1 = .ok (.invokevirtual 348, 3) := by decide +kernel
theorem dX11_takes_4 : decode (mc mX11_takes) 4 = .ok (.iload_n 1, 1) := by decide +kernel
theorem dX11_takes_5 : decode (mc mX11_takes) 5 = .ok (.if_icmp .eq 5, 3) := by decide +kernel
theorem dX11_takes_8 : decode (mc mX11_takes) 8 = .ok (.iconst 0, 1) := by decide +kernel
theorem dX11_takes_9 : decode (mc mX11_takes) 9 = .ok (.ireturn, 1) := by decide +kernel
theorem dX11_takes_10 : decode (mc mX11_takes) 10 = .ok (.aload_n 0, 1) := by decide +kernel
theorem dX11_takes_11 : decode (mc mX11_takes) 11 = .ok (.dup, 1) := by decide +kernel
theorem dX11_takes_12 : decode (mc mX11_takes) 12 = .ok (.getfield 345, 3) := by decide +kernel
theorem dX11_takes_15 : decode (mc mX11_takes) 15 = .ok (.iconst 1, 1) := by decide +kernel
theorem dX11_takes_16 : decode (mc mX11_takes) 16 = .ok (.iadd, 1) := by decide +kernel
theorem dX11_takes_17 : decode (mc mX11_takes) 17 = .ok (.putfield 345, 3) := by decide +kernel
theorem dX11_takes_20 : decode (mc mX11_takes) 20 = .ok (.iconst 1, 1) := by decide +kernel
theorem dX11_takes_21 : decode (mc mX11_takes) 21 = .ok (.ireturn, 1) := by decide +kernel
theorem dX11_takesNumber_0 : decode (mc mX11_takesNumber) 0 = .ok (.aload_n 0, 1) := by decide +kernel
theorem dX11_takesNumber_1 : decode (mc mX11_takesNumber) 1 = .ok (.invokevirtual 348, 3) := by decide +kernel
theorem dX11_takesNumber_4 : decode (mc mX11_takesNumber) 4 = .ok (.i2l, 1) := by decide +kernel
theorem dX11_takesNumber_5 : decode (mc mX11_takesNumber) 5 = .ok (.ldc2_w 351, 3) := by decide +kernel
theorem dX11_takesNumber_8 : decode (mc mX11_takesNumber) 8 = .ok (.ldc2_w 353, 3) := by decide +kernel
theorem dX11_takesNumber_11 : decode (mc mX11_takesNumber) 11 = .ok (.invokestatic 89, 3) := by decide +kernel
theorem dX11_takesNumber_14 : decode (mc mX11_takesNumber) 14 = .ok (.ifCond .ne 5, 3) := by decide +kernel
theorem dX11_takesNumber_17 : decode (mc mX11_takesNumber) 17 = .ok (.iconst 0, 1) := by decide +kernel
theorem dX11_takesNumber_18 : decode (mc mX11_takesNumber) 18 = .ok (.ireturn, 1) := by decide +kernel
theorem dX11_takesNumber_19 : decode (mc mX11_takesNumber) 19 = .ok (.aload_n 0, 1) := by decide +kernel
theorem dX11_takesNumber_20 : decode (mc mX11_takesNumber) 20 = .ok (.getfield 74, 3) := by decide +kernel
theorem dX11_takesNumber_23 : decode (mc mX11_takesNumber) 23 = .ok (.iload_n 1, 1) := by decide +kernel
theorem dX11_takesNumber_24 : decode (mc mX11_takesNumber) 24 = .ok (.aload_n 0, 1) := by decide +kernel
theorem dX11_takesNumber_25 : decode (mc mX11_takesNumber) 25 = .ok (.invokevirtual 348, 3) := by decide +kernel
theorem dX11_takesNumber_28 : decode (mc mX11_takesNumber) 28 = .ok (.bipush 48, 2) := by decide +kernel
theorem dX11_takesNumber_30 : decode (mc mX11_takesNumber) 30 = .ok (.isub, 1) := by decide +kernel
theorem dX11_takesNumber_31 : decode (mc mX11_takesNumber) 31 = .ok (.iastore, 1) := by decide +kernel
theorem dX11_takesNumber_32 : decode (mc mX11_takesNumber) 32 = .ok (.aload_n 0, 1) := by decide +kernel
theorem dX11_takesNumber_33 : decode (mc mX11_takesNumber) 33 = .ok (.dup, 1) := by decide +kernel
theorem dX11_takesNumber_34 : decode (mc mX11_takesNumber) 34 = .ok (.getfield 345, 3) := by decide +kernel
theorem dX11_takesNumber_37 : decode (mc mX11_takesNumber) 37 = .ok (.iconst 1, 1) := by decide +kernel
theorem dX11_takesNumber_38 : decode (mc mX11_takesNumber) 38 = .ok (.iadd, 1) := by decide +kernel
theorem dX11_takesNumber_39 : decode (mc mX11_takesNumber) 39 = .ok (.putfield 345, 3) := by decide +kernel
theorem dX11_takesNumber_42 : decode (mc mX11_takesNumber) 42 = .ok (.aload_n 0, 1) := by decide +kernel
theorem dX11_takesNumber_43 : decode (mc mX11_takesNumber) 43 = .ok (.invokevirtual 348, 3) := by decide +kernel
theorem dX11_takesNumber_46 : decode (mc mX11_takesNumber) 46 = .ok (.i2l, 1) := by decide +kernel
theorem dX11_takesNumber_47 : decode (mc mX11_takesNumber) 47 = .ok (.ldc2_w 351, 3) := by decide +kernel
theorem dX11_takesNumber_50 : decode (mc mX11_takesNumber) 50 = .ok (.ldc2_w 353, 3) := by decide +kernel
theorem dX11_takesNumber_53 : decode (mc mX11_takesNumber) 53 = .ok (.invokestatic 89, 3) := by decide +kernel
theorem dX11_takesNumber_56 : decode (mc mX11_takesNumber) 56 = .ok (.ifCond .eq 36, 3) := by decide +kernel
theorem dX11_takesNumber_59 : decode (mc mX11_takesNumber) 59 = .ok (.aload_n 0, 1) := by decide +kernel
theorem dX11_takesNumber_60 : decode (mc mX11_takesNumber) 60 = .ok (.getfield 74, 3) := by decide +kernel
theorem dX11_takesNumber_63 : decode (mc mX11_takesNumber) 63 = .ok (.iload_n 1, 1) := by decide +kernel
theorem dX11_takesNumber_64 : decode (mc mX11_takesNumber) 64 = .ok (.bipush 10, 2) := by decide +kernel
theorem dX11_takesNumber_66 : decode (mc mX11_takesNumber) 66 = .ok (.aload_n 0, 1) := by decide +kernel
theorem dX11_takesNumber_67 : decode (mc mX11_takesNumber) 67 = .ok (.getfield 74, 3) := by decide +kernel
theorem dX11_takesNumber_70 : decode (mc mX11_takesNumber) 70 = .ok (.iload_n 1, 1) := by decide +kernel
theorem dX11_takesNumber_71 : decode (mc mX11_takesNumber) 71 = .ok (.iaload, 1) := by decide +kernel
theorem dX11_takesNumber_72 : decode (mc mX11_takesNumber) 72 = .ok (.imul, 1) := by decide +kernel
theorem dX11_takesNumber_73 : decode (mc mX11_takesNumber) 73 = .ok (.aload_n 0, 1) := by decide +kernel
theorem dX11_takesNumber_74 : decode (mc mX11_takesNumber) 74 = .ok (.invokevirtual 348, 3) := by decide +kernel
theorem dX11_takesNumber_77 : decode (mc mX11_takesNumber) 77 = .ok (.iadd, 1) := by decide +kernel
theorem dX11_takesNumber_78 : decode (mc mX11_takesNumber) 78 = .ok (.bipush 48, 2) := by decide +kernel
theorem dX11_takesNumber_80 : decode (mc mX11_takesNumber) 80 = .ok (.isub, 1) := by decide +kernel
theorem dX11_takesNumber_81 : decode (mc mX11_takesNumber) 81 = .ok (.iastore, 1) := by decide +kernel
theorem dX11_takesNumber_82 : decode (mc mX11_takesNumber) 82 = .ok (.aload_n 0, 1) := by decide +kernel
theorem dX11_takesNumber_83 : decode (mc mX11_takesNumber) 83 = .ok (.dup, 1) := by decide +kernel
theorem dX11_takesNumber_84 : decode (mc mX11_takesNumber) 84 = .ok (.getfield 345, 3) := by decide +kernel
theorem dX11_takesNumber_87 : decode (mc mX11_takesNumber) 87 = .ok (.iconst 1, 1) := by decide +kernel
theorem dX11_takesNumber_88 : decode (mc mX11_takesNumber) 88 = .ok (.iadd, 1) := by decide +kernel
theorem dX11_takesNumber_89 : decode (mc mX11_takesNumber) 89 = .ok (.putfield 345, 3) := by decide +kernel
theorem dX11_takesNumber_92 : decode (mc mX11_takesNumber) 92 = .ok (.iconst 1, 1) := by decide +kernel
theorem dX11_takesNumber_93 : decode (mc mX11_takesNumber) 93 = .ok (.ireturn, 1) := by decide +kernel
theorem dX11_moreOf_0 : decode (mc mX11_moreOf) 0 = .ok (.iload_n 0, 1) := by decide +kernel
theorem dX11_moreOf_1 : decode (mc mX11_moreOf) 1 = .ok (.bipush 104, 2) := by decide +kernel
theorem dX11_moreOf_3 : decode (mc mX11_moreOf) 3 = .ok (.if_icmp .ne 7, 3) := by decide +kernel
theorem dX11_moreOf_6 : decode (mc mX11_moreOf) 6 = .ok (.iconst 0, 1) := by decide +kernel
theorem dX11_moreOf_7 : decode (mc mX11_moreOf) 7 = .ok (.goto 30, 3) := by decide +kernel
theorem dX11_moreOf_10 : decode (mc mX11_moreOf) 10 = .ok (.iload_n 0, 1) := by decide +kernel
theorem dX11_moreOf_11 : decode (mc mX11_moreOf) 11 = .ok (.bipush 112, 2) := by decide +kernel
theorem dX11_moreOf_13 : decode (mc mX11_moreOf) 13 = .ok (.if_icmp .eq 9, 3) := by decide +kernel
theorem dX11_moreOf_16 : decode (mc mX11_moreOf) 16 = .ok (.iload_n 0, 1) := by decide +kernel
theorem dX11_moreOf_17 : decode (mc mX11_moreOf) 17 = .ok (.bipush 97, 2) := by decide +kernel
theorem dX11_moreOf_19 : decode (mc mX11_moreOf) 19 = .ok (.if_icmp .ne 7, 3) := by decide +kernel
theorem dX11_moreOf_22 : decode (mc mX11_moreOf) 22 = .ok (.iconst 1, 1) := by decide +kernel
theorem dX11_moreOf_23 : decode (mc mX11_moreOf) 23 = .ok (.goto 14, 3) := by decide +kernel
theorem dX11_moreOf_26 : decode (mc mX11_moreOf) 26 = .ok (.iload_n 0, 1) := by decide +kernel
theorem dX11_moreOf_27 : decode (mc mX11_moreOf) 27 = .ok (.bipush 99, 2) := by decide +kernel
theorem dX11_moreOf_29 : decode (mc mX11_moreOf) 29 = .ok (.if_icmp .ne 7, 3) := by decide +kernel
theorem dX11_moreOf_32 : decode (mc mX11_moreOf) 32 = .ok (.iconst 3, 1) := by decide +kernel
theorem dX11_moreOf_33 : decode (mc mX11_moreOf) 33 = .ok (.goto 4, 3) := by decide +kernel
theorem dX11_moreOf_36 : decode (mc mX11_moreOf) 36 = .ok (.iconst 2, 1) := by decide +kernel
theorem dX11_moreOf_37 : decode (mc mX11_moreOf) 37 = .ok (.ireturn, 1) := by decide +kernel
theorem dX11_takesSign_0 : decode (mc mX11_takesSign) 0 = .ok (.aload_n 0, 1) := by decide +kernel
theorem dX11_takesSign_1 : decode (mc mX11_takesSign) 1 = .ok (.getfield 355, 3) := by decide +kernel
theorem dX11_takesSign_4 : decode (mc mX11_takesSign) 4 = .ok (.bipush 97, 2) := by decide +kernel
theorem dX11_takesSign_6 : decode (mc mX11_takesSign) 6 = .ok (.if_icmp .ne 45, 3) := by decide +kernel
theorem dX11_takesSign_9 : decode (mc mX11_takesSign) 9 = .ok (.aload_n 0, 1) := by decide +kernel
theorem dX11_takesSign_10 : decode (mc mX11_takesSign) 10 = .ok (.aload_n 0, 1) := by decide +kernel
theorem dX11_takesSign_11 : decode (mc mX11_takesSign) 11 = .ok (.invokevirtual 348, 3) := by decide +kernel
theorem dX11_takesSign_14 : decode (mc mX11_takesSign) 14 = .ok (.bipush 45, 2) := by decide +kernel
theorem dX11_takesSign_16 : decode (mc mX11_takesSign) 16 = .ok (.if_icmp .ne 7, 3) := by decide +kernel
theorem dX11_takesSign_19 : decode (mc mX11_takesSign) 19 = .ok (.iconst (-1), 1) := by decide +kernel
theorem dX11_takesSign_20 : decode (mc mX11_takesSign) 20 = .ok (.goto 4, 3) := by decide +kernel
theorem dX11_takesSign_23 : decode (mc mX11_takesSign) 23 = .ok (.iconst 1, 1) := by decide +kernel
theorem dX11_takesSign_24 : decode (mc mX11_takesSign) 24 = .ok (.putfield 358, 3) := by decide +kernel
theorem dX11_takesSign_27 : decode (mc mX11_takesSign) 27 = .ok (.aload_n 0, 1) := by decide +kernel
theorem dX11_takesSign_28 : decode (mc mX11_takesSign) 28 = .ok (.bipush 43, 2) := by decide +kernel
theorem dX11_takesSign_30 : decode (mc mX11_takesSign) 30 = .ok (.invokevirtual 361, 3) := by decide +kernel
theorem dX11_takesSign_33 : decode (mc mX11_takesSign) 33 = .ok (.ifCond .ne 12, 3) := by decide +kernel
theorem dX11_takesSign_36 : decode (mc mX11_takesSign) 36 = .ok (.aload_n 0, 1) := by decide +kernel
theorem dX11_takesSign_37 : decode (mc mX11_takesSign) 37 = .ok (.bipush 45, 2) := by decide +kernel
theorem dX11_takesSign_39 : decode (mc mX11_takesSign) 39 = .ok (.invokevirtual 361, 3) := by decide +kernel
theorem dX11_takesSign_42 : decode (mc mX11_takesSign) 42 = .ok (.ifCond .eq 7, 3) := by decide +kernel
theorem dX11_takesSign_45 : decode (mc mX11_takesSign) 45 = .ok (.iconst 1, 1) := by decide +kernel
theorem dX11_takesSign_46 : decode (mc mX11_takesSign) 46 = .ok (.goto 4, 3) := by decide +kernel
theorem dX11_takesSign_49 : decode (mc mX11_takesSign) 49 = .ok (.iconst 0, 1) := by decide +kernel
theorem dX11_takesSign_50 : decode (mc mX11_takesSign) 50 = .ok (.ireturn, 1) := by decide +kernel
theorem dX11_takesSign_51 : decode (mc mX11_takesSign) 51 = .ok (.aload_n 0, 1) := by decide +kernel
theorem dX11_takesSign_52 : decode (mc mX11_takesSign) 52 = .ok (.aload_n 0, 1) := by decide +kernel
theorem dX11_takesSign_53 : decode (mc mX11_takesSign) 53 = .ok (.getfield 355, 3) := by decide +kernel
theorem dX11_takesSign_56 : decode (mc mX11_takesSign) 56 = .ok (.bipush 112, 2) := by decide +kernel
theorem dX11_takesSign_58 : decode (mc mX11_takesSign) 58 = .ok (.if_icmp .ne 8, 3) := by decide +kernel
theorem dX11_takesSign_61 : decode (mc mX11_takesSign) 61 = .ok (.bipush 44, 2) := by decide +kernel
theorem dX11_takesSign_63 : decode (mc mX11_takesSign) 63 = .ok (.goto 5, 3) := by decide +kernel
theorem dX11_takesSign_66 : decode (mc mX11_takesSign) 66 = .ok (.bipush 61, 2) := by decide +kernel
theorem dX11_takesSign_68 : decode (mc mX11_takesSign) 68 = .ok (.invokevirtual 361, 3) := by decide +kernel
theorem dX11_takesSign_71 : decode (mc mX11_takesSign) 71 = .ok (.ireturn, 1) := by decide +kernel
theorem dX11_reads_0 : decode (mc mX11_reads) 0 = .ok (.aload_n 0, 1) := by decide +kernel
theorem dX11_reads_1 : decode (mc mX11_reads) 1 = .ok (.aload_n 0, 1) := by decide +kernel
theorem dX11_reads_2 : decode (mc mX11_reads) 2 = .ok (.invokevirtual 348, 3) := by decide +kernel
theorem dX11_reads_5 : decode (mc mX11_reads) 5 = .ok (.putfield 355, 3) := by decide +kernel
theorem dX11_reads_8 : decode (mc mX11_reads) 8 = .ok (.aload_n 0, 1) := by decide +kernel
theorem dX11_reads_9 : decode (mc mX11_reads) 9 = .ok (.getfield 355, 3) := by decide +kernel
theorem dX11_reads_12 : decode (mc mX11_reads) 12 = .ok (.bipush 112, 2) := by decide +kernel
theorem dX11_reads_14 : decode (mc mX11_reads) 14 = .ok (.if_icmp .eq 59, 3) := by decide +kernel
theorem dX11_reads_17 : decode (mc mX11_reads) 17 = .ok (.aload_n 0, 1) := by decide +kernel
theorem dX11_reads_18 : decode (mc mX11_reads) 18 = .ok (.getfield 355, 3) := by decide +kernel
theorem dX11_reads_21 : decode (mc mX11_reads) 21 = .ok (.bipush 103, 2) := by decide +kernel
theorem dX11_reads_23 : decode (mc mX11_reads) 23 = .ok (.if_icmp .eq 50, 3) := by decide +kernel
theorem dX11_reads_26 : decode (mc mX11_reads) 26 = .ok (.aload_n 0, 1) := by decide +kernel
theorem dX11_reads_27 : decode (mc mX11_reads) 27 = .ok (.getfield 355, 3) := by decide +kernel
theorem dX11_reads_30 : decode (mc mX11_reads) 30 = .ok (.bipush 99, 2) := by decide +kernel
theorem dX11_reads_32 : decode (mc mX11_reads) 32 = .ok (.if_icmp .eq 41, 3) := by decide +kernel
theorem dX11_reads_35 : decode (mc mX11_reads) 35 = .ok (.aload_n 0, 1) := by decide +kernel
theorem dX11_reads_36 : decode (mc mX11_reads) 36 = .ok (.getfield 355, 3) := by decide +kernel
theorem dX11_reads_39 : decode (mc mX11_reads) 39 = .ok (.bipush 116, 2) := by decide +kernel
theorem dX11_reads_41 : decode (mc mX11_reads) 41 = .ok (.if_icmp .eq 32, 3) := by decide +kernel
theorem dX11_reads_44 : decode (mc mX11_reads) 44 = .ok (.aload_n 0, 1) := by decide +kernel
theorem dX11_reads_45 : decode (mc mX11_reads) 45 = .ok (.getfield 355, 3) := by decide +kernel
theorem dX11_reads_48 : decode (mc mX11_reads) 48 = .ok (.bipush 97, 2) := by decide +kernel
theorem dX11_reads_50 : decode (mc mX11_reads) 50 = .ok (.if_icmp .eq 23, 3) := by decide +kernel
theorem dX11_reads_53 : decode (mc mX11_reads) 53 = .ok (.aload_n 0, 1) := by decide +kernel
theorem dX11_reads_54 : decode (mc mX11_reads) 54 = .ok (.getfield 355, 3) := by decide +kernel
theorem dX11_reads_57 : decode (mc mX11_reads) 57 = .ok (.bipush 100, 2) := by decide +kernel
theorem dX11_reads_59 : decode (mc mX11_reads) 59 = .ok (.if_icmp .eq 14, 3) := by decide +kernel
theorem dX11_reads_62 : decode (mc mX11_reads) 62 = .ok (.aload_n 0, 1) := by decide +kernel
theorem dX11_reads_63 : decode (mc mX11_reads) 63 = .ok (.getfield 355, 3) := by decide +kernel
theorem dX11_reads_66 : decode (mc mX11_reads) 66 = .ok (.bipush 104, 2) := by decide +kernel
theorem dX11_reads_68 : decode (mc mX11_reads) 68 = .ok (.if_icmp .eq 5, 3) := by decide +kernel
theorem dX11_reads_71 : decode (mc mX11_reads) 71 = .ok (.iconst 0, 1) := by decide +kernel
theorem dX11_reads_72 : decode (mc mX11_reads) 72 = .ok (.ireturn, 1) := by decide +kernel
theorem dX11_reads_73 : decode (mc mX11_reads) 73 = .ok (.aload_n 0, 1) := by decide +kernel
theorem dX11_reads_74 : decode (mc mX11_reads) 74 = .ok (.dup, 1) := by decide +kernel
theorem dX11_reads_75 : decode (mc mX11_reads) 75 = .ok (.getfield 345, 3) := by decide +kernel
theorem dX11_reads_78 : decode (mc mX11_reads) 78 = .ok (.iconst 1, 1) := by decide +kernel
theorem dX11_reads_79 : decode (mc mX11_reads) 79 = .ok (.iadd, 1) := by decide +kernel
theorem dX11_reads_80 : decode (mc mX11_reads) 80 = .ok (.putfield 345, 3) := by decide +kernel
theorem dX11_reads_83 : decode (mc mX11_reads) 83 = .ok (.aload_n 0, 1) := by decide +kernel
theorem dX11_reads_84 : decode (mc mX11_reads) 84 = .ok (.iconst 0, 1) := by decide +kernel
theorem dX11_reads_85 : decode (mc mX11_reads) 85 = .ok (.invokevirtual 364, 3) := by decide +kernel
theorem dX11_reads_88 : decode (mc mX11_reads) 88 = .ok (.ifCond .ne 5, 3) := by decide +kernel
theorem dX11_reads_91 : decode (mc mX11_reads) 91 = .ok (.iconst 0, 1) := by decide +kernel
theorem dX11_reads_92 : decode (mc mX11_reads) 92 = .ok (.ireturn, 1) := by decide +kernel
theorem dX11_reads_93 : decode (mc mX11_reads) 93 = .ok (.iconst 1, 1) := by decide +kernel
theorem dX11_reads_94 : decode (mc mX11_reads) 94 = .ok (.istore_n 1, 1) := by decide +kernel
theorem dX11_reads_95 : decode (mc mX11_reads) 95 = .ok (.iload_n 1, 1) := by decide +kernel
theorem dX11_reads_96 : decode (mc mX11_reads) 96 = .ok (.aload_n 0, 1) := by decide +kernel
theorem dX11_reads_97 : decode (mc mX11_reads) 97 = .ok (.getfield 355, 3) := by decide +kernel
theorem dX11_reads_100 : decode (mc mX11_reads) 100 = .ok (.invokestatic 367, 3) := by decide +kernel
theorem dX11_reads_103 : decode (mc mX11_reads) 103 = .ok (.if_icmp .gt 42, 3) := by decide +kernel
theorem dX11_reads_106 : decode (mc mX11_reads) 106 = .ok (.iload_n 1, 1) := by decide +kernel
theorem dX11_reads_107 : decode (mc mX11_reads) 107 = .ok (.iconst 1, 1) := by decide +kernel
theorem dX11_reads_108 : decode (mc mX11_reads) 108 = .ok (.if_icmp .ne 10, 3) := by decide +kernel
theorem dX11_reads_111 : decode (mc mX11_reads) 111 = .ok (.aload_n 0, 1) := by decide +kernel
theorem dX11_reads_112 : decode (mc mX11_reads) 112 = .ok (.invokevirtual 370, 3) := by decide +kernel
theorem dX11_reads_115 : decode (mc mX11_reads) 115 = .ok (.goto 9, 3) := by decide +kernel
theorem dX11_reads_118 : decode (mc mX11_reads) 118 = .ok (.aload_n 0, 1) := by decide +kernel
theorem dX11_reads_119 : decode (mc mX11_reads) 119 = .ok (.bipush 44, 2) := by decide +kernel
theorem dX11_reads_121 : decode (mc mX11_reads) 121 = .ok (.invokevirtual 361, 3) := by decide +kernel
theorem dX11_reads_124 : decode (mc mX11_reads) 124 = .ok (.istore_n 2, 1) := by decide +kernel
theorem dX11_reads_125 : decode (mc mX11_reads) 125 = .ok (.iload_n 2, 1) := by decide +kernel
theorem dX11_reads_126 : decode (mc mX11_reads) 126 = .ok (.ifCond .eq 11, 3) := by decide +kernel
theorem dX11_reads_129 : decode (mc mX11_reads) 129 = .ok (.aload_n 0, 1) := by decide +kernel
theorem dX11_reads_130 : decode (mc mX11_reads) 130 = .ok (.iload_n 1, 1) := by decide +kernel
theorem dX11_reads_131 : decode (mc mX11_reads) 131 = .ok (.invokevirtual 364, 3) := by decide +kernel
theorem dX11_reads_134 : decode (mc mX11_reads) 134 = .ok (.ifCond .ne 5, 3) := by decide +kernel
theorem dX11_reads_137 : decode (mc mX11_reads) 137 = .ok (.iconst 0, 1) := by decide +kernel
theorem dX11_reads_138 : decode (mc mX11_reads) 138 = .ok (.ireturn, 1) := by decide +kernel
theorem dX11_reads_139 : decode (mc mX11_reads) 139 = .ok (.iinc 1 1, 3) := by decide +kernel
theorem dX11_reads_142 : decode (mc mX11_reads) 142 = .ok (.goto (-47), 3) := by decide +kernel
theorem dX11_reads_145 : decode (mc mX11_reads) 145 = .ok (.aload_n 0, 1) := by decide +kernel
theorem dX11_reads_146 : decode (mc mX11_reads) 146 = .ok (.bipush 59, 2) := by decide +kernel
theorem dX11_reads_148 : decode (mc mX11_reads) 148 = .ok (.invokevirtual 361, 3) := by decide +kernel
theorem dX11_reads_151 : decode (mc mX11_reads) 151 = .ok (.ireturn, 1) := by decide +kernel
theorem dX11_wrongTold_0 : decode (mc mX11_wrongTold) 0 = .ok (.aload_n 0, 1) := by decide +kernel
theorem dX11_wrongTold_1 : decode (mc mX11_wrongTold) 1 = .ok (.getfield 74, 3) := by decide +kernel
theorem dX11_wrongTold_4 : decode (mc mX11_wrongTold) 4 = .ok (.iconst 0, 1) := by decide +kernel
theorem dX11_wrongTold_5 : decode (mc mX11_wrongTold) 5 = .ok (.iaload, 1) := by decide +kernel
theorem dX11_wrongTold_6 : decode (mc mX11_wrongTold) 6 = .ok (.istore_n 1, 1) := by decide +kernel
theorem dX11_wrongTold_7 : decode (mc mX11_wrongTold) 7 = .ok (.aload_n 0, 1) := by decide +kernel
theorem dX11_wrongTold_8 : decode (mc mX11_wrongTold) 8 = .ok (.getfield 74, 3) := by decide +kernel
theorem dX11_wrongTold_11 : decode (mc mX11_wrongTold) 11 = .ok (.iconst 1, 1) := by decide +kernel
theorem dX11_wrongTold_12 : decode (mc mX11_wrongTold) 12 = .ok (.iaload, 1) := by decide +kernel
theorem dX11_wrongTold_13 : decode (mc mX11_wrongTold) 13 = .ok (.istore_n 2, 1) := by decide +kernel
theorem dX11_wrongTold_14 : decode (mc mX11_wrongTold) 14 = .ok (.aload_n 0, 1) := by decide +kernel
theorem dX11_wrongTold_15 : decode (mc mX11_wrongTold) 15 = .ok (.getfield 74, 3) := by decide +kernel
theorem dX11_wrongTold_18 : decode (mc mX11_wrongTold) 18 = .ok (.iconst 2, 1) := by decide +kernel
theorem dX11_wrongTold_19 : decode (mc mX11_wrongTold) 19 = .ok (.iaload, 1) := by decide +kernel
theorem dX11_wrongTold_20 : decode (mc mX11_wrongTold) 20 = .ok (.istore_n 3, 1) := by decide +kernel
theorem dX11_wrongTold_21 : decode (mc mX11_wrongTold) 21 = .ok (.aload_n 0, 1) := by decide +kernel
theorem dX11_wrongTold_22 : decode (mc mX11_wrongTold) 22 = .ok (.getfield 355, 3) := by decide +kernel
theorem dX11_wrongTold_25 : decode (mc mX11_wrongTold) 25 = .ok (.tableswitch 152 97 116 #[132, 152, 110, 144, 152, 152, 102, 152, 152, 152, 152, 152, 152, 152, 152, 95, 152, 152, 152, 124], 95) := by decide +kernel
theorem dX11_wrongTold_120 : decode (mc mX11_wrongTold) 120 = .ok (.aload_n 0, 1) := by decide +kernel
theorem dX11_wrongTold_121 : decode (mc mX11_wrongTold) 121 = .ok (.iload_n 1, 1) := by decide +kernel
theorem dX11_wrongTold_122 : decode (mc mX11_wrongTold) 122 = .ok (.iload_n 2, 1) := by decide +kernel
theorem dX11_wrongTold_123 : decode (mc mX11_wrongTold) 123 = .ok (.invokevirtual 117, 3) := by decide +kernel
theorem dX11_wrongTold_126 : decode (mc mX11_wrongTold) 126 = .ok (.ireturn, 1) := by decide +kernel
theorem dX11_wrongTold_127 : decode (mc mX11_wrongTold) 127 = .ok (.aload_n 0, 1) := by decide +kernel
theorem dX11_wrongTold_128 : decode (mc mX11_wrongTold) 128 = .ok (.iload_n 1, 1) := by decide +kernel
theorem dX11_wrongTold_129 : decode (mc mX11_wrongTold) 129 = .ok (.iload_n 2, 1) := by decide +kernel
theorem dX11_wrongTold_130 : decode (mc mX11_wrongTold) 130 = .ok (.iload_n 3, 1) := by decide +kernel
theorem dX11_wrongTold_131 : decode (mc mX11_wrongTold) 131 = .ok (.invokevirtual 127, 3) := by decide +kernel
theorem dX11_wrongTold_134 : decode (mc mX11_wrongTold) 134 = .ok (.ireturn, 1) := by decide +kernel
theorem dX11_wrongTold_135 : decode (mc mX11_wrongTold) 135 = .ok (.aload_n 0, 1) := by decide +kernel
theorem dX11_wrongTold_136 : decode (mc mX11_wrongTold) 136 = .ok (.iload_n 1, 1) := by decide +kernel
theorem dX11_wrongTold_137 : decode (mc mX11_wrongTold) 137 = .ok (.iload_n 2, 1) := by decide +kernel
theorem dX11_wrongTold_138 : decode (mc mX11_wrongTold) 138 = .ok (.iload_n 3, 1) := by decide +kernel
theorem dX11_wrongTold_139 : decode (mc mX11_wrongTold) 139 = .ok (.aload_n 0, 1) := by decide +kernel
theorem dX11_wrongTold_140 : decode (mc mX11_wrongTold) 140 = .ok (.getfield 74, 3) := by decide +kernel
theorem dX11_wrongTold_143 : decode (mc mX11_wrongTold) 143 = .ok (.iconst 3, 1) := by decide +kernel
theorem dX11_wrongTold_144 : decode (mc mX11_wrongTold) 144 = .ok (.iaload, 1) := by decide +kernel
theorem dX11_wrongTold_145 : decode (mc mX11_wrongTold) 145 = .ok (.invokevirtual 133, 3) := by decide +kernel
theorem dX11_wrongTold_148 : decode (mc mX11_wrongTold) 148 = .ok (.ireturn, 1) := by decide +kernel
theorem dX11_wrongTold_149 : decode (mc mX11_wrongTold) 149 = .ok (.aload_n 0, 1) := by decide +kernel
theorem dX11_wrongTold_150 : decode (mc mX11_wrongTold) 150 = .ok (.iload_n 1, 1) := by decide +kernel
theorem dX11_wrongTold_151 : decode (mc mX11_wrongTold) 151 = .ok (.iload_n 2, 1) := by decide +kernel
theorem dX11_wrongTold_152 : decode (mc mX11_wrongTold) 152 = .ok (.iload_n 3, 1) := by decide +kernel
theorem dX11_wrongTold_153 : decode (mc mX11_wrongTold) 153 = .ok (.invokevirtual 137, 3) := by decide +kernel
theorem dX11_wrongTold_156 : decode (mc mX11_wrongTold) 156 = .ok (.ireturn, 1) := by decide +kernel
theorem dX11_wrongTold_157 : decode (mc mX11_wrongTold) 157 = .ok (.aload_n 0, 1) := by decide +kernel
theorem dX11_wrongTold_158 : decode (mc mX11_wrongTold) 158 = .ok (.iload_n 1, 1) := by decide +kernel
theorem dX11_wrongTold_159 : decode (mc mX11_wrongTold) 159 = .ok (.aload_n 0, 1) := by decide +kernel
theorem dX11_wrongTold_160 : decode (mc mX11_wrongTold) 160 = .ok (.getfield 358, 3) := by decide +kernel
theorem dX11_wrongTold_163 : decode (mc mX11_wrongTold) 163 = .ok (.iload_n 2, 1) := by decide +kernel
theorem dX11_wrongTold_164 : decode (mc mX11_wrongTold) 164 = .ok (.imul, 1) := by decide +kernel
theorem dX11_wrongTold_165 : decode (mc mX11_wrongTold) 165 = .ok (.invokevirtual 140, 3) := by decide +kernel
theorem dX11_wrongTold_168 : decode (mc mX11_wrongTold) 168 = .ok (.ireturn, 1) := by decide +kernel
theorem dX11_wrongTold_169 : decode (mc mX11_wrongTold) 169 = .ok (.aload_n 0, 1) := by decide +kernel
theorem dX11_wrongTold_170 : decode (mc mX11_wrongTold) 170 = .ok (.iload_n 1, 1) := by decide +kernel
theorem dX11_wrongTold_171 : decode (mc mX11_wrongTold) 171 = .ok (.iload_n 2, 1) := by decide +kernel
theorem dX11_wrongTold_172 : decode (mc mX11_wrongTold) 172 = .ok (.iload_n 3, 1) := by decide +kernel
theorem dX11_wrongTold_173 : decode (mc mX11_wrongTold) 173 = .ok (.invokevirtual 108, 3) := by decide +kernel
theorem dX11_wrongTold_176 : decode (mc mX11_wrongTold) 176 = .ok (.ireturn, 1) := by decide +kernel
theorem dX11_wrongTold_177 : decode (mc mX11_wrongTold) 177 = .ok (.aload_n 0, 1) := by decide +kernel
theorem dX11_wrongTold_178 : decode (mc mX11_wrongTold) 178 = .ok (.iload_n 1, 1) := by decide +kernel
theorem dX11_wrongTold_179 : decode (mc mX11_wrongTold) 179 = .ok (.invokevirtual 97, 3) := by decide +kernel
theorem dX11_wrongTold_182 : decode (mc mX11_wrongTold) 182 = .ok (.ireturn, 1) := by decide +kernel
theorem dX11_doesTold_0 : decode (mc mX11_doesTold) 0 = .ok (.aload_n 0, 1) := by decide +kernel
theorem dX11_doesTold_1 : decode (mc mX11_doesTold) 1 = .ok (.getfield 74, 3) := by decide +kernel
theorem dX11_doesTold_4 : decode (mc mX11_doesTold) 4 = .ok (.iconst 0, 1) := by decide +kernel
theorem dX11_doesTold_5 : decode (mc mX11_doesTold) 5 = .ok (.iaload, 1) := by decide +kernel
theorem dX11_doesTold_6 : decode (mc mX11_doesTold) 6 = .ok (.istore_n 1, 1) := by decide +kernel
theorem dX11_doesTold_7 : decode (mc mX11_doesTold) 7 = .ok (.aload_n 0, 1) := by decide +kernel
theorem dX11_doesTold_8 : decode (mc mX11_doesTold) 8 = .ok (.getfield 74, 3) := by decide +kernel
theorem dX11_doesTold_11 : decode (mc mX11_doesTold) 11 = .ok (.iconst 1, 1) := by decide +kernel
theorem dX11_doesTold_12 : decode (mc mX11_doesTold) 12 = .ok (.iaload, 1) := by decide +kernel
theorem dX11_doesTold_13 : decode (mc mX11_doesTold) 13 = .ok (.istore_n 2, 1) := by decide +kernel
theorem dX11_doesTold_14 : decode (mc mX11_doesTold) 14 = .ok (.aload_n 0, 1) := by decide +kernel
theorem dX11_doesTold_15 : decode (mc mX11_doesTold) 15 = .ok (.getfield 74, 3) := by decide +kernel
theorem dX11_doesTold_18 : decode (mc mX11_doesTold) 18 = .ok (.iconst 2, 1) := by decide +kernel
theorem dX11_doesTold_19 : decode (mc mX11_doesTold) 19 = .ok (.iaload, 1) := by decide +kernel
theorem dX11_doesTold_20 : decode (mc mX11_doesTold) 20 = .ok (.istore_n 3, 1) := by decide +kernel
theorem dX11_doesTold_21 : decode (mc mX11_doesTold) 21 = .ok (.aload_n 0, 1) := by decide +kernel
theorem dX11_doesTold_22 : decode (mc mX11_doesTold) 22 = .ok (.getfield 355, 3) := by decide +kernel
theorem dX11_doesTold_25 : decode (mc mX11_doesTold) 25 = .ok (.tableswitch 152 97 116 #[132, 152, 110, 144, 152, 152, 102, 152, 152, 152, 152, 152, 152, 152, 152, 95, 152, 152, 152, 124], 95) := by decide +kernel
theorem dX11_doesTold_120 : decode (mc mX11_doesTold) 120 = .ok (.aload_n 0, 1) := by decide +kernel
theorem dX11_doesTold_121 : decode (mc mX11_doesTold) 121 = .ok (.iload_n 1, 1) := by decide +kernel
theorem dX11_doesTold_122 : decode (mc mX11_doesTold) 122 = .ok (.iload_n 2, 1) := by decide +kernel
theorem dX11_doesTold_123 : decode (mc mX11_doesTold) 123 = .ok (.invokevirtual 374, 3) := by decide +kernel
theorem dX11_doesTold_126 : decode (mc mX11_doesTold) 126 = .ok (.ireturn, 1) := by decide +kernel
theorem dX11_doesTold_127 : decode (mc mX11_doesTold) 127 = .ok (.aload_n 0, 1) := by decide +kernel
theorem dX11_doesTold_128 : decode (mc mX11_doesTold) 128 = .ok (.iload_n 1, 1) := by decide +kernel
theorem dX11_doesTold_129 : decode (mc mX11_doesTold) 129 = .ok (.iload_n 2, 1) := by decide +kernel
theorem dX11_doesTold_130 : decode (mc mX11_doesTold) 130 = .ok (.iload_n 3, 1) := by decide +kernel
theorem dX11_doesTold_131 : decode (mc mX11_doesTold) 131 = .ok (.invokevirtual 377, 3) := by decide +kernel
theorem dX11_doesTold_134 : decode (mc mX11_doesTold) 134 = .ok (.ireturn, 1) := by decide +kernel
theorem dX11_doesTold_135 : decode (mc mX11_doesTold) 135 = .ok (.aload_n 0, 1) := by decide +kernel
theorem dX11_doesTold_136 : decode (mc mX11_doesTold) 136 = .ok (.iload_n 1, 1) := by decide +kernel
theorem dX11_doesTold_137 : decode (mc mX11_doesTold) 137 = .ok (.iload_n 2, 1) := by decide +kernel
theorem dX11_doesTold_138 : decode (mc mX11_doesTold) 138 = .ok (.iload_n 3, 1) := by decide +kernel
theorem dX11_doesTold_139 : decode (mc mX11_doesTold) 139 = .ok (.aload_n 0, 1) := by decide +kernel
theorem dX11_doesTold_140 : decode (mc mX11_doesTold) 140 = .ok (.getfield 74, 3) := by decide +kernel
theorem dX11_doesTold_143 : decode (mc mX11_doesTold) 143 = .ok (.iconst 3, 1) := by decide +kernel
theorem dX11_doesTold_144 : decode (mc mX11_doesTold) 144 = .ok (.iaload, 1) := by decide +kernel
theorem dX11_doesTold_145 : decode (mc mX11_doesTold) 145 = .ok (.invokevirtual 380, 3) := by decide +kernel
theorem dX11_doesTold_148 : decode (mc mX11_doesTold) 148 = .ok (.ireturn, 1) := by decide +kernel
theorem dX11_doesTold_149 : decode (mc mX11_doesTold) 149 = .ok (.aload_n 0, 1) := by decide +kernel
theorem dX11_doesTold_150 : decode (mc mX11_doesTold) 150 = .ok (.iload_n 1, 1) := by decide +kernel
theorem dX11_doesTold_151 : decode (mc mX11_doesTold) 151 = .ok (.iload_n 2, 1) := by decide +kernel
theorem dX11_doesTold_152 : decode (mc mX11_doesTold) 152 = .ok (.iload_n 3, 1) := by decide +kernel
theorem dX11_doesTold_153 : decode (mc mX11_doesTold) 153 = .ok (.invokevirtual 383, 3) := by decide +kernel
theorem dX11_doesTold_156 : decode (mc mX11_doesTold) 156 = .ok (.ireturn, 1) := by decide +kernel
theorem dX11_doesTold_157 : decode (mc mX11_doesTold) 157 = .ok (.aload_n 0, 1) := by decide +kernel
theorem dX11_doesTold_158 : decode (mc mX11_doesTold) 158 = .ok (.iload_n 1, 1) := by decide +kernel
theorem dX11_doesTold_159 : decode (mc mX11_doesTold) 159 = .ok (.aload_n 0, 1) := by decide +kernel
theorem dX11_doesTold_160 : decode (mc mX11_doesTold) 160 = .ok (.getfield 358, 3) := by decide +kernel
theorem dX11_doesTold_163 : decode (mc mX11_doesTold) 163 = .ok (.iload_n 2, 1) := by decide +kernel
theorem dX11_doesTold_164 : decode (mc mX11_doesTold) 164 = .ok (.imul, 1) := by decide +kernel
theorem dX11_doesTold_165 : decode (mc mX11_doesTold) 165 = .ok (.invokevirtual 386, 3) := by decide +kernel
theorem dX11_doesTold_168 : decode (mc mX11_doesTold) 168 = .ok (.ireturn, 1) := by decide +kernel
theorem dX11_doesTold_169 : decode (mc mX11_doesTold) 169 = .ok (.aload_n 0, 1) := by decide +kernel
theorem dX11_doesTold_170 : decode (mc mX11_doesTold) 170 = .ok (.iload_n 1, 1) := by decide +kernel
theorem dX11_doesTold_171 : decode (mc mX11_doesTold) 171 = .ok (.iload_n 2, 1) := by decide +kernel
theorem dX11_doesTold_172 : decode (mc mX11_doesTold) 172 = .ok (.iload_n 3, 1) := by decide +kernel
theorem dX11_doesTold_173 : decode (mc mX11_doesTold) 173 = .ok (.invokevirtual 389, 3) := by decide +kernel
theorem dX11_doesTold_176 : decode (mc mX11_doesTold) 176 = .ok (.ireturn, 1) := by decide +kernel
theorem dX11_doesTold_177 : decode (mc mX11_doesTold) 177 = .ok (.aload_n 0, 1) := by decide +kernel
theorem dX11_doesTold_178 : decode (mc mX11_doesTold) 178 = .ok (.iload_n 1, 1) := by decide +kernel
theorem dX11_doesTold_179 : decode (mc mX11_doesTold) 179 = .ok (.invokevirtual 392, 3) := by decide +kernel
theorem dX11_doesTold_182 : decode (mc mX11_doesTold) 182 = .ok (.ireturn, 1) := by decide +kernel
theorem dX11_tells_0 : decode (mc mX11_tells) 0 = .ok (.aload_n 0, 1) := by decide +kernel
theorem dX11_tells_1 : decode (mc mX11_tells) 1 = .ok (.iconst 0, 1) := by decide +kernel
theorem dX11_tells_2 : decode (mc mX11_tells) 2 = .ok (.putfield 345, 3) := by decide +kernel
theorem dX11_tells_5 : decode (mc mX11_tells) 5 = .ok (.iconst 0, 1) := by decide +kernel
theorem dX11_tells_6 : decode (mc mX11_tells) 6 = .ok (.istore_n 1, 1) := by decide +kernel
theorem dX11_tells_7 : decode (mc mX11_tells) 7 = .ok (.iconst 1, 1) := by decide +kernel
theorem dX11_tells_8 : decode (mc mX11_tells) 8 = .ok (.istore_n 2, 1) := by decide +kernel
theorem dX11_tells_9 : decode (mc mX11_tells) 9 = .ok (.iload_n 2, 1) := by decide +kernel
theorem dX11_tells_10 : decode (mc mX11_tells) 10 = .ok (.ifCond .eq 29, 3) := by decide +kernel
theorem dX11_tells_13 : decode (mc mX11_tells) 13 = .ok (.iload_n 1, 1) := by decide +kernel
theorem dX11_tells_14 : decode (mc mX11_tells) 14 = .ok (.ifCond .eq 14, 3) := by decide +kernel
theorem dX11_tells_17 : decode (mc mX11_tells) 17 = .ok (.aload_n 0, 1) := by decide +kernel
theorem dX11_tells_18 : decode (mc mX11_tells) 18 = .ok (.getfield 345, 3) := by decide +kernel
theorem dX11_tells_21 : decode (mc mX11_tells) 21 = .ok (.aload_n 0, 1) := by decide +kernel
theorem dX11_tells_22 : decode (mc mX11_tells) 22 = .ok (.getfield 342, 3) := by decide +kernel
theorem dX11_tells_25 : decode (mc mX11_tells) 25 = .ok (.if_icmp .ge 14, 3) := by decide +kernel
theorem dX11_tells_28 : decode (mc mX11_tells) 28 = .ok (.aload_n 0, 1) := by decide +kernel
theorem dX11_tells_29 : decode (mc mX11_tells) 29 = .ok (.invokevirtual 395, 3) := by decide +kernel
theorem dX11_tells_32 : decode (mc mX11_tells) 32 = .ok (.istore_n 2, 1) := by decide +kernel
theorem dX11_tells_33 : decode (mc mX11_tells) 33 = .ok (.iinc 1 1, 3) := by decide +kernel
theorem dX11_tells_36 : decode (mc mX11_tells) 36 = .ok (.goto (-27), 3) := by decide +kernel
theorem dX11_tells_39 : decode (mc mX11_tells) 39 = .ok (.iload_n 2, 1) := by decide +kernel
theorem dX11_tells_40 : decode (mc mX11_tells) 40 = .ok (.ifCond .eq 7, 3) := by decide +kernel
theorem dX11_tells_43 : decode (mc mX11_tells) 43 = .ok (.iconst 0, 1) := by decide +kernel
theorem dX11_tells_44 : decode (mc mX11_tells) 44 = .ok (.goto 11, 3) := by decide +kernel
theorem dX11_tells_47 : decode (mc mX11_tells) 47 = .ok (.sipush (-1000), 3) := by decide +kernel
theorem dX11_tells_50 : decode (mc mX11_tells) 50 = .ok (.aload_n 0, 1) := by decide +kernel
theorem dX11_tells_51 : decode (mc mX11_tells) 51 = .ok (.getfield 345, 3) := by decide +kernel
theorem dX11_tells_54 : decode (mc mX11_tells) 54 = .ok (.isub, 1) := by decide +kernel
theorem dX11_tells_55 : decode (mc mX11_tells) 55 = .ok (.istore_n 3, 1) := by decide +kernel
theorem dX11_tells_56 : decode (mc mX11_tells) 56 = .ok (.aload_n 0, 1) := by decide +kernel
theorem dX11_tells_57 : decode (mc mX11_tells) 57 = .ok (.invokevirtual 261, 3) := by decide +kernel
theorem dX11_tells_60 : decode (mc mX11_tells) 60 = .ok (.aload_n 0, 1) := by decide +kernel
theorem dX11_tells_61 : decode (mc mX11_tells) 61 = .ok (.iconst 0, 1) := by decide +kernel
theorem dX11_tells_62 : decode (mc mX11_tells) 62 = .ok (.putfield 345, 3) := by decide +kernel
theorem dX11_tells_65 : decode (mc mX11_tells) 65 = .ok (.iload_n 3, 1) := by decide +kernel
theorem dX11_tells_66 : decode (mc mX11_tells) 66 = .ok (.ifCond .ne 56, 3) := by decide +kernel
theorem dX11_tells_69 : decode (mc mX11_tells) 69 = .ok (.aload_n 0, 1) := by decide +kernel
theorem dX11_tells_70 : decode (mc mX11_tells) 70 = .ok (.getfield 345, 3) := by decide +kernel
theorem dX11_tells_73 : decode (mc mX11_tells) 73 = .ok (.aload_n 0, 1) := by decide +kernel
theorem dX11_tells_74 : decode (mc mX11_tells) 74 = .ok (.getfield 342, 3) := by decide +kernel
theorem dX11_tells_77 : decode (mc mX11_tells) 77 = .ok (.if_icmp .ge 45, 3) := by decide +kernel
theorem dX11_tells_80 : decode (mc mX11_tells) 80 = .ok (.aload_n 0, 1) := by decide +kernel
theorem dX11_tells_81 : decode (mc mX11_tells) 81 = .ok (.getfield 345, 3) := by decide +kernel
theorem dX11_tells_84 : decode (mc mX11_tells) 84 = .ok (.istore 4, 2) := by decide +kernel
theorem dX11_tells_86 : decode (mc mX11_tells) 86 = .ok (.aload_n 0, 1) := by decide +kernel
theorem dX11_tells_87 : decode (mc mX11_tells) 87 = .ok (.invokevirtual 395, 3) := by decide +kernel
theorem dX11_tells_90 : decode (mc mX11_tells) 90 = .ok (.istore 5, 2) := by decide +kernel
theorem dX11_tells_92 : decode (mc mX11_tells) 92 = .ok (.aload_n 0, 1) := by decide +kernel
theorem dX11_tells_93 : decode (mc mX11_tells) 93 = .ok (.invokevirtual 398, 3) := by decide +kernel
theorem dX11_tells_96 : decode (mc mX11_tells) 96 = .ok (.ifCond .ne 12, 3) := by decide +kernel
theorem dX11_tells_99 : decode (mc mX11_tells) 99 = .ok (.aload_n 0, 1) := by decide +kernel
theorem dX11_tells_100 : decode (mc mX11_tells) 100 = .ok (.invokevirtual 401, 3) := by decide +kernel
theorem dX11_tells_103 : decode (mc mX11_tells) 103 = .ok (.istore 6, 2) := by decide +kernel
theorem dX11_tells_105 : decode (mc mX11_tells) 105 = .ok (.goto 14, 3) := by decide +kernel
theorem dX11_tells_108 : decode (mc mX11_tells) 108 = .ok (.sipush (-2000), 3) := by decide +kernel
theorem dX11_tells_111 : decode (mc mX11_tells) 111 = .ok (.iload 4, 2) := by decide +kernel
theorem dX11_tells_113 : decode (mc mX11_tells) 113 = .ok (.isub, 1) := by decide +kernel
theorem dX11_tells_114 : decode (mc mX11_tells) 114 = .ok (.istore_n 3, 1) := by decide +kernel
theorem dX11_tells_115 : decode (mc mX11_tells) 115 = .ok (.aload_n 0, 1) := by decide +kernel
theorem dX11_tells_116 : decode (mc mX11_tells) 116 = .ok (.invokevirtual 273, 3) := by decide +kernel
theorem dX11_tells_119 : decode (mc mX11_tells) 119 = .ok (.goto (-54), 3) := by decide +kernel
theorem dX11_tells_122 : decode (mc mX11_tells) 122 = .ok (.aload_n 0, 1) := by decide +kernel
theorem dX11_tells_123 : decode (mc mX11_tells) 123 = .ok (.iconst 0, 1) := by decide +kernel
theorem dX11_tells_124 : decode (mc mX11_tells) 124 = .ok (.putfield 342, 3) := by decide +kernel
theorem dX11_tells_127 : decode (mc mX11_tells) 127 = .ok (.iload_n 3, 1) := by decide +kernel
theorem dX11_tells_128 : decode (mc mX11_tells) 128 = .ok (.ifCond .ne 7, 3) := by decide +kernel
theorem dX11_tells_131 : decode (mc mX11_tells) 131 = .ok (.iload_n 1, 1) := by decide +kernel
theorem dX11_tells_132 : decode (mc mX11_tells) 132 = .ok (.goto 4, 3) := by decide +kernel
theorem dX11_tells_135 : decode (mc mX11_tells) 135 = .ok (.iload_n 3, 1) := by decide +kernel
theorem dX11_tells_136 : decode (mc mX11_tells) 136 = .ok (.ireturn, 1) := by decide +kernel
theorem dX11_image_0 : decode (mc mX11_image) 0 = .ok (.aload_n 0, 1) := by decide +kernel
theorem dX11_image_1 : decode (mc mX11_image) 1 = .ok (.getfield 9, 3) := by decide +kernel
theorem dX11_image_4 : decode (mc mX11_image) 4 = .ok (.iconst 0, 1) := by decide +kernel
theorem dX11_image_5 : decode (mc mX11_image) 5 = .ok (.aload_n 0, 1) := by decide +kernel
theorem dX11_image_6 : decode (mc mX11_image) 6 = .ok (.getfield 16, 3) := by decide +kernel
theorem dX11_image_9 : decode (mc mX11_image) 9 = .ok (.iconst 0, 1) := by decide +kernel
theorem dX11_image_10 : decode (mc mX11_image) 10 = .ok (.bipush 49, 2) := by decide +kernel
theorem dX11_image_12 : decode (mc mX11_image) 12 = .ok (.invokestatic 83, 3) := by decide +kernel
theorem dX11_image_15 : decode (mc mX11_image) 15 = .ok (.aload_n 0, 1) := by decide +kernel
theorem dX11_image_16 : decode (mc mX11_image) 16 = .ok (.aload_n 0, 1) := by decide +kernel
theorem dX11_image_17 : decode (mc mX11_image) 17 = .ok (.getfield 315, 3) := by decide +kernel
theorem dX11_image_20 : decode (mc mX11_image) 20 = .ok (.putfield 404, 3) := by decide +kernel
theorem dX11_image_23 : decode (mc mX11_image) 23 = .ok (.aload_n 0, 1) := by decide +kernel
theorem dX11_image_24 : decode (mc mX11_image) 24 = .ok (.iconst 1, 1) := by decide +kernel
theorem dX11_image_25 : decode (mc mX11_image) 25 = .ok (.putfield 407, 3) := by decide +kernel
theorem dX11_image_28 : decode (mc mX11_image) 28 = .ok (.aload_n 0, 1) := by decide +kernel
theorem dX11_image_29 : decode (mc mX11_image) 29 = .ok (.getfield 9, 3) := by decide +kernel
theorem dX11_image_32 : decode (mc mX11_image) 32 = .ok (.iconst 3, 1) := by decide +kernel
theorem dX11_image_33 : decode (mc mX11_image) 33 = .ok (.iaload, 1) := by decide +kernel
theorem dX11_image_34 : decode (mc mX11_image) 34 = .ok (.ireturn, 1) := by decide +kernel
theorem dX11_on_0 : decode (mc mX11_on) 0 = .ok (.aload_n 0, 1) := by decide +kernel
theorem dX11_on_1 : decode (mc mX11_on) 1 = .ok (.getfield 407, 3) := by decide +kernel
theorem dX11_on_4 : decode (mc mX11_on) 4 = .ok (.ifCond .ne 10, 3) := by decide +kernel
theorem dX11_on_7 : decode (mc mX11_on) 7 = .ok (.aload_n 0, 1) := by decide +kernel
theorem dX11_on_8 : decode (mc mX11_on) 8 = .ok (.bipush (-3), 2) := by decide +kernel
theorem dX11_on_10 : decode (mc mX11_on) 10 = .ok (.invokevirtual 79, 3) := by decide +kernel
theorem dX11_on_13 : decode (mc mX11_on) 13 = .ok (.ireturn, 1) := by decide +kernel
theorem dX11_on_14 : decode (mc mX11_on) 14 = .ok (.aload_n 0, 1) := by decide +kernel
theorem dX11_on_15 : decode (mc mX11_on) 15 = .ok (.getfield 16, 3) := by decide +kernel
theorem dX11_on_18 : decode (mc mX11_on) 18 = .ok (.iconst 0, 1) := by decide +kernel
theorem dX11_on_19 : decode (mc mX11_on) 19 = .ok (.aload_n 0, 1) := by decide +kernel
theorem dX11_on_20 : decode (mc mX11_on) 20 = .ok (.getfield 9, 3) := by decide +kernel
theorem dX11_on_23 : decode (mc mX11_on) 23 = .ok (.iconst 0, 1) := by decide +kernel
theorem dX11_on_24 : decode (mc mX11_on) 24 = .ok (.bipush 49, 2) := by decide +kernel
theorem dX11_on_26 : decode (mc mX11_on) 26 = .ok (.invokestatic 83, 3) := by decide +kernel
theorem dX11_on_29 : decode (mc mX11_on) 29 = .ok (.aload_n 0, 1) := by decide +kernel
theorem dX11_on_30 : decode (mc mX11_on) 30 = .ok (.aload_n 0, 1) := by decide +kernel
theorem dX11_on_31 : decode (mc mX11_on) 31 = .ok (.getfield 404, 3) := by decide +kernel
theorem dX11_on_34 : decode (mc mX11_on) 34 = .ok (.putfield 315, 3) := by decide +kernel
theorem dX11_on_37 : decode (mc mX11_on) 37 = .ok (.aload_n 0, 1) := by decide +kernel
theorem dX11_on_38 : decode (mc mX11_on) 38 = .ok (.getfield 9, 3) := by decide +kernel
theorem dX11_on_41 : decode (mc mX11_on) 41 = .ok (.iconst 3, 1) := by decide +kernel
theorem dX11_on_42 : decode (mc mX11_on) 42 = .ok (.iaload, 1) := by decide +kernel
theorem dX11_on_43 : decode (mc mX11_on) 43 = .ok (.ireturn, 1) := by decide +kernel
theorem dX11_count_0 : decode (mc mX11_count) 0 = .ok (.iload_n 1, 1) := by decide +kernel
theorem dX11_count_1 : decode (mc mX11_count) 1 = .ok (.i2l, 1) := by decide +kernel
theorem dX11_count_2 : decode (mc mX11_count) 2 = .ok (.ldc2_w 153, 3) := by decide +kernel
theorem dX11_count_5 : decode (mc mX11_count) 5 = .ok (.ldc2_w 411, 3) := by decide +kernel
theorem dX11_count_8 : decode (mc mX11_count) 8 = .ok (.invokestatic 89, 3) := by decide +kernel
theorem dX11_count_11 : decode (mc mX11_count) 11 = .ok (.ifCond .eq 13, 3) := by decide +kernel
theorem dX11_count_14 : decode (mc mX11_count) 14 = .ok (.aload_n 0, 1) := by decide +kernel
theorem dX11_count_15 : decode (mc mX11_count) 15 = .ok (.getfield 19, 3) := by decide +kernel
theorem dX11_count_18 : decode (mc mX11_count) 18 = .ok (.iload_n 1, 1) := by decide +kernel
theorem dX11_count_19 : decode (mc mX11_count) 19 = .ok (.bipush 10, 2) := by decide +kernel
theorem dX11_count_21 : decode (mc mX11_count) 21 = .ok (.isub, 1) := by decide +kernel
theorem dX11_count_22 : decode (mc mX11_count) 22 = .ok (.iaload, 1) := by decide +kernel
theorem dX11_count_23 : decode (mc mX11_count) 23 = .ok (.ireturn, 1) := by decide +kernel
theorem dX11_count_24 : decode (mc mX11_count) 24 = .ok (.iload_n 1, 1) := by decide +kernel
theorem dX11_count_25 : decode (mc mX11_count) 25 = .ok (.tableswitch 65 0 5 #[39, 46, 46, 46, 55, 60], 39) := by decide +kernel
theorem dX11_count_64 : decode (mc mX11_count) 64 = .ok (.aload_n 0, 1) := by decide +kernel
theorem dX11_count_65 : decode (mc mX11_count) 65 = .ok (.getfield 9, 3) := by decide +kernel
theorem dX11_count_68 : decode (mc mX11_count) 68 = .ok (.iconst 3, 1) := by decide +kernel
theorem dX11_count_69 : decode (mc mX11_count) 69 = .ok (.iaload, 1) := by decide +kernel
theorem dX11_count_70 : decode (mc mX11_count) 70 = .ok (.ireturn, 1) := by decide +kernel
theorem dX11_count_71 : decode (mc mX11_count) 71 = .ok (.aload_n 0, 1) := by decide +kernel
theorem dX11_count_72 : decode (mc mX11_count) 72 = .ok (.getfield 9, 3) := by decide +kernel
theorem dX11_count_75 : decode (mc mX11_count) 75 = .ok (.iload_n 1, 1) := by decide +kernel
theorem dX11_count_76 : decode (mc mX11_count) 76 = .ok (.iconst 1, 1) := by decide +kernel
theorem dX11_count_77 : decode (mc mX11_count) 77 = .ok (.isub, 1) := by decide +kernel
theorem dX11_count_78 : decode (mc mX11_count) 78 = .ok (.iaload, 1) := by decide +kernel
theorem dX11_count_79 : decode (mc mX11_count) 79 = .ok (.ireturn, 1) := by decide +kernel
theorem dX11_count_80 : decode (mc mX11_count) 80 = .ok (.aload_n 0, 1) := by decide +kernel
theorem dX11_count_81 : decode (mc mX11_count) 81 = .ok (.getfield 342, 3) := by decide +kernel
theorem dX11_count_84 : decode (mc mX11_count) 84 = .ok (.ireturn, 1) := by decide +kernel
theorem dX11_count_85 : decode (mc mX11_count) 85 = .ok (.aload_n 0, 1) := by decide +kernel
theorem dX11_count_86 : decode (mc mX11_count) 86 = .ok (.invokevirtual 238, 3) := by decide +kernel
theorem dX11_count_89 : decode (mc mX11_count) 89 = .ok (.ireturn, 1) := by decide +kernel
theorem dX11_count_90 : decode (mc mX11_count) 90 = .ok (.bipush (-9), 2) := by decide +kernel
theorem dX11_count_92 : decode (mc mX11_count) 92 = .ok (.ireturn, 1) := by decide +kernel
theorem dX11_hour_0 : decode (mc mX11_hour) 0 = .ok (.aload_n 0, 1) := by decide +kernel
theorem dX11_hour_1 : decode (mc mX11_hour) 1 = .ok (.iload_n 1, 1) := by decide +kernel
theorem dX11_hour_2 : decode (mc mX11_hour) 2 = .ok (.invokevirtual 100, 3) := by decide +kernel
theorem dX11_hour_5 : decode (mc mX11_hour) 5 = .ok (.ifCond .ne 9, 3) := by decide +kernel
theorem dX11_hour_8 : decode (mc mX11_hour) 8 = .ok (.aload_n 0, 1) := by decide +kernel
theorem dX11_hour_9 : decode (mc mX11_hour) 9 = .ok (.iconst (-1), 1) := by decide +kernel
theorem dX11_hour_10 : decode (mc mX11_hour) 10 = .ok (.invokevirtual 79, 3) := by decide +kernel
theorem dX11_hour_13 : decode (mc mX11_hour) 13 = .ok (.ireturn, 1) := by decide +kernel
theorem dX11_hour_14 : decode (mc mX11_hour) 14 = .ok (.iload_n 2, 1) := by decide +kernel
theorem dX11_hour_15 : decode (mc mX11_hour) 15 = .ok (.i2l, 1) := by decide +kernel
theorem dX11_hour_16 : decode (mc mX11_hour) 16 = .ok (.lconst 0, 1) := by decide +kernel
theorem dX11_hour_17 : decode (mc mX11_hour) 17 = .ok (.ldc2_w 143, 3) := by decide +kernel
theorem dX11_hour_20 : decode (mc mX11_hour) 20 = .ok (.invokestatic 89, 3) := by decide +kernel
theorem dX11_hour_23 : decode (mc mX11_hour) 23 = .ok (.ifCond .ne 10, 3) := by decide +kernel
theorem dX11_hour_26 : decode (mc mX11_hour) 26 = .ok (.aload_n 0, 1) := by decide +kernel
theorem dX11_hour_27 : decode (mc mX11_hour) 27 = .ok (.bipush (-2), 2) := by decide +kernel
theorem dX11_hour_29 : decode (mc mX11_hour) 29 = .ok (.invokevirtual 79, 3) := by decide +kernel
theorem dX11_hour_32 : decode (mc mX11_hour) 32 = .ok (.ireturn, 1) := by decide +kernel
theorem dX11_hour_33 : decode (mc mX11_hour) 33 = .ok (.aload_n 0, 1) := by decide +kernel
theorem dX11_hour_34 : decode (mc mX11_hour) 34 = .ok (.getfield 9, 3) := by decide +kernel
theorem dX11_hour_37 : decode (mc mX11_hour) 37 = .ok (.iconst 4, 1) := by decide +kernel
theorem dX11_hour_38 : decode (mc mX11_hour) 38 = .ok (.iconst 5, 1) := by decide +kernel
theorem dX11_hour_39 : decode (mc mX11_hour) 39 = .ok (.iload_n 2, 1) := by decide +kernel
theorem dX11_hour_40 : decode (mc mX11_hour) 40 = .ok (.imul, 1) := by decide +kernel
theorem dX11_hour_41 : decode (mc mX11_hour) 41 = .ok (.iadd, 1) := by decide +kernel
theorem dX11_hour_42 : decode (mc mX11_hour) 42 = .ok (.iload_n 1, 1) := by decide +kernel
theorem dX11_hour_43 : decode (mc mX11_hour) 43 = .ok (.iadd, 1) := by decide +kernel
theorem dX11_hour_44 : decode (mc mX11_hour) 44 = .ok (.iaload, 1) := by decide +kernel
theorem dX11_hour_45 : decode (mc mX11_hour) 45 = .ok (.ireturn, 1) := by decide +kernel
