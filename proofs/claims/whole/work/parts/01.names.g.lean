theorem dX5_rule_40 : decode cX5_rule 40 = .ok (.getfield 40, 3) := by decide +kernel
theorem dX5_rule_43 : decode cX5_rule 43 = .ok (.iload_n 1, 1) := by decide +kernel
theorem dX5_rule_44 : decode cX5_rule 44 = .ok (.iconst 1, 1) := by decide +kernel
theorem dX5_rule_45 : decode cX5_rule 45 = .ok (.iadd, 1) := by decide +kernel
theorem dX5_rule_46 : decode cX5_rule 46 = .ok (.iaload, 1) := by decide +kernel
theorem dX5_rule_47 : decode cX5_rule 47 = .ok (.bipush 99, 2) := by decide +kernel
theorem dX5_rule_49 : decode cX5_rule 49 = .ok (.if_icmp .ne 7, 3) := by decide +kernel
theorem dX5_rule_52 : decode cX5_rule 52 = .ok (.iconst 1, 1) := by decide +kernel
theorem dX5_rule_53 : decode cX5_rule 53 = .ok (.goto 4, 3) := by decide +kernel
theorem dX5_rule_56 : decode cX5_rule 56 = .ok (.iconst 2, 1) := by decide +kernel
theorem dX5_rule_57 : decode cX5_rule 57 = .ok (.iastore, 1) := by decide +kernel
theorem dX5_rule_58 : decode cX5_rule 58 = .ok (.iinc 1 2, 3) := by decide +kernel
theorem dX5_rule_61 : decode cX5_rule 61 = .ok (.iload_n 1, 1) := by decide +kernel
theorem dX5_rule_62 : decode cX5_rule 62 = .ok (.aload_n 0, 1) := by decide +kernel
theorem dX5_rule_63 : decode cX5_rule 63 = .ok (.getfield 144, 3) := by decide +kernel
theorem dX5_rule_66 : decode cX5_rule 66 = .ok (.if_icmp .ge 45, 3) := by decide +kernel
theorem dX5_rule_69 : decode cX5_rule 69 = .ok (.aload_n 0, 1) := by decide +kernel
theorem dX5_rule_70 : decode cX5_rule 70 = .ok (.getfield 40, 3) := by decide +kernel
theorem dX5_rule_73 : decode cX5_rule 73 = .ok (.iload_n 1, 1) := by decide +kernel
theorem dX5_rule_74 : decode cX5_rule 74 = .ok (.iaload, 1) := by decide +kernel
theorem dX5_rule_75 : decode cX5_rule 75 = .ok (.bipush 59, 2) := by decide +kernel
theorem dX5_rule_77 : decode cX5_rule 77 = .ok (.if_icmp .eq 34, 3) := by decide +kernel
theorem dX5_rule_80 : decode cX5_rule 80 = .ok (.aload_n 0, 1) := by decide +kernel
theorem dX5_rule_81 : decode cX5_rule 81 = .ok (.getfield 46, 3) := by decide +kernel
theorem dX5_rule_84 : decode cX5_rule 84 = .ok (.iload_n 2, 1) := by decide +kernel
theorem dX5_rule_85 : decode cX5_rule 85 = .ok (.bipush 10, 2) := by decide +kernel
theorem dX5_rule_87 : decode cX5_rule 87 = .ok (.aload_n 0, 1) := by decide +kernel
theorem dX5_rule_88 : decode cX5_rule 88 = .ok (.getfield 46, 3) := by decide +kernel
theorem dX5_rule_91 : decode cX5_rule 91 = .ok (.iload_n 2, 1) := by decide +kernel
theorem dX5_rule_92 : decode cX5_rule 92 = .ok (.iaload, 1) := by decide +kernel
theorem dX5_rule_93 : decode cX5_rule 93 = .ok (.imul, 1) := by decide +kernel
theorem dX5_rule_94 : decode cX5_rule 94 = .ok (.aload_n 0, 1) := by decide +kernel
theorem dX5_rule_95 : decode cX5_rule 95 = .ok (.getfield 40, 3) := by decide +kernel
theorem dX5_rule_98 : decode cX5_rule 98 = .ok (.iload_n 1, 1) := by decide +kernel
theorem dX5_rule_99 : decode cX5_rule 99 = .ok (.iaload, 1) := by decide +kernel
theorem dX5_rule_100 : decode cX5_rule 100 = .ok (.iadd, 1) := by decide +kernel
theorem dX5_rule_101 : decode cX5_rule 101 = .ok (.bipush 48, 2) := by decide +kernel
theorem dX5_rule_103 : decode cX5_rule 103 = .ok (.isub, 1) := by decide +kernel
theorem dX5_rule_104 : decode cX5_rule 104 = .ok (.iastore, 1) := by decide +kernel
theorem dX5_rule_105 : decode cX5_rule 105 = .ok (.iinc 1 1, 3) := by decide +kernel
theorem dX5_rule_108 : decode cX5_rule 108 = .ok (.goto (-47), 3) := by decide +kernel
theorem dX5_rule_111 : decode cX5_rule 111 = .ok (.iinc 1 1, 3) := by decide +kernel
theorem dX5_rule_114 : decode cX5_rule 114 = .ok (.aload_n 0, 1) := by decide +kernel
theorem dX5_rule_115 : decode cX5_rule 115 = .ok (.dup, 1) := by decide +kernel
theorem dX5_rule_116 : decode cX5_rule 116 = .ok (.getfield 151, 3) := by decide +kernel
theorem dX5_rule_119 : decode cX5_rule 119 = .ok (.iconst 1, 1) := by decide +kernel
theorem dX5_rule_120 : decode cX5_rule 120 = .ok (.iadd, 1) := by decide +kernel
theorem dX5_rule_121 : decode cX5_rule 121 = .ok (.putfield 151, 3) := by decide +kernel
theorem dX5_rule_124 : decode cX5_rule 124 = .ok (.goto (-108), 3) := by decide +kernel
theorem dX5_rule_127 : decode cX5_rule 127 = .ok (.aload_n 0, 1) := by decide +kernel
theorem dX5_rule_128 : decode cX5_rule 128 = .ok (.iconst 0, 1) := by decide +kernel
theorem dX5_rule_129 : decode cX5_rule 129 = .ok (.putfield 144, 3) := by decide +kernel
theorem dX5_rule_132 : decode cX5_rule 132 = .ok (.aload_n 0, 1) := by decide +kernel
theorem dX5_rule_133 : decode cX5_rule 133 = .ok (.getfield 151, 3) := by decide +kernel
theorem dX5_rule_136 : decode cX5_rule 136 = .ok (.ireturn, 1) := by decide +kernel
theorem dX5_free_0 : decode cX5_free 0 = .ok (.aload_n 0, 1) := by decide +kernel
theorem dX5_free_1 : decode cX5_free 1 = .ok (.getfield 151, 3) := by decide +kernel
theorem dX5_free_4 : decode cX5_free 4 = .ok (.istore_n 1, 1) := by decide +kernel
theorem dX5_free_5 : decode cX5_free 5 = .ok (.aload_n 0, 1) := by decide +kernel
theorem dX5_free_6 : decode cX5_free 6 = .ok (.invokevirtual 154, 3) := by decide +kernel
theorem dX5_free_9 : decode cX5_free 9 = .ok (.iload_n 1, 1) := by decide +kernel
theorem dX5_free_10 : decode cX5_free 10 = .ok (.ireturn, 1) := by decide +kernel
theorem dX5_layGoing_0 : decode cX5_layGoing 0 = .ok (.aload_n 0, 1) := by decide +kernel
theorem dX5_layGoing_1 : decode cX5_layGoing 1 = .ok (.iconst 0, 1) := by decide +kernel
theorem dX5_layGoing_2 : decode cX5_layGoing 2 = .ok (.putfield 157, 3) := by decide +kernel
theorem dX5_layGoing_5 : decode cX5_layGoing 5 = .ok (.iconst 0, 1) := by decide +kernel
theorem dX5_layGoing_6 : decode cX5_layGoing 6 = .ok (.istore_n 2, 1) := by decide +kernel
theorem dX5_layGoing_7 : decode cX5_layGoing 7 = .ok (.iload_n 2, 1) := by decide +kernel
theorem dX5_layGoing_8 : decode cX5_layGoing 8 = .ok (.aload_n 0, 1) := by decide +kernel
theorem dX5_layGoing_9 : decode cX5_layGoing 9 = .ok (.getfield 98, 3) := by decide +kernel
theorem dX5_layGoing_12 : decode cX5_layGoing 12 = .ok (.if_icmp .ge 111, 3) := by decide +kernel
theorem dX5_layGoing_15 : decode cX5_layGoing 15 = .ok (.aload_n 0, 1) := by decide +kernel
theorem dX5_layGoing_16 : decode cX5_layGoing 16 = .ok (.getfield 49, 3) := by decide +kernel
theorem dX5_layGoing_19 : decode cX5_layGoing 19 = .ok (.bipush 10, 2) := by decide +kernel
theorem dX5_layGoing_21 : decode cX5_layGoing 21 = .ok (.iload_n 2, 1) := by decide +kernel
theorem dX5_layGoing_22 : decode cX5_layGoing 22 = .ok (.imul, 1) := by decide +kernel
theorem dX5_layGoing_23 : decode cX5_layGoing 23 = .ok (.iload_n 1, 1) := by decide +kernel
theorem dX5_layGoing_24 : decode cX5_layGoing 24 = .ok (.iadd, 1) := by decide +kernel
theorem dX5_layGoing_25 : decode cX5_layGoing 25 = .ok (.iaload, 1) := by decide +kernel
theorem dX5_layGoing_26 : decode cX5_layGoing 26 = .ok (.ifCond .lt 91, 3) := by decide +kernel
theorem dX5_layGoing_29 : decode cX5_layGoing 29 = .ok (.aload_n 0, 1) := by decide +kernel
theorem dX5_layGoing_30 : decode cX5_layGoing 30 = .ok (.getfield 25, 3) := by decide +kernel
theorem dX5_layGoing_33 : decode cX5_layGoing 33 = .ok (.iload_n 2, 1) := by decide +kernel
theorem dX5_layGoing_34 : decode cX5_layGoing 34 = .ok (.iaload, 1) := by decide +kernel
theorem dX5_layGoing_35 : decode cX5_layGoing 35 = .ok (.iload_n 1, 1) := by decide +kernel
theorem dX5_layGoing_36 : decode cX5_layGoing 36 = .ok (.if_icmp .eq 81, 3) := by decide +kernel
theorem dX5_layGoing_39 : decode cX5_layGoing 39 = .ok (.aload_n 0, 1) := by decide +kernel
theorem dX5_layGoing_40 : decode cX5_layGoing 40 = .ok (.getfield 157, 3) := by decide +kernel
theorem dX5_layGoing_43 : decode cX5_layGoing 43 = .ok (.istore_n 3, 1) := by decide +kernel
theorem dX5_layGoing_44 : decode cX5_layGoing 44 = .ok (.iload_n 3, 1) := by decide +kernel
theorem dX5_layGoing_45 : decode cX5_layGoing 45 = .ok (.ifCond .le 55, 3) := by decide +kernel
theorem dX5_layGoing_48 : decode cX5_layGoing 48 = .ok (.aload_n 0, 1) := by decide +kernel
theorem dX5_layGoing_49 : decode cX5_layGoing 49 = .ok (.getfield 52, 3) := by decide +kernel
theorem dX5_layGoing_52 : decode cX5_layGoing 52 = .ok (.bipush 10, 2) := by decide +kernel
theorem dX5_layGoing_54 : decode cX5_layGoing 54 = .ok (.aload_n 0, 1) := by decide +kernel
theorem dX5_layGoing_55 : decode cX5_layGoing 55 = .ok (.getfield 85, 3) := by decide +kernel
theorem dX5_layGoing_58 : decode cX5_layGoing 58 = .ok (.iload_n 3, 1) := by decide +kernel
theorem dX5_layGoing_59 : decode cX5_layGoing 59 = .ok (.iconst 1, 1) := by decide +kernel
theorem dX5_layGoing_60 : decode cX5_layGoing 60 = .ok (.isub, 1) := by decide +kernel
theorem dX5_layGoing_61 : decode cX5_layGoing 61 = .ok (.iaload, 1) := by decide +kernel
theorem dX5_layGoing_62 : decode cX5_layGoing 62 = .ok (.imul, 1) := by decide +kernel
theorem dX5_layGoing_63 : decode cX5_layGoing 63 = .ok (.iload_n 1, 1) := by decide +kernel
theorem dX5_layGoing_64 : decode cX5_layGoing 64 = .ok (.iadd, 1) := by decide +kernel
theorem dX5_layGoing_65 : decode cX5_layGoing 65 = .ok (.iaload, 1) := by decide +kernel
theorem dX5_layGoing_66 : decode cX5_layGoing 66 = .ok (.aload_n 0, 1) := by decide +kernel
theorem dX5_layGoing_67 : decode cX5_layGoing 67 = .ok (.getfield 52, 3) := by decide +kernel
theorem dX5_layGoing_70 : decode cX5_layGoing 70 = .ok (.bipush 10, 2) := by decide +kernel
theorem dX5_layGoing_72 : decode cX5_layGoing 72 = .ok (.iload_n 2, 1) := by decide +kernel
theorem dX5_layGoing_73 : decode cX5_layGoing 73 = .ok (.imul, 1) := by decide +kernel
theorem dX5_layGoing_74 : decode cX5_layGoing 74 = .ok (.iload_n 1, 1) := by decide +kernel
theorem dX5_layGoing_75 : decode cX5_layGoing 75 = .ok (.iadd, 1) := by decide +kernel
theorem dX5_layGoing_76 : decode cX5_layGoing 76 = .ok (.iaload, 1) := by decide +kernel
theorem dX5_layGoing_77 : decode cX5_layGoing 77 = .ok (.if_icmp .le 23, 3) := by decide +kernel
theorem dX5_layGoing_80 : decode cX5_layGoing 80 = .ok (.aload_n 0, 1) := by decide +kernel
theorem dX5_layGoing_81 : decode cX5_layGoing 81 = .ok (.getfield 85, 3) := by decide +kernel
theorem dX5_layGoing_84 : decode cX5_layGoing 84 = .ok (.iload_n 3, 1) := by decide +kernel
theorem dX5_layGoing_85 : decode cX5_layGoing 85 = .ok (.aload_n 0, 1) := by decide +kernel
theorem dX5_layGoing_86 : decode cX5_layGoing 86 = .ok (.getfield 85, 3) := by decide +kernel
theorem dX5_layGoing_89 : decode cX5_layGoing 89 = .ok (.iload_n 3, 1) := by decide +kernel
theorem dX5_layGoing_90 : decode cX5_layGoing 90 = .ok (.iconst 1, 1) := by decide +kernel
theorem dX5_layGoing_91 : decode cX5_layGoing 91 = .ok (.isub, 1) := by decide +kernel
theorem dX5_layGoing_92 : decode cX5_layGoing 92 = .ok (.iaload, 1) := by decide +kernel
theorem dX5_layGoing_93 : decode cX5_layGoing 93 = .ok (.iastore, 1) := by decide +kernel
theorem dX5_layGoing_94 : decode cX5_layGoing 94 = .ok (.iinc 3 (-1), 3) := by decide +kernel
theorem dX5_layGoing_97 : decode cX5_layGoing 97 = .ok (.goto (-53), 3) := by decide +kernel
theorem dX5_layGoing_100 : decode cX5_layGoing 100 = .ok (.aload_n 0, 1) := by decide +kernel
theorem dX5_layGoing_101 : decode cX5_layGoing 101 = .ok (.getfield 85, 3) := by decide +kernel
theorem dX5_layGoing_104 : decode cX5_layGoing 104 = .ok (.iload_n 3, 1) := by decide +kernel
theorem dX5_layGoing_105 : decode cX5_layGoing 105 = .ok (.iload_n 2, 1) := by decide +kernel
theorem dX5_layGoing_106 : decode cX5_layGoing 106 = .ok (.iastore, 1) := by decide +kernel
theorem dX5_layGoing_107 : decode cX5_layGoing 107 = .ok (.aload_n 0, 1) := by decide +kernel
theorem dX5_layGoing_108 : decode cX5_layGoing 108 = .ok (.dup, 1) := by decide +kernel
theorem dX5_layGoing_109 : decode cX5_layGoing 109 = .ok (.getfield 157, 3) := by decide +kernel
theorem dX5_layGoing_112 : decode cX5_layGoing 112 = .ok (.iconst 1, 1) := by decide +kernel
theorem dX5_layGoing_113 : decode cX5_layGoing 113 = .ok (.iadd, 1) := by decide +kernel
theorem dX5_layGoing_114 : decode cX5_layGoing 114 = .ok (.putfield 157, 3) := by decide +kernel
theorem dX5_layGoing_117 : decode cX5_layGoing 117 = .ok (.iinc 2 1, 3) := by decide +kernel
theorem dX5_layGoing_120 : decode cX5_layGoing 120 = .ok (.goto (-113), 3) := by decide +kernel
theorem dX5_layGoing_123 : decode cX5_layGoing 123 = .ok (.return_, 1) := by decide +kernel
theorem dX5_followOf_0 : decode cX5_followOf 0 = .ok (.aload_n 0, 1) := by decide +kernel
theorem dX5_followOf_1 : decode cX5_followOf 1 = .ok (.getfield 52, 3) := by decide +kernel
theorem dX5_followOf_4 : decode cX5_followOf 4 = .ok (.bipush 10, 2) := by decide +kernel
theorem dX5_followOf_6 : decode cX5_followOf 6 = .ok (.aload_n 0, 1) := by decide +kernel
theorem dX5_followOf_7 : decode cX5_followOf 7 = .ok (.getfield 85, 3) := by decide +kernel
theorem dX5_followOf_10 : decode cX5_followOf 10 = .ok (.iload_n 2, 1) := by decide +kernel
theorem dX5_followOf_11 : decode cX5_followOf 11 = .ok (.iaload, 1) := by decide +kernel
theorem dX5_followOf_12 : decode cX5_followOf 12 = .ok (.imul, 1) := by decide +kernel
theorem dX5_followOf_13 : decode cX5_followOf 13 = .ok (.iload_n 1, 1) := by decide +kernel
theorem dX5_followOf_14 : decode cX5_followOf 14 = .ok (.iadd, 1) := by decide +kernel
theorem dX5_followOf_15 : decode cX5_followOf 15 = .ok (.iaload, 1) := by decide +kernel
theorem dX5_followOf_16 : decode cX5_followOf 16 = .ok (.aload_n 0, 1) := by decide +kernel
theorem dX5_followOf_17 : decode cX5_followOf 17 = .ok (.getfield 52, 3) := by decide +kernel
theorem dX5_followOf_20 : decode cX5_followOf 20 = .ok (.bipush 10, 2) := by decide +kernel
theorem dX5_followOf_22 : decode cX5_followOf 22 = .ok (.aload_n 0, 1) := by decide +kernel
theorem dX5_followOf_23 : decode cX5_followOf 23 = .ok (.getfield 85, 3) := by decide +kernel
theorem dX5_followOf_26 : decode cX5_followOf 26 = .ok (.iload_n 2, 1) := by decide +kernel
theorem dX5_followOf_27 : decode cX5_followOf 27 = .ok (.iconst 1, 1) := by decide +kernel
theorem dX5_followOf_28 : decode cX5_followOf 28 = .ok (.isub, 1) := by decide +kernel
theorem dX5_followOf_29 : decode cX5_followOf 29 = .ok (.iaload, 1) := by decide +kernel
theorem dX5_followOf_30 : decode cX5_followOf 30 = .ok (.imul, 1) := by decide +kernel
theorem dX5_followOf_31 : decode cX5_followOf 31 = .ok (.iload_n 1, 1) := by decide +kernel
theorem dX5_followOf_32 : decode cX5_followOf 32 = .ok (.iadd, 1) := by decide +kernel
theorem dX5_followOf_33 : decode cX5_followOf 33 = .ok (.iaload, 1) := by decide +kernel
theorem dX5_followOf_34 : decode cX5_followOf 34 = .ok (.isub, 1) := by decide +kernel
theorem dX5_followOf_35 : decode cX5_followOf 35 = .ok (.ireturn, 1) := by decide +kernel
theorem dX5_follow_0 : decode cX5_follow 0 = .ok (.iload_n 1, 1) := by decide +kernel
theorem dX5_follow_1 : decode cX5_follow 1 = .ok (.invokestatic 102, 3) := by decide +kernel
theorem dX5_follow_4 : decode cX5_follow 4 = .ok (.ifCond .ne 5, 3) := by decide +kernel
theorem dX5_follow_7 : decode cX5_follow 7 = .ok (.iconst (-1), 1) := by decide +kernel
theorem dX5_follow_8 : decode cX5_follow 8 = .ok (.ireturn, 1) := by decide +kernel
theorem dX5_follow_9 : decode cX5_follow 9 = .ok (.aload_n 0, 1) := by decide +kernel
theorem dX5_follow_10 : decode cX5_follow 10 = .ok (.bipush (-6), 2) := by decide +kernel
theorem dX5_follow_12 : decode cX5_follow 12 = .ok (.invokevirtual 140, 3) := by decide +kernel
theorem dX5_follow_15 : decode cX5_follow 15 = .ok (.aload_n 0, 1) := by decide +kernel
theorem dX5_follow_16 : decode cX5_follow 16 = .ok (.iload_n 1, 1) := by decide +kernel
theorem dX5_follow_17 : decode cX5_follow 17 = .ok (.invokevirtual 160, 3) := by decide +kernel
theorem dX5_follow_20 : decode cX5_follow 20 = .ok (.aload_n 0, 1) := by decide +kernel
theorem dX5_follow_21 : decode cX5_follow 21 = .ok (.getfield 157, 3) := by decide +kernel
theorem dX5_follow_24 : decode cX5_follow 24 = .ok (.ifCond .ne 7, 3) := by decide +kernel
theorem dX5_follow_27 : decode cX5_follow 27 = .ok (.iconst 0, 1) := by decide +kernel
theorem dX5_follow_28 : decode cX5_follow 28 = .ok (.goto 9, 3) := by decide +kernel
theorem dX5_follow_31 : decode cX5_follow 31 = .ok (.aload_n 0, 1) := by decide +kernel
theorem dX5_follow_32 : decode cX5_follow 32 = .ok (.getfield 157, 3) := by decide +kernel
theorem dX5_follow_35 : decode cX5_follow 35 = .ok (.iconst 1, 1) := by decide +kernel
theorem dX5_follow_36 : decode cX5_follow 36 = .ok (.isub, 1) := by decide +kernel
theorem dX5_follow_37 : decode cX5_follow 37 = .ok (.istore_n 3, 1) := by decide +kernel
theorem dX5_follow_38 : decode cX5_follow 38 = .ok (.iload_n 2, 1) := by decide +kernel
theorem dX5_follow_39 : decode cX5_follow 39 = .ok (.ifCond .ne 7, 3) := by decide +kernel
theorem dX5_follow_42 : decode cX5_follow 42 = .ok (.iload_n 3, 1) := by decide +kernel
theorem dX5_follow_43 : decode cX5_follow 43 = .ok (.goto 23, 3) := by decide +kernel
theorem dX5_follow_46 : decode cX5_follow 46 = .ok (.iload_n 2, 1) := by decide +kernel
theorem dX5_follow_47 : decode cX5_follow 47 = .ok (.iconst 1, 1) := by decide +kernel
theorem dX5_follow_48 : decode cX5_follow 48 = .ok (.iload_n 3, 1) := by decide +kernel
theorem dX5_follow_49 : decode cX5_follow 49 = .ok (.invokestatic 94, 3) := by decide +kernel
theorem dX5_follow_52 : decode cX5_follow 52 = .ok (.ifCond .eq 12, 3) := by decide +kernel
theorem dX5_follow_55 : decode cX5_follow 55 = .ok (.aload_n 0, 1) := by decide +kernel
theorem dX5_follow_56 : decode cX5_follow 56 = .ok (.iload_n 1, 1) := by decide +kernel
theorem dX5_follow_57 : decode cX5_follow 57 = .ok (.iload_n 2, 1) := by decide +kernel
theorem dX5_follow_58 : decode cX5_follow 58 = .ok (.invokevirtual 163, 3) := by decide +kernel
theorem dX5_follow_61 : decode cX5_follow 61 = .ok (.goto 5, 3) := by decide +kernel
theorem dX5_follow_64 : decode cX5_follow 64 = .ok (.bipush (-6), 2) := by decide +kernel
theorem dX5_follow_66 : decode cX5_follow 66 = .ok (.ireturn, 1) := by decide +kernel
theorem dX5_oneOf_0 : decode cX5_oneOf 0 = .ok (.iconst 0, 1) := by decide +kernel
theorem dX5_oneOf_1 : decode cX5_oneOf 1 = .ok (.istore_n 1, 1) := by decide +kernel
theorem dX5_oneOf_2 : decode cX5_oneOf 2 = .ok (.iload_n 1, 1) := by decide +kernel
theorem dX5_oneOf_3 : decode cX5_oneOf 3 = .ok (.bipush 9, 2) := by decide +kernel
theorem dX5_oneOf_5 : decode cX5_oneOf 5 = .ok (.if_icmp .ge 57, 3) := by decide +kernel
theorem dX5_oneOf_8 : decode cX5_oneOf 8 = .ok (.aload_n 0, 1) := by decide +kernel
theorem dX5_oneOf_9 : decode cX5_oneOf 9 = .ok (.iload_n 1, 1) := by decide +kernel
theorem dX5_oneOf_10 : decode cX5_oneOf 10 = .ok (.invokevirtual 160, 3) := by decide +kernel
theorem dX5_oneOf_13 : decode cX5_oneOf 13 = .ok (.iconst 1, 1) := by decide +kernel
theorem dX5_oneOf_14 : decode cX5_oneOf 14 = .ok (.istore_n 2, 1) := by decide +kernel
theorem dX5_oneOf_15 : decode cX5_oneOf 15 = .ok (.iload_n 2, 1) := by decide +kernel
theorem dX5_oneOf_16 : decode cX5_oneOf 16 = .ok (.aload_n 0, 1) := by decide +kernel
theorem dX5_oneOf_17 : decode cX5_oneOf 17 = .ok (.getfield 157, 3) := by decide +kernel
theorem dX5_oneOf_20 : decode cX5_oneOf 20 = .ok (.if_icmp .ge 36, 3) := by decide +kernel
theorem dX5_oneOf_23 : decode cX5_oneOf 23 = .ok (.aload_n 0, 1) := by decide +kernel
theorem dX5_oneOf_24 : decode cX5_oneOf 24 = .ok (.iload_n 1, 1) := by decide +kernel
theorem dX5_oneOf_25 : decode cX5_oneOf 25 = .ok (.iload_n 2, 1) := by decide +kernel
theorem dX5_oneOf_26 : decode cX5_oneOf 26 = .ok (.invokevirtual 163, 3) := by decide +kernel
theorem dX5_oneOf_29 : decode cX5_oneOf 29 = .ok (.aload_n 0, 1) := by decide +kernel
theorem dX5_oneOf_30 : decode cX5_oneOf 30 = .ok (.getfield 28, 3) := by decide +kernel
theorem dX5_oneOf_33 : decode cX5_oneOf 33 = .ok (.iconst 4, 1) := by decide +kernel
theorem dX5_oneOf_34 : decode cX5_oneOf 34 = .ok (.iaload, 1) := by decide +kernel
theorem dX5_oneOf_35 : decode cX5_oneOf 35 = .ok (.if_icmp .gt 15, 3) := by decide +kernel
theorem dX5_oneOf_38 : decode cX5_oneOf 38 = .ok (.aload_n 0, 1) := by decide +kernel
theorem dX5_oneOf_39 : decode cX5_oneOf 39 = .ok (.aload_n 0, 1) := by decide +kernel
theorem dX5_oneOf_40 : decode cX5_oneOf 40 = .ok (.getfield 85, 3) := by decide +kernel
theorem dX5_oneOf_43 : decode cX5_oneOf 43 = .ok (.iload_n 2, 1) := by decide +kernel
theorem dX5_oneOf_44 : decode cX5_oneOf 44 = .ok (.iaload, 1) := by decide +kernel
theorem dX5_oneOf_45 : decode cX5_oneOf 45 = .ok (.putfield 167, 3) := by decide +kernel
theorem dX5_oneOf_48 : decode cX5_oneOf 48 = .ok (.iload_n 1, 1) := by decide +kernel
theorem dX5_oneOf_49 : decode cX5_oneOf 49 = .ok (.ireturn, 1) := by decide +kernel
theorem dX5_oneOf_50 : decode cX5_oneOf 50 = .ok (.iinc 2 1, 3) := by decide +kernel
theorem dX5_oneOf_53 : decode cX5_oneOf 53 = .ok (.goto (-38), 3) := by decide +kernel
theorem dX5_oneOf_56 : decode cX5_oneOf 56 = .ok (.iinc 1 1, 3) := by decide +kernel
theorem dX5_oneOf_59 : decode cX5_oneOf 59 = .ok (.goto (-57), 3) := by decide +kernel
theorem dX5_oneOf_62 : decode cX5_oneOf 62 = .ok (.aload_n 0, 1) := by decide +kernel
theorem dX5_oneOf_63 : decode cX5_oneOf 63 = .ok (.bipush (-6), 2) := by decide +kernel
theorem dX5_oneOf_65 : decode cX5_oneOf 65 = .ok (.putfield 167, 3) := by decide +kernel
theorem dX5_oneOf_68 : decode cX5_oneOf 68 = .ok (.bipush (-6), 2) := by decide +kernel
theorem dX5_oneOf_70 : decode cX5_oneOf 70 = .ok (.ireturn, 1) := by decide +kernel
theorem dX5_one_0 : decode cX5_one 0 = .ok (.iload_n 1, 1) := by decide +kernel
theorem dX5_one_1 : decode cX5_one 1 = .ok (.iconst 0, 1) := by decide +kernel
theorem dX5_one_2 : decode cX5_one 2 = .ok (.iconst 1, 1) := by decide +kernel
theorem dX5_one_3 : decode cX5_one 3 = .ok (.invokestatic 94, 3) := by decide +kernel
theorem dX5_one_6 : decode cX5_one 6 = .ok (.ifCond .ne 6, 3) := by decide +kernel
theorem dX5_one_9 : decode cX5_one 9 = .ok (.bipush (-2), 2) := by decide +kernel
theorem dX5_one_11 : decode cX5_one 11 = .ok (.ireturn, 1) := by decide +kernel
theorem dX5_one_12 : decode cX5_one 12 = .ok (.aload_n 0, 1) := by decide +kernel
theorem dX5_one_13 : decode cX5_one 13 = .ok (.bipush (-6), 2) := by decide +kernel
theorem dX5_one_15 : decode cX5_one 15 = .ok (.invokevirtual 140, 3) := by decide +kernel
theorem dX5_one_18 : decode cX5_one 18 = .ok (.aload_n 0, 1) := by decide +kernel
theorem dX5_one_19 : decode cX5_one 19 = .ok (.invokevirtual 170, 3) := by decide +kernel
theorem dX5_one_22 : decode cX5_one 22 = .ok (.istore_n 2, 1) := by decide +kernel
theorem dX5_one_23 : decode cX5_one 23 = .ok (.iload_n 1, 1) := by decide +kernel
theorem dX5_one_24 : decode cX5_one 24 = .ok (.ifCond .ne 7, 3) := by decide +kernel
theorem dX5_one_27 : decode cX5_one 27 = .ok (.iload_n 2, 1) := by decide +kernel
theorem dX5_one_28 : decode cX5_one 28 = .ok (.goto 7, 3) := by decide +kernel
theorem dX5_one_31 : decode cX5_one 31 = .ok (.aload_n 0, 1) := by decide +kernel
theorem dX5_one_32 : decode cX5_one 32 = .ok (.getfield 167, 3) := by decide +kernel
theorem dX5_one_35 : decode cX5_one 35 = .ok (.ireturn, 1) := by decide +kernel
theorem dX5_began_0 : decode cX5_began 0 = .ok (.aload_n 0, 1) := by decide +kernel
theorem dX5_began_1 : decode cX5_began 1 = .ok (.bipush (-6), 2) := by decide +kernel
theorem dX5_began_3 : decode cX5_began 3 = .ok (.invokevirtual 140, 3) := by decide +kernel
theorem dX5_began_6 : decode cX5_began 6 = .ok (.aload_n 0, 1) := by decide +kernel
theorem dX5_began_7 : decode cX5_began 7 = .ok (.invokevirtual 170, 3) := by decide +kernel
theorem dX5_began_10 : decode cX5_began 10 = .ok (.ifCond .ge 5, 3) := by decide +kernel
theorem dX5_began_13 : decode cX5_began 13 = .ok (.iconst 0, 1) := by decide +kernel
theorem dX5_began_14 : decode cX5_began 14 = .ok (.ireturn, 1) := by decide +kernel
theorem dX5_began_15 : decode cX5_began 15 = .ok (.iconst 0, 1) := by decide +kernel
theorem dX5_began_16 : decode cX5_began 16 = .ok (.istore_n 1, 1) := by decide +kernel
theorem dX5_began_17 : decode cX5_began 17 = .ok (.iconst 0, 1) := by decide +kernel
theorem dX5_began_18 : decode cX5_began 18 = .ok (.istore_n 2, 1) := by decide +kernel
theorem dX5_began_19 : decode cX5_began 19 = .ok (.iload_n 2, 1) := by decide +kernel
theorem dX5_began_20 : decode cX5_began 20 = .ok (.aload_n 0, 1) := by decide +kernel
theorem dX5_began_21 : decode cX5_began 21 = .ok (.getfield 109, 3) := by decide +kernel
theorem dX5_began_24 : decode cX5_began 24 = .ok (.if_icmp .ge 31, 3) := by decide +kernel
theorem dX5_began_27 : decode cX5_began 27 = .ok (.aload_n 0, 1) := by decide +kernel
theorem dX5_began_28 : decode cX5_began 28 = .ok (.iload_n 2, 1) := by decide +kernel
theorem dX5_began_29 : decode cX5_began 29 = .ok (.invokevirtual 140, 3) := by decide +kernel
theorem dX5_began_32 : decode cX5_began 32 = .ok (.iload_n 1, 1) := by decide +kernel
theorem dX5_began_33 : decode cX5_began 33 = .ok (.aload_n 0, 1) := by decide +kernel
theorem dX5_began_34 : decode cX5_began 34 = .ok (.invokevirtual 170, 3) := by decide +kernel
theorem dX5_began_37 : decode cX5_began 37 = .ok (.ifCond .ge 9, 3) := by decide +kernel
theorem dX5_began_40 : decode cX5_began 40 = .ok (.iconst 1, 1) := by decide +kernel
theorem dX5_began_41 : decode cX5_began 41 = .ok (.iload_n 2, 1) := by decide +kernel
theorem dX5_began_42 : decode cX5_began 42 = .ok (.ishl, 1) := by decide +kernel
theorem dX5_began_43 : decode cX5_began 43 = .ok (.goto 4, 3) := by decide +kernel
theorem dX5_began_46 : decode cX5_began 46 = .ok (.iconst 0, 1) := by decide +kernel
theorem dX5_began_47 : decode cX5_began 47 = .ok (.ior, 1) := by decide +kernel
theorem dX5_began_48 : decode cX5_began 48 = .ok (.istore_n 1, 1) := by decide +kernel
theorem dX5_began_49 : decode cX5_began 49 = .ok (.iinc 2 1, 3) := by decide +kernel
theorem dX5_began_52 : decode cX5_began 52 = .ok (.goto (-33), 3) := by decide +kernel
theorem dX5_began_55 : decode cX5_began 55 = .ok (.iload_n 1, 1) := by decide +kernel
theorem dX5_began_56 : decode cX5_began 56 = .ok (.ireturn, 1) := by decide +kernel
theorem dX5_spread_0 : decode cX5_spread 0 = .ok (.iload_n 1, 1) := by decide +kernel
theorem dX5_spread_1 : decode cX5_spread 1 = .ok (.invokestatic 102, 3) := by decide +kernel
theorem dX5_spread_4 : decode cX5_spread 4 = .ok (.ifCond .ne 5, 3) := by decide +kernel
theorem dX5_spread_7 : decode cX5_spread 7 = .ok (.iconst (-1), 1) := by decide +kernel
theorem dX5_spread_8 : decode cX5_spread 8 = .ok (.ireturn, 1) := by decide +kernel
theorem dX5_spread_9 : decode cX5_spread 9 = .ok (.aload_n 0, 1) := by decide +kernel
theorem dX5_spread_10 : decode cX5_spread 10 = .ok (.bipush (-6), 2) := by decide +kernel
theorem dX5_spread_12 : decode cX5_spread 12 = .ok (.invokevirtual 140, 3) := by decide +kernel
theorem dX5_spread_15 : decode cX5_spread 15 = .ok (.aload_n 0, 1) := by decide +kernel
theorem dX5_spread_16 : decode cX5_spread 16 = .ok (.iload_n 1, 1) := by decide +kernel
theorem dX5_spread_17 : decode cX5_spread 17 = .ok (.invokevirtual 160, 3) := by decide +kernel
theorem dX5_spread_20 : decode cX5_spread 20 = .ok (.aload_n 0, 1) := by decide +kernel
theorem dX5_spread_21 : decode cX5_spread 21 = .ok (.getfield 157, 3) := by decide +kernel
theorem dX5_spread_24 : decode cX5_spread 24 = .ok (.iconst 2, 1) := by decide +kernel
theorem dX5_spread_25 : decode cX5_spread 25 = .ok (.if_icmp .ge 6, 3) := by decide +kernel
theorem dX5_spread_28 : decode cX5_spread 28 = .ok (.bipush (-6), 2) := by decide +kernel
theorem dX5_spread_30 : decode cX5_spread 30 = .ok (.ireturn, 1) := by decide +kernel
theorem dX5_spread_31 : decode cX5_spread 31 = .ok (.aload_n 0, 1) := by decide +kernel
theorem dX5_spread_32 : decode cX5_spread 32 = .ok (.iload_n 1, 1) := by decide +kernel
theorem dX5_spread_33 : decode cX5_spread 33 = .ok (.iconst 1, 1) := by decide +kernel
theorem dX5_spread_34 : decode cX5_spread 34 = .ok (.invokevirtual 163, 3) := by decide +kernel
theorem dX5_spread_37 : decode cX5_spread 37 = .ok (.istore_n 2, 1) := by decide +kernel
theorem dX5_spread_38 : decode cX5_spread 38 = .ok (.iload_n 2, 1) := by decide +kernel
theorem dX5_spread_39 : decode cX5_spread 39 = .ok (.istore_n 3, 1) := by decide +kernel
theorem dX5_spread_40 : decode cX5_spread 40 = .ok (.iconst 2, 1) := by decide +kernel
theorem dX5_spread_41 : decode cX5_spread 41 = .ok (.istore 4, 2) := by decide +kernel
theorem dX5_spread_43 : decode cX5_spread 43 = .ok (.iload 4, 2) := by decide +kernel
theorem dX5_spread_45 : decode cX5_spread 45 = .ok (.aload_n 0, 1) := by decide +kernel
theorem dX5_spread_46 : decode cX5_spread 46 = .ok (.getfield 157, 3) := by decide +kernel
theorem dX5_spread_49 : decode cX5_spread 49 = .ok (.if_icmp .ge 44, 3) := by decide +kernel
theorem dX5_spread_52 : decode cX5_spread 52 = .ok (.aload_n 0, 1) := by decide +kernel
theorem dX5_spread_53 : decode cX5_spread 53 = .ok (.iload_n 1, 1) := by decide +kernel
theorem dX5_spread_54 : decode cX5_spread 54 = .ok (.iload 4, 2) := by decide +kernel
theorem dX5_spread_56 : decode cX5_spread 56 = .ok (.invokevirtual 163, 3) := by decide +kernel
theorem dX5_spread_59 : decode cX5_spread 59 = .ok (.istore 5, 2) := by decide +kernel
theorem dX5_spread_61 : decode cX5_spread 61 = .ok (.iload 5, 2) := by decide +kernel
theorem dX5_spread_63 : decode cX5_spread 63 = .ok (.iload_n 2, 1) := by decide +kernel
theorem dX5_spread_64 : decode cX5_spread 64 = .ok (.if_icmp .ge 8, 3) := by decide +kernel
theorem dX5_spread_67 : decode cX5_spread 67 = .ok (.iload 5, 2) := by decide +kernel
theorem dX5_spread_69 : decode cX5_spread 69 = .ok (.goto 4, 3) := by decide +kernel
theorem dX5_spread_72 : decode cX5_spread 72 = .ok (.iload_n 2, 1) := by decide +kernel
theorem dX5_spread_73 : decode cX5_spread 73 = .ok (.istore_n 2, 1) := by decide +kernel
theorem dX5_spread_74 : decode cX5_spread 74 = .ok (.iload 5, 2) := by decide +kernel
theorem dX5_spread_76 : decode cX5_spread 76 = .ok (.iload_n 3, 1) := by decide +kernel
theorem dX5_spread_77 : decode cX5_spread 77 = .ok (.if_icmp .le 8, 3) := by decide +kernel
theorem dX5_spread_80 : decode cX5_spread 80 = .ok (.iload 5, 2) := by decide +kernel
theorem dX5_spread_82 : decode cX5_spread 82 = .ok (.goto 4, 3) := by decide +kernel
theorem dX5_spread_85 : decode cX5_spread 85 = .ok (.iload_n 3, 1) := by decide +kernel
theorem dX5_spread_86 : decode cX5_spread 86 = .ok (.istore_n 3, 1) := by decide +kernel
theorem dX5_spread_87 : decode cX5_spread 87 = .ok (.iinc 4 1, 3) := by decide +kernel
theorem dX5_spread_90 : decode cX5_spread 90 = .ok (.goto (-47), 3) := by decide +kernel
theorem dX5_spread_93 : decode cX5_spread 93 = .ok (.iload_n 3, 1) := by decide +kernel
theorem dX5_spread_94 : decode cX5_spread 94 = .ok (.iload_n 2, 1) := by decide +kernel
theorem dX5_spread_95 : decode cX5_spread 95 = .ok (.isub, 1) := by decide +kernel
theorem dX5_spread_96 : decode cX5_spread 96 = .ok (.ireturn, 1) := by decide +kernel
theorem dX5_waited_0 : decode cX5_waited 0 = .ok (.iload_n 1, 1) := by decide +kernel
theorem dX5_waited_1 : decode cX5_waited 1 = .ok (.invokestatic 102, 3) := by decide +kernel
theorem dX5_waited_4 : decode cX5_waited 4 = .ok (.ifCond .ne 5, 3) := by decide +kernel
theorem dX5_waited_7 : decode cX5_waited 7 = .ok (.iconst (-1), 1) := by decide +kernel
theorem dX5_waited_8 : decode cX5_waited 8 = .ok (.ireturn, 1) := by decide +kernel
theorem dX5_waited_9 : decode cX5_waited 9 = .ok (.iload_n 2, 1) := by decide +kernel
theorem dX5_waited_10 : decode cX5_waited 10 = .ok (.iconst 0, 1) := by decide +kernel
theorem dX5_waited_11 : decode cX5_waited 11 = .ok (.iconst 2, 1) := by decide +kernel
theorem dX5_waited_12 : decode cX5_waited 12 = .ok (.invokestatic 94, 3) := by decide +kernel
theorem dX5_waited_15 : decode cX5_waited 15 = .ok (.ifCond .ne 6, 3) := by decide +kernel
theorem dX5_waited_18 : decode cX5_waited 18 = .ok (.bipush (-2), 2) := by decide +kernel
theorem dX5_waited_20 : decode cX5_waited 20 = .ok (.ireturn, 1) := by decide +kernel
theorem dX5_waited_21 : decode cX5_waited 21 = .ok (.aload_n 0, 1) := by decide +kernel
theorem dX5_waited_22 : decode cX5_waited 22 = .ok (.bipush (-6), 2) := by decide +kernel
theorem dX5_waited_24 : decode cX5_waited 24 = .ok (.invokevirtual 140, 3) := by decide +kernel
theorem dX5_waited_27 : decode cX5_waited 27 = .ok (.iload_n 2, 1) := by decide +kernel
theorem dX5_waited_28 : decode cX5_waited 28 = .ok (.ifCond .ne 12, 3) := by decide +kernel
theorem dX5_waited_31 : decode cX5_waited 31 = .ok (.aload_n 0, 1) := by decide +kernel
theorem dX5_waited_32 : decode cX5_waited 32 = .ok (.getfield 73, 3) := by decide +kernel
theorem dX5_waited_35 : decode cX5_waited 35 = .ok (.iload_n 1, 1) := by decide +kernel
theorem dX5_waited_36 : decode cX5_waited 36 = .ok (.iaload, 1) := by decide +kernel
theorem dX5_waited_37 : decode cX5_waited 37 = .ok (.goto 23, 3) := by decide +kernel
theorem dX5_waited_40 : decode cX5_waited 40 = .ok (.iload_n 2, 1) := by decide +kernel
theorem dX5_waited_41 : decode cX5_waited 41 = .ok (.iconst 1, 1) := by decide +kernel
theorem dX5_waited_42 : decode cX5_waited 42 = .ok (.if_icmp .ne 12, 3) := by decide +kernel
theorem dX5_waited_45 : decode cX5_waited 45 = .ok (.aload_n 0, 1) := by decide +kernel
theorem dX5_waited_46 : decode cX5_waited 46 = .ok (.getfield 76, 3) := by decide +kernel
theorem dX5_waited_49 : decode cX5_waited 49 = .ok (.iload_n 1, 1) := by decide +kernel
theorem dX5_waited_50 : decode cX5_waited 50 = .ok (.iaload, 1) := by decide +kernel
theorem dX5_waited_51 : decode cX5_waited 51 = .ok (.goto 9, 3) := by decide +kernel
theorem dX5_waited_54 : decode cX5_waited 54 = .ok (.aload_n 0, 1) := by decide +kernel
theorem dX5_waited_55 : decode cX5_waited 55 = .ok (.getfield 79, 3) := by decide +kernel
theorem dX5_waited_58 : decode cX5_waited 58 = .ok (.iload_n 1, 1) := by decide +kernel
theorem dX5_waited_59 : decode cX5_waited 59 = .ok (.iaload, 1) := by decide +kernel
theorem dX5_waited_60 : decode cX5_waited 60 = .ok (.ireturn, 1) := by decide +kernel
theorem dX5_term_0 : decode cX5_term 0 = .ok (.lload_n 2, 1) := by decide +kernel
theorem dX5_term_1 : decode cX5_term 1 = .ok (.lconst 0, 1) := by decide +kernel
theorem dX5_term_2 : decode cX5_term 2 = .ok (.lcmp, 1) := by decide +kernel
theorem dX5_term_3 : decode cX5_term 3 = .ok (.ifCond .ne 7, 3) := by decide +kernel
theorem dX5_term_6 : decode cX5_term 6 = .ok (.iload 4, 2) := by decide +kernel
theorem dX5_term_8 : decode cX5_term 8 = .ok (.i2l, 1) := by decide +kernel
theorem dX5_term_9 : decode cX5_term 9 = .ok (.lreturn, 1) := by decide +kernel
theorem dX5_term_10 : decode cX5_term 10 = .ok (.lload_n 0, 1) := by decide +kernel
theorem dX5_term_11 : decode cX5_term 11 = .ok (.lstore 5, 2) := by decide +kernel
theorem dX5_term_13 : decode cX5_term 13 = .ok (.lload_n 2, 1) := by decide +kernel
theorem dX5_term_14 : decode cX5_term 14 = .ok (.lstore 7, 2) := by decide +kernel
theorem dX5_term_16 : decode cX5_term 16 = .ok (.lload 7, 2) := by decide +kernel
theorem dX5_term_18 : decode cX5_term 18 = .ok (.lconst 0, 1) := by decide +kernel
theorem dX5_term_19 : decode cX5_term 19 = .ok (.lcmp, 1) := by decide +kernel
theorem dX5_term_20 : decode cX5_term 20 = .ok (.ifCond .eq 21, 3) := by decide +kernel
theorem dX5_term_23 : decode cX5_term 23 = .ok (.lload 5, 2) := by decide +kernel
theorem dX5_term_25 : decode cX5_term 25 = .ok (.lload 7, 2) := by decide +kernel
theorem dX5_term_27 : decode cX5_term 27 = .ok (.lrem, 1) := by decide +kernel
theorem dX5_term_28 : decode cX5_term 28 = .ok (.lstore 9, 2) := by decide +kernel
theorem dX5_term_30 : decode cX5_term 30 = .ok (.lload 7, 2) := by decide +kernel
theorem dX5_term_32 : decode cX5_term 32 = .ok (.lstore 5, 2) := by decide +kernel
theorem dX5_term_34 : decode cX5_term 34 = .ok (.lload 9, 2) := by decide +kernel
theorem dX5_term_36 : decode cX5_term 36 = .ok (.lstore 7, 2) := by decide +kernel
theorem dX5_term_38 : decode cX5_term 38 = .ok (.goto (-22), 3) := by decide +kernel
theorem dX5_term_41 : decode cX5_term 41 = .ok (.iload 4, 2) := by decide +kernel
theorem dX5_term_43 : decode cX5_term 43 = .ok (.ifCond .ne 10, 3) := by decide +kernel
theorem dX5_term_46 : decode cX5_term 46 = .ok (.lload_n 0, 1) := by decide +kernel
theorem dX5_term_47 : decode cX5_term 47 = .ok (.lload 5, 2) := by decide +kernel
theorem dX5_term_49 : decode cX5_term 49 = .ok (.ldiv, 1) := by decide +kernel
theorem dX5_term_50 : decode cX5_term 50 = .ok (.goto 7, 3) := by decide +kernel
theorem dX5_term_53 : decode cX5_term 53 = .ok (.lload_n 2, 1) := by decide +kernel
theorem dX5_term_54 : decode cX5_term 54 = .ok (.lload 5, 2) := by decide +kernel
theorem dX5_term_56 : decode cX5_term 56 = .ok (.ldiv, 1) := by decide +kernel
theorem dX5_term_57 : decode cX5_term 57 = .ok (.lreturn, 1) := by decide +kernel
theorem dX5_mean_0 : decode cX5_mean 0 = .ok (.iload_n 1, 1) := by decide +kernel
theorem dX5_mean_1 : decode cX5_mean 1 = .ok (.invokestatic 102, 3) := by decide +kernel
theorem dX5_mean_4 : decode cX5_mean 4 = .ok (.ifCond .ne 7, 3) := by decide +kernel
theorem dX5_mean_7 : decode cX5_mean 7 = .ok (.ldc2_w 173, 3) := by decide +kernel
theorem dX5_mean_10 : decode cX5_mean 10 = .ok (.lreturn, 1) := by decide +kernel
theorem dX5_mean_11 : decode cX5_mean 11 = .ok (.iload_n 2, 1) := by decide +kernel
theorem dX5_mean_12 : decode cX5_mean 12 = .ok (.iconst 0, 1) := by decide +kernel
theorem dX5_mean_13 : decode cX5_mean 13 = .ok (.iconst 1, 1) := by decide +kernel
theorem dX5_mean_14 : decode cX5_mean 14 = .ok (.invokestatic 94, 3) := by decide +kernel
theorem dX5_mean_17 : decode cX5_mean 17 = .ok (.ifCond .eq 12, 3) := by decide +kernel
theorem dX5_mean_20 : decode cX5_mean 20 = .ok (.iload_n 3, 1) := by decide +kernel
theorem dX5_mean_21 : decode cX5_mean 21 = .ok (.iconst 0, 1) := by decide +kernel
theorem dX5_mean_22 : decode cX5_mean 22 = .ok (.iconst 1, 1) := by decide +kernel
theorem dX5_mean_23 : decode cX5_mean 23 = .ok (.invokestatic 94, 3) := by decide +kernel
theorem dX5_mean_26 : decode cX5_mean 26 = .ok (.ifCond .ne 7, 3) := by decide +kernel
theorem dX5_mean_29 : decode cX5_mean 29 = .ok (.ldc2_w 175, 3) := by decide +kernel
theorem dX5_mean_32 : decode cX5_mean 32 = .ok (.lreturn, 1) := by decide +kernel
theorem dX5_mean_33 : decode cX5_mean 33 = .ok (.aload_n 0, 1) := by decide +kernel
theorem dX5_mean_34 : decode cX5_mean 34 = .ok (.bipush (-6), 2) := by decide +kernel
theorem dX5_mean_36 : decode cX5_mean 36 = .ok (.invokevirtual 140, 3) := by decide +kernel
theorem dX5_mean_39 : decode cX5_mean 39 = .ok (.iload_n 2, 1) := by decide +kernel
theorem dX5_mean_40 : decode cX5_mean 40 = .ok (.ifCond .ne 22, 3) := by decide +kernel
theorem dX5_mean_43 : decode cX5_mean 43 = .ok (.aload_n 0, 1) := by decide +kernel
theorem dX5_mean_44 : decode cX5_mean 44 = .ok (.getfield 76, 3) := by decide +kernel
theorem dX5_mean_47 : decode cX5_mean 47 = .ok (.iload_n 1, 1) := by decide +kernel
theorem dX5_mean_48 : decode cX5_mean 48 = .ok (.iaload, 1) := by decide +kernel
theorem dX5_mean_49 : decode cX5_mean 49 = .ok (.i2l, 1) := by decide +kernel
theorem dX5_mean_50 : decode cX5_mean 50 = .ok (.aload_n 0, 1) := by decide +kernel
theorem dX5_mean_51 : decode cX5_mean 51 = .ok (.getfield 73, 3) := by decide +kernel
theorem dX5_mean_54 : decode cX5_mean 54 = .ok (.iload_n 1, 1) := by decide +kernel
theorem dX5_mean_55 : decode cX5_mean 55 = .ok (.iaload, 1) := by decide +kernel
theorem dX5_mean_56 : decode cX5_mean 56 = .ok (.i2l, 1) := by decide +kernel
theorem dX5_mean_57 : decode cX5_mean 57 = .ok (.iload_n 3, 1) := by decide +kernel
theorem dX5_mean_58 : decode cX5_mean 58 = .ok (.invokestatic 177, 3) := by decide +kernel
theorem dX5_mean_61 : decode cX5_mean 61 = .ok (.lreturn, 1) := by decide +kernel
theorem dX5_mean_62 : decode cX5_mean 62 = .ok (.aload_n 0, 1) := by decide +kernel
theorem dX5_mean_63 : decode cX5_mean 63 = .ok (.iload_n 1, 1) := by decide +kernel
theorem dX5_mean_64 : decode cX5_mean 64 = .ok (.invokevirtual 160, 3) := by decide +kernel
theorem dX5_mean_67 : decode cX5_mean 67 = .ok (.aload_n 0, 1) := by decide +kernel
theorem dX5_mean_68 : decode cX5_mean 68 = .ok (.getfield 157, 3) := by decide +kernel
theorem dX5_mean_71 : decode cX5_mean 71 = .ok (.iconst 2, 1) := by decide +kernel
theorem dX5_mean_72 : decode cX5_mean 72 = .ok (.if_icmp .ge 6, 3) := by decide +kernel
theorem dX5_mean_75 : decode cX5_mean 75 = .ok (.iload_n 3, 1) := by decide +kernel
theorem dX5_mean_76 : decode cX5_mean 76 = .ok (.i2l, 1) := by decide +kernel
theorem dX5_mean_77 : decode cX5_mean 77 = .ok (.lreturn, 1) := by decide +kernel
theorem dX5_mean_78 : decode cX5_mean 78 = .ok (.aload_n 0, 1) := by decide +kernel
theorem dX5_mean_79 : decode cX5_mean 79 = .ok (.getfield 52, 3) := by decide +kernel
theorem dX5_mean_82 : decode cX5_mean 82 = .ok (.bipush 10, 2) := by decide +kernel
theorem dX5_mean_84 : decode cX5_mean 84 = .ok (.aload_n 0, 1) := by decide +kernel
theorem dX5_mean_85 : decode cX5_mean 85 = .ok (.getfield 85, 3) := by decide +kernel
theorem dX5_mean_88 : decode cX5_mean 88 = .ok (.aload_n 0, 1) := by decide +kernel
theorem dX5_mean_89 : decode cX5_mean 89 = .ok (.getfield 157, 3) := by decide +kernel
theorem dX5_mean_92 : decode cX5_mean 92 = .ok (.iconst 1, 1) := by decide +kernel
theorem dX5_mean_93 : decode cX5_mean 93 = .ok (.isub, 1) := by decide +kernel
theorem dX5_mean_94 : decode cX5_mean 94 = .ok (.iaload, 1) := by decide +kernel
theorem dX5_mean_95 : decode cX5_mean 95 = .ok (.imul, 1) := by decide +kernel
theorem dX5_mean_96 : decode cX5_mean 96 = .ok (.iload_n 1, 1) := by decide +kernel
theorem dX5_mean_97 : decode cX5_mean 97 = .ok (.iadd, 1) := by decide +kernel
theorem dX5_mean_98 : decode cX5_mean 98 = .ok (.iaload, 1) := by decide +kernel
theorem dX5_mean_99 : decode cX5_mean 99 = .ok (.aload_n 0, 1) := by decide +kernel
theorem dX5_mean_100 : decode cX5_mean 100 = .ok (.getfield 52, 3) := by decide +kernel
theorem dX5_mean_103 : decode cX5_mean 103 = .ok (.bipush 10, 2) := by decide +kernel
theorem dX5_mean_105 : decode cX5_mean 105 = .ok (.aload_n 0, 1) := by decide +kernel
theorem dX5_mean_106 : decode cX5_mean 106 = .ok (.getfield 85, 3) := by decide +kernel
theorem dX5_mean_109 : decode cX5_mean 109 = .ok (.iconst 0, 1) := by decide +kernel
theorem dX5_mean_110 : decode cX5_mean 110 = .ok (.iaload, 1) := by decide +kernel
theorem dX5_mean_111 : decode cX5_mean 111 = .ok (.imul, 1) := by decide +kernel
theorem dX5_mean_112 : decode cX5_mean 112 = .ok (.iload_n 1, 1) := by decide +kernel
theorem dX5_mean_113 : decode cX5_mean 113 = .ok (.iadd, 1) := by decide +kernel
theorem dX5_mean_114 : decode cX5_mean 114 = .ok (.iaload, 1) := by decide +kernel
theorem dX5_mean_115 : decode cX5_mean 115 = .ok (.isub, 1) := by decide +kernel
theorem dX5_mean_116 : decode cX5_mean 116 = .ok (.i2l, 1) := by decide +kernel
theorem dX5_mean_117 : decode cX5_mean 117 = .ok (.lstore 4, 2) := by decide +kernel
theorem dX5_mean_119 : decode cX5_mean 119 = .ok (.lload 4, 2) := by decide +kernel
theorem dX5_mean_121 : decode cX5_mean 121 = .ok (.ldc2_w 181, 3) := by decide +kernel
theorem dX5_mean_124 : decode cX5_mean 124 = .ok (.aload_n 0, 1) := by decide +kernel
theorem dX5_mean_125 : decode cX5_mean 125 = .ok (.getfield 157, 3) := by decide +kernel
theorem dX5_mean_128 : decode cX5_mean 128 = .ok (.iconst 1, 1) := by decide +kernel
theorem dX5_mean_129 : decode cX5_mean 129 = .ok (.isub, 1) := by decide +kernel
theorem dX5_mean_130 : decode cX5_mean 130 = .ok (.i2l, 1) := by decide +kernel
theorem dX5_mean_131 : decode cX5_mean 131 = .ok (.lmul, 1) := by decide +kernel
theorem dX5_mean_132 : decode cX5_mean 132 = .ok (.iload_n 3, 1) := by decide +kernel
theorem dX5_mean_133 : decode cX5_mean 133 = .ok (.invokestatic 177, 3) := by decide +kernel
theorem dX5_mean_136 : decode cX5_mean 136 = .ok (.lreturn, 1) := by decide +kernel
theorem dX5_allWaited_0 : decode cX5_allWaited 0 = .ok (.iconst 0, 1) := by decide +kernel
theorem dX5_allWaited_1 : decode cX5_allWaited 1 = .ok (.istore_n 1, 1) := by decide +kernel
theorem dX5_allWaited_2 : decode cX5_allWaited 2 = .ok (.iconst 0, 1) := by decide +kernel
theorem dX5_allWaited_3 : decode cX5_allWaited 3 = .ok (.istore_n 2, 1) := by decide +kernel
theorem dX5_allWaited_4 : decode cX5_allWaited 4 = .ok (.iload_n 2, 1) := by decide +kernel
theorem dX5_allWaited_5 : decode cX5_allWaited 5 = .ok (.bipush 9, 2) := by decide +kernel
theorem dX5_allWaited_7 : decode cX5_allWaited 7 = .ok (.if_icmp .ge 18, 3) := by decide +kernel
theorem dX5_allWaited_10 : decode cX5_allWaited 10 = .ok (.iload_n 1, 1) := by decide +kernel
theorem dX5_allWaited_11 : decode cX5_allWaited 11 = .ok (.aload_n 0, 1) := by decide +kernel
theorem dX5_allWaited_12 : decode cX5_allWaited 12 = .ok (.getfield 76, 3) := by decide +kernel
theorem dX5_allWaited_15 : decode cX5_allWaited 15 = .ok (.iload_n 2, 1) := by decide +kernel
theorem dX5_allWaited_16 : decode cX5_allWaited 16 = .ok (.iaload, 1) := by decide +kernel
theorem dX5_allWaited_17 : decode cX5_allWaited 17 = .ok (.iadd, 1) := by decide +kernel
theorem dX5_allWaited_18 : decode cX5_allWaited 18 = .ok (.istore_n 1, 1) := by decide +kernel
theorem dX5_allWaited_19 : decode cX5_allWaited 19 = .ok (.iinc 2 1, 3) := by decide +kernel
theorem dX5_allWaited_22 : decode cX5_allWaited 22 = .ok (.goto (-18), 3) := by decide +kernel
theorem dX5_allWaited_25 : decode cX5_allWaited 25 = .ok (.iload_n 1, 1) := by decide +kernel
theorem dX5_allWaited_26 : decode cX5_allWaited 26 = .ok (.ireturn, 1) := by decide +kernel
theorem dX5_all_0 : decode cX5_all 0 = .ok (.iload_n 1, 1) := by decide +kernel
theorem dX5_all_1 : decode cX5_all 1 = .ok (.iconst 0, 1) := by decide +kernel
theorem dX5_all_2 : decode cX5_all 2 = .ok (.iconst 2, 1) := by decide +kernel
theorem dX5_all_3 : decode cX5_all 3 = .ok (.invokestatic 94, 3) := by decide +kernel
theorem dX5_all_6 : decode cX5_all 6 = .ok (.ifCond .ne 6, 3) := by decide +kernel
theorem dX5_all_9 : decode cX5_all 9 = .ok (.bipush (-2), 2) := by decide +kernel
theorem dX5_all_11 : decode cX5_all 11 = .ok (.ireturn, 1) := by decide +kernel
theorem dX5_all_12 : decode cX5_all 12 = .ok (.aload_n 0, 1) := by decide +kernel
theorem dX5_all_13 : decode cX5_all 13 = .ok (.bipush (-6), 2) := by decide +kernel
theorem dX5_all_15 : decode cX5_all 15 = .ok (.invokevirtual 140, 3) := by decide +kernel
theorem dX5_all_18 : decode cX5_all 18 = .ok (.iload_n 1, 1) := by decide +kernel
theorem dX5_all_19 : decode cX5_all 19 = .ok (.ifCond .ne 10, 3) := by decide +kernel
theorem dX5_all_22 : decode cX5_all 22 = .ok (.aload_n 0, 1) := by decide +kernel
theorem dX5_all_23 : decode cX5_all 23 = .ok (.invokevirtual 183, 3) := by decide +kernel
theorem dX5_all_26 : decode cX5_all 26 = .ok (.goto 19, 3) := by decide +kernel
theorem dX5_all_29 : decode cX5_all 29 = .ok (.iload_n 1, 1) := by decide +kernel
theorem dX5_all_30 : decode cX5_all 30 = .ok (.iconst 1, 1) := by decide +kernel
theorem dX5_all_31 : decode cX5_all 31 = .ok (.if_icmp .ne 10, 3) := by decide +kernel
theorem dX5_all_34 : decode cX5_all 34 = .ok (.aload_n 0, 1) := by decide +kernel
theorem dX5_all_35 : decode cX5_all 35 = .ok (.getfield 112, 3) := by decide +kernel
theorem dX5_all_38 : decode cX5_all 38 = .ok (.goto 7, 3) := by decide +kernel
theorem dX5_all_41 : decode cX5_all 41 = .ok (.aload_n 0, 1) := by decide +kernel
theorem dX5_all_42 : decode cX5_all 42 = .ok (.getfield 115, 3) := by decide +kernel
theorem dX5_all_45 : decode cX5_all 45 = .ok (.ireturn, 1) := by decide +kernel
theorem dX5_held_0 : decode cX5_held 0 = .ok (.aload_n 0, 1) := by decide +kernel
theorem dX5_held_1 : decode cX5_held 1 = .ok (.iload_n 1, 1) := by decide +kernel
theorem dX5_held_2 : decode cX5_held 2 = .ok (.invokevirtual 106, 3) := by decide +kernel
theorem dX5_held_5 : decode cX5_held 5 = .ok (.ifCond .eq 21, 3) := by decide +kernel
theorem dX5_held_8 : decode cX5_held 8 = .ok (.iload_n 2, 1) := by decide +kernel
theorem dX5_held_9 : decode cX5_held 9 = .ok (.invokestatic 102, 3) := by decide +kernel
theorem dX5_held_12 : decode cX5_held 12 = .ok (.ifCond .eq 14, 3) := by decide +kernel
theorem dX5_held_15 : decode cX5_held 15 = .ok (.iload_n 3, 1) := by decide +kernel
theorem dX5_held_16 : decode cX5_held 16 = .ok (.iconst 1, 1) := by decide +kernel
theorem dX5_held_17 : decode cX5_held 17 = .ok (.sipush 900, 3) := by decide +kernel
theorem dX5_held_20 : decode cX5_held 20 = .ok (.invokestatic 94, 3) := by decide +kernel
theorem dX5_held_23 : decode cX5_held 23 = .ok (.ifCond .ne 6, 3) := by decide +kernel
theorem dX5_held_26 : decode cX5_held 26 = .ok (.ldc 186, 2) := by decide +kernel
theorem dX5_held_28 : decode cX5_held 28 = .ok (.ireturn, 1) := by decide +kernel
theorem dX5_held_29 : decode cX5_held 29 = .ok (.aload_n 0, 1) := by decide +kernel
theorem dX5_held_30 : decode cX5_held 30 = .ok (.bipush (-6), 2) := by decide +kernel
theorem dX5_held_32 : decode cX5_held 32 = .ok (.invokevirtual 140, 3) := by decide +kernel
theorem dX5_held_35 : decode cX5_held 35 = .ok (.aload_n 0, 1) := by decide +kernel
theorem dX5_held_36 : decode cX5_held 36 = .ok (.getfield 49, 3) := by decide +kernel
theorem dX5_held_39 : decode cX5_held 39 = .ok (.bipush 10, 2) := by decide +kernel
theorem dX5_held_41 : decode cX5_held 41 = .ok (.iload_n 1, 1) := by decide +kernel
theorem dX5_held_42 : decode cX5_held 42 = .ok (.imul, 1) := by decide +kernel
theorem dX5_held_43 : decode cX5_held 43 = .ok (.iload_n 2, 1) := by decide +kernel
theorem dX5_held_44 : decode cX5_held 44 = .ok (.iadd, 1) := by decide +kernel
theorem dX5_held_45 : decode cX5_held 45 = .ok (.iaload, 1) := by decide +kernel
theorem dX5_held_46 : decode cX5_held 46 = .ok (.ifCond .ge 6, 3) := by decide +kernel
theorem dX5_held_49 : decode cX5_held 49 = .ok (.ldc 186, 2) := by decide +kernel
theorem dX5_held_51 : decode cX5_held 51 = .ok (.ireturn, 1) := by decide +kernel
theorem dX5_held_52 : decode cX5_held 52 = .ok (.aload_n 0, 1) := by decide +kernel
theorem dX5_held_53 : decode cX5_held 53 = .ok (.invokevirtual 183, 3) := by decide +kernel
theorem dX5_held_56 : decode cX5_held 56 = .ok (.aload_n 0, 1) := by decide +kernel
theorem dX5_held_57 : decode cX5_held 57 = .ok (.getfield 112, 3) := by decide +kernel
theorem dX5_held_60 : decode cX5_held 60 = .ok (.iadd, 1) := by decide +kernel
theorem dX5_held_61 : decode cX5_held 61 = .ok (.istore 4, 2) := by decide +kernel
theorem dX5_held_63 : decode cX5_held 63 = .ok (.aload_n 0, 1) := by decide +kernel
theorem dX5_held_64 : decode cX5_held 64 = .ok (.getfield 31, 3) := by decide +kernel
theorem dX5_held_67 : decode cX5_held 67 = .ok (.aload_n 0, 1) := by decide +kernel
theorem dX5_held_68 : decode cX5_held 68 = .ok (.getfield 109, 3) := by decide +kernel
theorem dX5_held_71 : decode cX5_held 71 = .ok (.iload_n 1, 1) := by decide +kernel
theorem dX5_held_72 : decode cX5_held 72 = .ok (.iastore, 1) := by decide +kernel
theorem dX5_held_73 : decode cX5_held 73 = .ok (.aload_n 0, 1) := by decide +kernel
theorem dX5_held_74 : decode cX5_held 74 = .ok (.getfield 34, 3) := by decide +kernel
theorem dX5_held_77 : decode cX5_held 77 = .ok (.aload_n 0, 1) := by decide +kernel
theorem dX5_held_78 : decode cX5_held 78 = .ok (.getfield 109, 3) := by decide +kernel
theorem dX5_held_81 : decode cX5_held 81 = .ok (.iload_n 2, 1) := by decide +kernel
theorem dX5_held_82 : decode cX5_held 82 = .ok (.iastore, 1) := by decide +kernel
theorem dX5_held_83 : decode cX5_held 83 = .ok (.aload_n 0, 1) := by decide +kernel
theorem dX5_held_84 : decode cX5_held 84 = .ok (.getfield 37, 3) := by decide +kernel
theorem dX5_held_87 : decode cX5_held 87 = .ok (.aload_n 0, 1) := by decide +kernel
theorem dX5_held_88 : decode cX5_held 88 = .ok (.getfield 109, 3) := by decide +kernel
theorem dX5_held_91 : decode cX5_held 91 = .ok (.iload_n 3, 1) := by decide +kernel
theorem dX5_held_92 : decode cX5_held 92 = .ok (.iastore, 1) := by decide +kernel
theorem dX5_held_93 : decode cX5_held 93 = .ok (.aload_n 0, 1) := by decide +kernel
theorem dX5_held_94 : decode cX5_held 94 = .ok (.dup, 1) := by decide +kernel
theorem dX5_held_95 : decode cX5_held 95 = .ok (.getfield 109, 3) := by decide +kernel
theorem dX5_held_98 : decode cX5_held 98 = .ok (.iconst 1, 1) := by decide +kernel
theorem dX5_held_99 : decode cX5_held 99 = .ok (.iadd, 1) := by decide +kernel
theorem dX5_held_100 : decode cX5_held 100 = .ok (.putfield 109, 3) := by decide +kernel
theorem dX5_held_103 : decode cX5_held 103 = .ok (.aload_n 0, 1) := by decide +kernel
theorem dX5_held_104 : decode cX5_held 104 = .ok (.bipush (-6), 2) := by decide +kernel
theorem dX5_held_106 : decode cX5_held 106 = .ok (.invokevirtual 140, 3) := by decide +kernel
theorem dX5_held_109 : decode cX5_held 109 = .ok (.aload_n 0, 1) := by decide +kernel
theorem dX5_held_110 : decode cX5_held 110 = .ok (.dup, 1) := by decide +kernel
theorem dX5_held_111 : decode cX5_held 111 = .ok (.getfield 109, 3) := by decide +kernel
theorem dX5_held_114 : decode cX5_held 114 = .ok (.iconst 1, 1) := by decide +kernel
theorem dX5_held_115 : decode cX5_held 115 = .ok (.isub, 1) := by decide +kernel
theorem dX5_held_116 : decode cX5_held 116 = .ok (.putfield 109, 3) := by decide +kernel
theorem dX5_held_119 : decode cX5_held 119 = .ok (.aload_n 0, 1) := by decide +kernel
theorem dX5_held_120 : decode cX5_held 120 = .ok (.invokevirtual 183, 3) := by decide +kernel
theorem dX5_held_123 : decode cX5_held 123 = .ok (.aload_n 0, 1) := by decide +kernel
theorem dX5_held_124 : decode cX5_held 124 = .ok (.getfield 112, 3) := by decide +kernel
theorem dX5_held_127 : decode cX5_held 127 = .ok (.iadd, 1) := by decide +kernel
theorem dX5_held_128 : decode cX5_held 128 = .ok (.iload 4, 2) := by decide +kernel
theorem dX5_held_130 : decode cX5_held 130 = .ok (.isub, 1) := by decide +kernel
theorem dX5_held_131 : decode cX5_held 131 = .ok (.ireturn, 1) := by decide +kernel
theorem dX5_board_0 : decode cX5_board 0 = .ok (.iload_n 1, 1) := by decide +kernel
theorem dX5_board_1 : decode cX5_board 1 = .ok (.iconst 1, 1) := by decide +kernel
theorem dX5_board_2 : decode cX5_board 2 = .ok (.bipush 9, 2) := by decide +kernel
theorem dX5_board_4 : decode cX5_board 4 = .ok (.invokestatic 94, 3) := by decide +kernel
theorem dX5_board_7 : decode cX5_board 7 = .ok (.ifCond .ne 5, 3) := by decide +kernel
theorem dX5_board_10 : decode cX5_board 10 = .ok (.iconst (-1), 1) := by decide +kernel
theorem dX5_board_11 : decode cX5_board 11 = .ok (.ireturn, 1) := by decide +kernel
theorem dX5_board_12 : decode cX5_board 12 = .ok (.iload_n 2, 1) := by decide +kernel
theorem dX5_board_13 : decode cX5_board 13 = .ok (.iconst 0, 1) := by decide +kernel
theorem dX5_board_14 : decode cX5_board 14 = .ok (.sipush 20000, 3) := by decide +kernel
theorem dX5_board_17 : decode cX5_board 17 = .ok (.invokestatic 94, 3) := by decide +kernel
theorem dX5_board_20 : decode cX5_board 20 = .ok (.ifCond .eq 12, 3) := by decide +kernel
theorem dX5_board_23 : decode cX5_board 23 = .ok (.iload_n 3, 1) := by decide +kernel
theorem dX5_board_24 : decode cX5_board 24 = .ok (.iconst 0, 1) := by decide +kernel
theorem dX5_board_25 : decode cX5_board 25 = .ok (.iconst 2, 1) := by decide +kernel
theorem dX5_board_26 : decode cX5_board 26 = .ok (.invokestatic 94, 3) := by decide +kernel
theorem dX5_board_29 : decode cX5_board 29 = .ok (.ifCond .ne 6, 3) := by decide +kernel
theorem dX5_board_32 : decode cX5_board 32 = .ok (.bipush (-2), 2) := by decide +kernel
theorem dX5_board_34 : decode cX5_board 34 = .ok (.ireturn, 1) := by decide +kernel
theorem dX5_board_35 : decode cX5_board 35 = .ok (.aload_n 0, 1) := by decide +kernel
theorem dX5_board_36 : decode cX5_board 36 = .ok (.bipush (-6), 2) := by decide +kernel
theorem dX5_board_38 : decode cX5_board 38 = .ok (.invokevirtual 140, 3) := by decide +kernel
theorem dX5_board_41 : decode cX5_board 41 = .ok (.bipush (-6), 2) := by decide +kernel
theorem dX5_board_43 : decode cX5_board 43 = .ok (.istore 4, 2) := by decide +kernel
theorem dX5_board_45 : decode cX5_board 45 = .ok (.iconst 0, 1) := by decide +kernel
theorem dX5_board_46 : decode cX5_board 46 = .ok (.istore 5, 2) := by decide +kernel
theorem dX5_board_48 : decode cX5_board 48 = .ok (.iconst 0, 1) := by decide +kernel
theorem dX5_board_49 : decode cX5_board 49 = .ok (.istore 6, 2) := by decide +kernel
theorem dX5_board_51 : decode cX5_board 51 = .ok (.iload 6, 2) := by decide +kernel
theorem dX5_board_53 : decode cX5_board 53 = .ok (.aload_n 0, 1) := by decide +kernel
theorem dX5_board_54 : decode cX5_board 54 = .ok (.getfield 98, 3) := by decide +kernel
theorem dX5_board_57 : decode cX5_board 57 = .ok (.if_icmp .ge 101, 3) := by decide +kernel
theorem dX5_board_60 : decode cX5_board 60 = .ok (.iconst 0, 1) := by decide +kernel
theorem dX5_board_61 : decode cX5_board 61 = .ok (.istore 7, 2) := by decide +kernel
theorem dX5_board_63 : decode cX5_board 63 = .ok (.iconst 0, 1) := by decide +kernel
theorem dX5_board_64 : decode cX5_board 64 = .ok (.istore 8, 2) := by decide +kernel
theorem dX5_board_66 : decode cX5_board 66 = .ok (.iload 8, 2) := by decide +kernel
theorem dX5_board_68 : decode cX5_board 68 = .ok (.iload_n 1, 1) := by decide +kernel
theorem dX5_board_69 : decode cX5_board 69 = .ok (.if_icmp .ge 52, 3) := by decide +kernel
theorem dX5_board_72 : decode cX5_board 72 = .ok (.iload 7, 2) := by decide +kernel
theorem dX5_board_74 : decode cX5_board 74 = .ok (.aload_n 0, 1) := by decide +kernel
theorem dX5_board_75 : decode cX5_board 75 = .ok (.getfield 52, 3) := by decide +kernel
theorem dX5_board_78 : decode cX5_board 78 = .ok (.bipush 10, 2) := by decide +kernel
theorem dX5_board_80 : decode cX5_board 80 = .ok (.iload 6, 2) := by decide +kernel
theorem dX5_board_82 : decode cX5_board 82 = .ok (.imul, 1) := by decide +kernel
theorem dX5_board_83 : decode cX5_board 83 = .ok (.iload 8, 2) := by decide +kernel
theorem dX5_board_85 : decode cX5_board 85 = .ok (.iadd, 1) := by decide +kernel
theorem dX5_board_86 : decode cX5_board 86 = .ok (.iaload, 1) := by decide +kernel
theorem dX5_board_87 : decode cX5_board 87 = .ok (.ifCond .lt 24, 3) := by decide +kernel
theorem dX5_board_90 : decode cX5_board 90 = .ok (.aload_n 0, 1) := by decide +kernel
theorem dX5_board_91 : decode cX5_board 91 = .ok (.getfield 52, 3) := by decide +kernel
theorem dX5_board_94 : decode cX5_board 94 = .ok (.bipush 10, 2) := by decide +kernel
theorem dX5_board_96 : decode cX5_board 96 = .ok (.iload 6, 2) := by decide +kernel
theorem dX5_board_98 : decode cX5_board 98 = .ok (.imul, 1) := by decide +kernel
theorem dX5_board_99 : decode cX5_board 99 = .ok (.iload 8, 2) := by decide +kernel
theorem dX5_board_101 : decode cX5_board 101 = .ok (.iadd, 1) := by decide +kernel
theorem dX5_board_102 : decode cX5_board 102 = .ok (.iaload, 1) := by decide +kernel
theorem dX5_board_103 : decode cX5_board 103 = .ok (.iload_n 2, 1) := by decide +kernel
theorem dX5_board_104 : decode cX5_board 104 = .ok (.if_icmp .gt 7, 3) := by decide +kernel
theorem dX5_board_107 : decode cX5_board 107 = .ok (.iconst 1, 1) := by decide +kernel
theorem dX5_board_108 : decode cX5_board 108 = .ok (.goto 4, 3) := by decide +kernel
theorem dX5_board_111 : decode cX5_board 111 = .ok (.iconst 0, 1) := by decide +kernel
theorem dX5_board_112 : decode cX5_board 112 = .ok (.iadd, 1) := by decide +kernel
theorem dX5_board_113 : decode cX5_board 113 = .ok (.istore 7, 2) := by decide +kernel
theorem dX5_board_115 : decode cX5_board 115 = .ok (.iinc 8 1, 3) := by decide +kernel
theorem dX5_board_118 : decode cX5_board 118 = .ok (.goto (-52), 3) := by decide +kernel
theorem dX5_board_121 : decode cX5_board 121 = .ok (.aload_n 0, 1) := by decide +kernel
theorem dX5_board_122 : decode cX5_board 122 = .ok (.getfield 49, 3) := by decide +kernel
theorem dX5_board_125 : decode cX5_board 125 = .ok (.bipush 10, 2) := by decide +kernel
theorem dX5_board_127 : decode cX5_board 127 = .ok (.iload 6, 2) := by decide +kernel
theorem dX5_board_129 : decode cX5_board 129 = .ok (.imul, 1) := by decide +kernel
theorem dX5_board_130 : decode cX5_board 130 = .ok (.iload_n 1, 1) := by decide +kernel
theorem dX5_board_131 : decode cX5_board 131 = .ok (.iadd, 1) := by decide +kernel
theorem dX5_board_132 : decode cX5_board 132 = .ok (.iaload, 1) := by decide +kernel
theorem dX5_board_133 : decode cX5_board 133 = .ok (.iload_n 2, 1) := by decide +kernel
theorem dX5_board_134 : decode cX5_board 134 = .ok (.if_icmp .le 18, 3) := by decide +kernel
theorem dX5_board_137 : decode cX5_board 137 = .ok (.iload 7, 2) := by decide +kernel
theorem dX5_board_139 : decode cX5_board 139 = .ok (.iload 5, 2) := by decide +kernel
theorem dX5_board_141 : decode cX5_board 141 = .ok (.if_icmp .le 11, 3) := by decide +kernel
theorem dX5_board_144 : decode cX5_board 144 = .ok (.iload 6, 2) := by decide +kernel
theorem dX5_board_146 : decode cX5_board 146 = .ok (.istore 4, 2) := by decide +kernel
theorem dX5_board_148 : decode cX5_board 148 = .ok (.iload 7, 2) := by decide +kernel
theorem dX5_board_150 : decode cX5_board 150 = .ok (.istore 5, 2) := by decide +kernel
theorem dX5_board_152 : decode cX5_board 152 = .ok (.iinc 6 1, 3) := by decide +kernel
theorem dX5_board_155 : decode cX5_board 155 = .ok (.goto (-104), 3) := by decide +kernel
theorem dX5_board_158 : decode cX5_board 158 = .ok (.iload 4, 2) := by decide +kernel
theorem dX5_board_160 : decode cX5_board 160 = .ok (.ifCond .ge 16, 3) := by decide +kernel
theorem dX5_board_163 : decode cX5_board 163 = .ok (.iload_n 3, 1) := by decide +kernel
theorem dX5_board_164 : decode cX5_board 164 = .ok (.iconst 2, 1) := by decide +kernel
theorem dX5_board_165 : decode cX5_board 165 = .ok (.if_icmp .ne 8, 3) := by decide +kernel
theorem dX5_board_168 : decode cX5_board 168 = .ok (.ldc 186, 2) := by decide +kernel
theorem dX5_board_170 : decode cX5_board 170 = .ok (.goto 5, 3) := by decide +kernel
theorem dX5_board_173 : decode cX5_board 173 = .ok (.bipush (-6), 2) := by decide +kernel
theorem dX5_board_175 : decode cX5_board 175 = .ok (.ireturn, 1) := by decide +kernel
theorem dX5_board_176 : decode cX5_board 176 = .ok (.aload_n 0, 1) := by decide +kernel
theorem dX5_board_177 : decode cX5_board 177 = .ok (.getfield 52, 3) := by decide +kernel
theorem dX5_board_180 : decode cX5_board 180 = .ok (.bipush 10, 2) := by decide +kernel
theorem dX5_board_182 : decode cX5_board 182 = .ok (.iload 4, 2) := by decide +kernel
theorem dX5_board_184 : decode cX5_board 184 = .ok (.imul, 1) := by decide +kernel
theorem dX5_board_185 : decode cX5_board 185 = .ok (.iload 5, 2) := by decide +kernel
theorem dX5_board_187 : decode cX5_board 187 = .ok (.iadd, 1) := by decide +kernel
theorem dX5_board_188 : decode cX5_board 188 = .ok (.iconst 1, 1) := by decide +kernel
theorem dX5_board_189 : decode cX5_board 189 = .ok (.isub, 1) := by decide +kernel
theorem dX5_board_190 : decode cX5_board 190 = .ok (.iaload, 1) := by decide +kernel
theorem dX5_board_191 : decode cX5_board 191 = .ok (.iload_n 2, 1) := by decide +kernel
theorem dX5_board_192 : decode cX5_board 192 = .ok (.isub, 1) := by decide +kernel
theorem dX5_board_193 : decode cX5_board 193 = .ok (.istore 6, 2) := by decide +kernel
theorem dX5_board_195 : decode cX5_board 195 = .ok (.iload 5, 2) := by decide +kernel
theorem dX5_board_197 : decode cX5_board 197 = .ok (.iconst 1, 1) := by decide +kernel
theorem dX5_board_198 : decode cX5_board 198 = .ok (.isub, 1) := by decide +kernel
theorem dX5_board_199 : decode cX5_board 199 = .ok (.istore 7, 2) := by decide +kernel
theorem dX5_board_201 : decode cX5_board 201 = .ok (.iload 7, 2) := by decide +kernel
theorem dX5_board_203 : decode cX5_board 203 = .ok (.iload_n 1, 1) := by decide +kernel
theorem dX5_board_204 : decode cX5_board 204 = .ok (.if_icmp .ge 21, 3) := by decide +kernel
theorem dX5_board_207 : decode cX5_board 207 = .ok (.iload 6, 2) := by decide +kernel
theorem dX5_board_209 : decode cX5_board 209 = .ok (.aload_n 0, 1) := by decide +kernel
theorem dX5_board_210 : decode cX5_board 210 = .ok (.getfield 7, 3) := by decide +kernel
theorem dX5_board_213 : decode cX5_board 213 = .ok (.iload 7, 2) := by decide +kernel
theorem dX5_board_215 : decode cX5_board 215 = .ok (.iaload, 1) := by decide +kernel
theorem dX5_board_216 : decode cX5_board 216 = .ok (.iadd, 1) := by decide +kernel
theorem dX5_board_217 : decode cX5_board 217 = .ok (.istore 6, 2) := by decide +kernel
theorem dX5_board_219 : decode cX5_board 219 = .ok (.iinc 7 1, 3) := by decide +kernel
theorem dX5_board_222 : decode cX5_board 222 = .ok (.goto (-21), 3) := by decide +kernel
theorem dX5_board_225 : decode cX5_board 225 = .ok (.iload 6, 2) := by decide +kernel
theorem dX5_board_227 : decode cX5_board 227 = .ok (.ifCond .ge 7, 3) := by decide +kernel
theorem dX5_board_230 : decode cX5_board 230 = .ok (.iconst 0, 1) := by decide +kernel
theorem dX5_board_231 : decode cX5_board 231 = .ok (.goto 5, 3) := by decide +kernel
theorem dX5_board_234 : decode cX5_board 234 = .ok (.iload 6, 2) := by decide +kernel
theorem dX5_board_236 : decode cX5_board 236 = .ok (.istore 6, 2) := by decide +kernel
theorem dX5_board_238 : decode cX5_board 238 = .ok (.iload_n 3, 1) := by decide +kernel
theorem dX5_board_239 : decode cX5_board 239 = .ok (.ifCond .ne 8, 3) := by decide +kernel
theorem dX5_board_242 : decode cX5_board 242 = .ok (.iload 6, 2) := by decide +kernel
theorem dX5_board_244 : decode cX5_board 244 = .ok (.goto 30, 3) := by decide +kernel
theorem dX5_board_247 : decode cX5_board 247 = .ok (.iload_n 3, 1) := by decide +kernel
theorem dX5_board_248 : decode cX5_board 248 = .ok (.iconst 1, 1) := by decide +kernel
theorem dX5_board_249 : decode cX5_board 249 = .ok (.if_icmp .ne 8, 3) := by decide +kernel
theorem dX5_board_252 : decode cX5_board 252 = .ok (.iload 4, 2) := by decide +kernel
