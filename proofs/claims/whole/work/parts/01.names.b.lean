theorem dX0_init_0 : decode cX0_init 0 = .ok (.aload_n 0, 1) := by decide +kernel
theorem dX0_init_1 : decode cX0_init 1 = .ok (.invokespecial 3, 3) := by decide +kernel
theorem dX0_init_4 : decode cX0_init 4 = .ok (.aload_n 0, 1) := by decide +kernel
theorem dX0_init_5 : decode cX0_init 5 = .ok (.bipush 80, 2) := by decide +kernel
theorem dX0_init_7 : decode cX0_init 7 = .ok (.newarray .int, 2) := by decide +kernel
theorem dX0_init_9 : decode cX0_init 9 = .ok (.putfield 9, 3) := by decide +kernel
theorem dX0_init_12 : decode cX0_init 12 = .ok (.aload_n 0, 1) := by decide +kernel
theorem dX0_init_13 : decode cX0_init 13 = .ok (.bipush 80, 2) := by decide +kernel
theorem dX0_init_15 : decode cX0_init 15 = .ok (.newarray .int, 2) := by decide +kernel
theorem dX0_init_17 : decode cX0_init 17 = .ok (.putfield 15, 3) := by decide +kernel
theorem dX0_init_20 : decode cX0_init 20 = .ok (.aload_n 0, 1) := by decide +kernel
theorem dX0_init_21 : decode cX0_init 21 = .ok (.bipush 80, 2) := by decide +kernel
theorem dX0_init_23 : decode cX0_init 23 = .ok (.newarray .int, 2) := by decide +kernel
theorem dX0_init_25 : decode cX0_init 25 = .ok (.putfield 18, 3) := by decide +kernel
theorem dX0_init_28 : decode cX0_init 28 = .ok (.aload_n 0, 1) := by decide +kernel
theorem dX0_init_29 : decode cX0_init 29 = .ok (.bipush 80, 2) := by decide +kernel
theorem dX0_init_31 : decode cX0_init 31 = .ok (.newarray .int, 2) := by decide +kernel
theorem dX0_init_33 : decode cX0_init 33 = .ok (.putfield 21, 3) := by decide +kernel
theorem dX0_init_36 : decode cX0_init 36 = .ok (.aload_n 0, 1) := by decide +kernel
theorem dX0_init_37 : decode cX0_init 37 = .ok (.bipush 80, 2) := by decide +kernel
theorem dX0_init_39 : decode cX0_init 39 = .ok (.newarray .int, 2) := by decide +kernel
theorem dX0_init_41 : decode cX0_init 41 = .ok (.putfield 24, 3) := by decide +kernel
theorem dX0_init_44 : decode cX0_init 44 = .ok (.aload_n 0, 1) := by decide +kernel
theorem dX0_init_45 : decode cX0_init 45 = .ok (.bipush 80, 2) := by decide +kernel
theorem dX0_init_47 : decode cX0_init 47 = .ok (.newarray .int, 2) := by decide +kernel
theorem dX0_init_49 : decode cX0_init 49 = .ok (.putfield 27, 3) := by decide +kernel
theorem dX0_init_52 : decode cX0_init 52 = .ok (.aload_n 0, 1) := by decide +kernel
theorem dX0_init_53 : decode cX0_init 53 = .ok (.bipush 80, 2) := by decide +kernel
theorem dX0_init_55 : decode cX0_init 55 = .ok (.newarray .int, 2) := by decide +kernel
theorem dX0_init_57 : decode cX0_init 57 = .ok (.putfield 30, 3) := by decide +kernel
theorem dX0_init_60 : decode cX0_init 60 = .ok (.aload_n 0, 1) := by decide +kernel
theorem dX0_init_61 : decode cX0_init 61 = .ok (.bipush 10, 2) := by decide +kernel
theorem dX0_init_63 : decode cX0_init 63 = .ok (.newarray .int, 2) := by decide +kernel
theorem dX0_init_65 : decode cX0_init 65 = .ok (.putfield 33, 3) := by decide +kernel
theorem dX0_init_68 : decode cX0_init 68 = .ok (.aload_n 0, 1) := by decide +kernel
theorem dX0_init_69 : decode cX0_init 69 = .ok (.bipush 10, 2) := by decide +kernel
theorem dX0_init_71 : decode cX0_init 71 = .ok (.newarray .long, 2) := by decide +kernel
theorem dX0_init_73 : decode cX0_init 73 = .ok (.putfield 36, 3) := by decide +kernel
theorem dX0_init_76 : decode cX0_init 76 = .ok (.aload_n 0, 1) := by decide +kernel
theorem dX0_init_77 : decode cX0_init 77 = .ok (.bipush 10, 2) := by decide +kernel
theorem dX0_init_79 : decode cX0_init 79 = .ok (.newarray .int, 2) := by decide +kernel
theorem dX0_init_81 : decode cX0_init 81 = .ok (.putfield 40, 3) := by decide +kernel
theorem dX0_init_84 : decode cX0_init 84 = .ok (.aload_n 0, 1) := by decide +kernel
theorem dX0_init_85 : decode cX0_init 85 = .ok (.bipush 8, 2) := by decide +kernel
theorem dX0_init_87 : decode cX0_init 87 = .ok (.newarray .int, 2) := by decide +kernel
theorem dX0_init_89 : decode cX0_init 89 = .ok (.putfield 43, 3) := by decide +kernel
theorem dX0_init_92 : decode cX0_init 92 = .ok (.return_, 1) := by decide +kernel
theorem dX0_layLatenesses_0 : decode cX0_layLatenesses 0 = .ok (.aload_n 0, 1) := by decide +kernel
theorem dX0_layLatenesses_1 : decode cX0_layLatenesses 1 = .ok (.getfield 30, 3) := by decide +kernel
theorem dX0_layLatenesses_4 : decode cX0_layLatenesses 4 = .ok (.iconst 0, 1) := by decide +kernel
theorem dX0_layLatenesses_5 : decode cX0_layLatenesses 5 = .ok (.invokestatic 46, 3) := by decide +kernel
theorem dX0_layLatenesses_8 : decode cX0_layLatenesses 8 = .ok (.iconst 0, 1) := by decide +kernel
theorem dX0_layLatenesses_9 : decode cX0_layLatenesses 9 = .ok (.istore_n 3, 1) := by decide +kernel
theorem dX0_layLatenesses_10 : decode cX0_layLatenesses 10 = .ok (.iload_n 3, 1) := by decide +kernel
theorem dX0_layLatenesses_11 : decode cX0_layLatenesses 11 = .ok (.aload_n 1, 1) := by decide +kernel
theorem dX0_layLatenesses_12 : decode cX0_layLatenesses 12 = .ok (.getfield 52, 3) := by decide +kernel
theorem dX0_layLatenesses_15 : decode cX0_layLatenesses 15 = .ok (.if_icmp .ge 43, 3) := by decide +kernel
theorem dX0_layLatenesses_18 : decode cX0_layLatenesses 18 = .ok (.iload_n 3, 1) := by decide +kernel
theorem dX0_layLatenesses_19 : decode cX0_layLatenesses 19 = .ok (.iload_n 2, 1) := by decide +kernel
theorem dX0_layLatenesses_20 : decode cX0_layLatenesses 20 = .ok (.if_icmp .eq 32, 3) := by decide +kernel
theorem dX0_layLatenesses_23 : decode cX0_layLatenesses 23 = .ok (.aload_n 0, 1) := by decide +kernel
theorem dX0_layLatenesses_24 : decode cX0_layLatenesses 24 = .ok (.getfield 30, 3) := by decide +kernel
theorem dX0_layLatenesses_27 : decode cX0_layLatenesses 27 = .ok (.aload_n 1, 1) := by decide +kernel
theorem dX0_layLatenesses_28 : decode cX0_layLatenesses 28 = .ok (.getfield 58, 3) := by decide +kernel
theorem dX0_layLatenesses_31 : decode cX0_layLatenesses 31 = .ok (.iload_n 3, 1) := by decide +kernel
theorem dX0_layLatenesses_32 : decode cX0_layLatenesses 32 = .ok (.iaload, 1) := by decide +kernel
theorem dX0_layLatenesses_33 : decode cX0_layLatenesses 33 = .ok (.aload_n 1, 1) := by decide +kernel
theorem dX0_layLatenesses_34 : decode cX0_layLatenesses 34 = .ok (.getfield 61, 3) := by decide +kernel
theorem dX0_layLatenesses_37 : decode cX0_layLatenesses 37 = .ok (.iload_n 3, 1) := by decide +kernel
theorem dX0_layLatenesses_38 : decode cX0_layLatenesses 38 = .ok (.iaload, 1) := by decide +kernel
theorem dX0_layLatenesses_39 : decode cX0_layLatenesses 39 = .ok (.invokestatic 64, 3) := by decide +kernel
theorem dX0_layLatenesses_42 : decode cX0_layLatenesses 42 = .ok (.dup2, 1) := by decide +kernel
theorem dX0_layLatenesses_43 : decode cX0_layLatenesses 43 = .ok (.iaload, 1) := by decide +kernel
theorem dX0_layLatenesses_44 : decode cX0_layLatenesses 44 = .ok (.aload_n 1, 1) := by decide +kernel
theorem dX0_layLatenesses_45 : decode cX0_layLatenesses 45 = .ok (.getfield 68, 3) := by decide +kernel
theorem dX0_layLatenesses_48 : decode cX0_layLatenesses 48 = .ok (.iload_n 3, 1) := by decide +kernel
theorem dX0_layLatenesses_49 : decode cX0_layLatenesses 49 = .ok (.iaload, 1) := by decide +kernel
theorem dX0_layLatenesses_50 : decode cX0_layLatenesses 50 = .ok (.iadd, 1) := by decide +kernel
theorem dX0_layLatenesses_51 : decode cX0_layLatenesses 51 = .ok (.iastore, 1) := by decide +kernel
theorem dX0_layLatenesses_52 : decode cX0_layLatenesses 52 = .ok (.iinc 3 1, 3) := by decide +kernel
theorem dX0_layLatenesses_55 : decode cX0_layLatenesses 55 = .ok (.goto (-45), 3) := by decide +kernel
theorem dX0_layLatenesses_58 : decode cX0_layLatenesses 58 = .ok (.return_, 1) := by decide +kernel
theorem dX0_play_0 : decode cX0_play 0 = .ok (.aload_n 0, 1) := by decide +kernel
theorem dX0_play_1 : decode cX0_play 1 = .ok (.getfield 33, 3) := by decide +kernel
theorem dX0_play_4 : decode cX0_play 4 = .ok (.iconst 0, 1) := by decide +kernel
theorem dX0_play_5 : decode cX0_play 5 = .ok (.invokestatic 46, 3) := by decide +kernel
theorem dX0_play_8 : decode cX0_play 8 = .ok (.aload_n 0, 1) := by decide +kernel
theorem dX0_play_9 : decode cX0_play 9 = .ok (.getfield 36, 3) := by decide +kernel
theorem dX0_play_12 : decode cX0_play 12 = .ok (.lconst 0, 1) := by decide +kernel
theorem dX0_play_13 : decode cX0_play 13 = .ok (.invokestatic 71, 3) := by decide +kernel
theorem dX0_play_16 : decode cX0_play 16 = .ok (.aload_n 0, 1) := by decide +kernel
theorem dX0_play_17 : decode cX0_play 17 = .ok (.getfield 40, 3) := by decide +kernel
theorem dX0_play_20 : decode cX0_play 20 = .ok (.iconst 0, 1) := by decide +kernel
theorem dX0_play_21 : decode cX0_play 21 = .ok (.invokestatic 46, 3) := by decide +kernel
theorem dX0_play_24 : decode cX0_play 24 = .ok (.aload_n 0, 1) := by decide +kernel
theorem dX0_play_25 : decode cX0_play 25 = .ok (.lconst 0, 1) := by decide +kernel
theorem dX0_play_26 : decode cX0_play 26 = .ok (.putfield 74, 3) := by decide +kernel
theorem dX0_play_29 : decode cX0_play 29 = .ok (.aload_n 0, 1) := by decide +kernel
theorem dX0_play_30 : decode cX0_play 30 = .ok (.iconst 0, 1) := by decide +kernel
theorem dX0_play_31 : decode cX0_play 31 = .ok (.putfield 78, 3) := by decide +kernel
theorem dX0_play_34 : decode cX0_play 34 = .ok (.iconst 0, 1) := by decide +kernel
theorem dX0_play_35 : decode cX0_play 35 = .ok (.istore_n 3, 1) := by decide +kernel
theorem dX0_play_36 : decode cX0_play 36 = .ok (.iload_n 3, 1) := by decide +kernel
theorem dX0_play_37 : decode cX0_play 37 = .ok (.bipush 10, 2) := by decide +kernel
theorem dX0_play_39 : decode cX0_play 39 = .ok (.if_icmp .ge 16, 3) := by decide +kernel
theorem dX0_play_42 : decode cX0_play 42 = .ok (.aload_n 0, 1) := by decide +kernel
theorem dX0_play_43 : decode cX0_play 43 = .ok (.aload_n 1, 1) := by decide +kernel
theorem dX0_play_44 : decode cX0_play 44 = .ok (.aload_n 2, 1) := by decide +kernel
theorem dX0_play_45 : decode cX0_play 45 = .ok (.iload_n 3, 1) := by decide +kernel
theorem dX0_play_46 : decode cX0_play 46 = .ok (.invokevirtual 81, 3) := by decide +kernel
theorem dX0_play_49 : decode cX0_play 49 = .ok (.iinc 3 1, 3) := by decide +kernel
theorem dX0_play_52 : decode cX0_play 52 = .ok (.goto (-16), 3) := by decide +kernel
theorem dX0_play_55 : decode cX0_play 55 = .ok (.return_, 1) := by decide +kernel
theorem dX0_playStop_0 : decode cX0_playStop 0 = .ok (.aload_n 0, 1) := by decide +kernel
theorem dX0_playStop_1 : decode cX0_playStop 1 = .ok (.iconst 0, 1) := by decide +kernel
theorem dX0_playStop_2 : decode cX0_playStop 2 = .ok (.putfield 85, 3) := by decide +kernel
theorem dX0_playStop_5 : decode cX0_playStop 5 = .ok (.aload_n 0, 1) := by decide +kernel
theorem dX0_playStop_6 : decode cX0_playStop 6 = .ok (.bipush (-6), 2) := by decide +kernel
theorem dX0_playStop_8 : decode cX0_playStop 8 = .ok (.putfield 88, 3) := by decide +kernel
theorem dX0_playStop_11 : decode cX0_playStop 11 = .ok (.aload_n 0, 1) := by decide +kernel
theorem dX0_playStop_12 : decode cX0_playStop 12 = .ok (.aload_n 1, 1) := by decide +kernel
theorem dX0_playStop_13 : decode cX0_playStop 13 = .ok (.iload_n 3, 1) := by decide +kernel
theorem dX0_playStop_14 : decode cX0_playStop 14 = .ok (.invokevirtual 91, 3) := by decide +kernel
theorem dX0_playStop_17 : decode cX0_playStop 17 = .ok (.istore 4, 2) := by decide +kernel
theorem dX0_playStop_19 : decode cX0_playStop 19 = .ok (.iconst 0, 1) := by decide +kernel
theorem dX0_playStop_20 : decode cX0_playStop 20 = .ok (.istore 5, 2) := by decide +kernel
theorem dX0_playStop_22 : decode cX0_playStop 22 = .ok (.iload 5, 2) := by decide +kernel
theorem dX0_playStop_24 : decode cX0_playStop 24 = .ok (.iload 4, 2) := by decide +kernel
theorem dX0_playStop_26 : decode cX0_playStop 26 = .ok (.if_icmp .ge 23, 3) := by decide +kernel
theorem dX0_playStop_29 : decode cX0_playStop 29 = .ok (.aload_n 0, 1) := by decide +kernel
theorem dX0_playStop_30 : decode cX0_playStop 30 = .ok (.aload_n 1, 1) := by decide +kernel
theorem dX0_playStop_31 : decode cX0_playStop 31 = .ok (.aload_n 2, 1) := by decide +kernel
theorem dX0_playStop_32 : decode cX0_playStop 32 = .ok (.aload_n 0, 1) := by decide +kernel
theorem dX0_playStop_33 : decode cX0_playStop 33 = .ok (.getfield 43, 3) := by decide +kernel
theorem dX0_playStop_36 : decode cX0_playStop 36 = .ok (.iload 5, 2) := by decide +kernel
theorem dX0_playStop_38 : decode cX0_playStop 38 = .ok (.iaload, 1) := by decide +kernel
theorem dX0_playStop_39 : decode cX0_playStop 39 = .ok (.iload_n 3, 1) := by decide +kernel
theorem dX0_playStop_40 : decode cX0_playStop 40 = .ok (.invokevirtual 95, 3) := by decide +kernel
theorem dX0_playStop_43 : decode cX0_playStop 43 = .ok (.iinc 5 1, 3) := by decide +kernel
theorem dX0_playStop_46 : decode cX0_playStop 46 = .ok (.goto (-24), 3) := by decide +kernel
theorem dX0_playStop_49 : decode cX0_playStop 49 = .ok (.return_, 1) := by decide +kernel
theorem dX0_orderComing_0 : decode cX0_orderComing 0 = .ok (.iconst 0, 1) := by decide +kernel
theorem dX0_orderComing_1 : decode cX0_orderComing 1 = .ok (.istore_n 3, 1) := by decide +kernel
theorem dX0_orderComing_2 : decode cX0_orderComing 2 = .ok (.iconst 0, 1) := by decide +kernel
theorem dX0_orderComing_3 : decode cX0_orderComing 3 = .ok (.istore 4, 2) := by decide +kernel
theorem dX0_orderComing_5 : decode cX0_orderComing 5 = .ok (.iload 4, 2) := by decide +kernel
theorem dX0_orderComing_7 : decode cX0_orderComing 7 = .ok (.aload_n 1, 1) := by decide +kernel
theorem dX0_orderComing_8 : decode cX0_orderComing 8 = .ok (.getfield 99, 3) := by decide +kernel
theorem dX0_orderComing_11 : decode cX0_orderComing 11 = .ok (.if_icmp .ge 81, 3) := by decide +kernel
theorem dX0_orderComing_14 : decode cX0_orderComing 14 = .ok (.aload_n 1, 1) := by decide +kernel
theorem dX0_orderComing_15 : decode cX0_orderComing 15 = .ok (.iload 4, 2) := by decide +kernel
theorem dX0_orderComing_17 : decode cX0_orderComing 17 = .ok (.iload_n 2, 1) := by decide +kernel
theorem dX0_orderComing_18 : decode cX0_orderComing 18 = .ok (.invokevirtual 102, 3) := by decide +kernel
theorem dX0_orderComing_21 : decode cX0_orderComing 21 = .ok (.ifCond .eq 65, 3) := by decide +kernel
theorem dX0_orderComing_24 : decode cX0_orderComing 24 = .ok (.iload 4, 2) := by decide +kernel
theorem dX0_orderComing_26 : decode cX0_orderComing 26 = .ok (.iload_n 2, 1) := by decide +kernel
theorem dX0_orderComing_27 : decode cX0_orderComing 27 = .ok (.invokestatic 64, 3) := by decide +kernel
theorem dX0_orderComing_30 : decode cX0_orderComing 30 = .ok (.istore 5, 2) := by decide +kernel
theorem dX0_orderComing_32 : decode cX0_orderComing 32 = .ok (.aload_n 0, 1) := by decide +kernel
theorem dX0_orderComing_33 : decode cX0_orderComing 33 = .ok (.getfield 9, 3) := by decide +kernel
theorem dX0_orderComing_36 : decode cX0_orderComing 36 = .ok (.iload 5, 2) := by decide +kernel
theorem dX0_orderComing_38 : decode cX0_orderComing 38 = .ok (.iload_n 2, 1) := by decide +kernel
theorem dX0_orderComing_39 : decode cX0_orderComing 39 = .ok (.ifCond .ne 13, 3) := by decide +kernel
theorem dX0_orderComing_42 : decode cX0_orderComing 42 = .ok (.aload_n 1, 1) := by decide +kernel
theorem dX0_orderComing_43 : decode cX0_orderComing 43 = .ok (.getfield 106, 3) := by decide +kernel
theorem dX0_orderComing_46 : decode cX0_orderComing 46 = .ok (.iload 4, 2) := by decide +kernel
theorem dX0_orderComing_48 : decode cX0_orderComing 48 = .ok (.iaload, 1) := by decide +kernel
theorem dX0_orderComing_49 : decode cX0_orderComing 49 = .ok (.goto 21, 3) := by decide +kernel
theorem dX0_orderComing_52 : decode cX0_orderComing 52 = .ok (.aload_n 0, 1) := by decide +kernel
theorem dX0_orderComing_53 : decode cX0_orderComing 53 = .ok (.getfield 15, 3) := by decide +kernel
theorem dX0_orderComing_56 : decode cX0_orderComing 56 = .ok (.iload 5, 2) := by decide +kernel
theorem dX0_orderComing_58 : decode cX0_orderComing 58 = .ok (.iconst 1, 1) := by decide +kernel
theorem dX0_orderComing_59 : decode cX0_orderComing 59 = .ok (.isub, 1) := by decide +kernel
theorem dX0_orderComing_60 : decode cX0_orderComing 60 = .ok (.iaload, 1) := by decide +kernel
theorem dX0_orderComing_61 : decode cX0_orderComing 61 = .ok (.aload_n 1, 1) := by decide +kernel
theorem dX0_orderComing_62 : decode cX0_orderComing 62 = .ok (.getfield 109, 3) := by decide +kernel
theorem dX0_orderComing_65 : decode cX0_orderComing 65 = .ok (.iload_n 2, 1) := by decide +kernel
theorem dX0_orderComing_66 : decode cX0_orderComing 66 = .ok (.iconst 1, 1) := by decide +kernel
theorem dX0_orderComing_67 : decode cX0_orderComing 67 = .ok (.isub, 1) := by decide +kernel
theorem dX0_orderComing_68 : decode cX0_orderComing 68 = .ok (.iaload, 1) := by decide +kernel
theorem dX0_orderComing_69 : decode cX0_orderComing 69 = .ok (.iadd, 1) := by decide +kernel
theorem dX0_orderComing_70 : decode cX0_orderComing 70 = .ok (.iastore, 1) := by decide +kernel
theorem dX0_orderComing_71 : decode cX0_orderComing 71 = .ok (.aload_n 0, 1) := by decide +kernel
theorem dX0_orderComing_72 : decode cX0_orderComing 72 = .ok (.aload_n 0, 1) := by decide +kernel
theorem dX0_orderComing_73 : decode cX0_orderComing 73 = .ok (.getfield 9, 3) := by decide +kernel
theorem dX0_orderComing_76 : decode cX0_orderComing 76 = .ok (.iload_n 2, 1) := by decide +kernel
theorem dX0_orderComing_77 : decode cX0_orderComing 77 = .ok (.iload 4, 2) := by decide +kernel
theorem dX0_orderComing_79 : decode cX0_orderComing 79 = .ok (.iload_n 3, 1) := by decide +kernel
theorem dX0_orderComing_80 : decode cX0_orderComing 80 = .ok (.invokevirtual 112, 3) := by decide +kernel
theorem dX0_orderComing_83 : decode cX0_orderComing 83 = .ok (.iinc 3 1, 3) := by decide +kernel
theorem dX0_orderComing_86 : decode cX0_orderComing 86 = .ok (.iinc 4 1, 3) := by decide +kernel
theorem dX0_orderComing_89 : decode cX0_orderComing 89 = .ok (.goto (-84), 3) := by decide +kernel
theorem dX0_orderComing_92 : decode cX0_orderComing 92 = .ok (.iload_n 3, 1) := by decide +kernel
theorem dX0_orderComing_93 : decode cX0_orderComing 93 = .ok (.ireturn, 1) := by decide +kernel
theorem dX0_orderLeaving_0 : decode cX0_orderLeaving 0 = .ok (.iconst 0, 1) := by decide +kernel
theorem dX0_orderLeaving_1 : decode cX0_orderLeaving 1 = .ok (.istore_n 3, 1) := by decide +kernel
theorem dX0_orderLeaving_2 : decode cX0_orderLeaving 2 = .ok (.iconst 0, 1) := by decide +kernel
theorem dX0_orderLeaving_3 : decode cX0_orderLeaving 3 = .ok (.istore 4, 2) := by decide +kernel
theorem dX0_orderLeaving_5 : decode cX0_orderLeaving 5 = .ok (.iload 4, 2) := by decide +kernel
theorem dX0_orderLeaving_7 : decode cX0_orderLeaving 7 = .ok (.aload_n 1, 1) := by decide +kernel
theorem dX0_orderLeaving_8 : decode cX0_orderLeaving 8 = .ok (.getfield 99, 3) := by decide +kernel
theorem dX0_orderLeaving_11 : decode cX0_orderLeaving 11 = .ok (.if_icmp .ge 34, 3) := by decide +kernel
theorem dX0_orderLeaving_14 : decode cX0_orderLeaving 14 = .ok (.aload_n 1, 1) := by decide +kernel
theorem dX0_orderLeaving_15 : decode cX0_orderLeaving 15 = .ok (.iload 4, 2) := by decide +kernel
theorem dX0_orderLeaving_17 : decode cX0_orderLeaving 17 = .ok (.iload_n 2, 1) := by decide +kernel
theorem dX0_orderLeaving_18 : decode cX0_orderLeaving 18 = .ok (.invokevirtual 116, 3) := by decide +kernel
theorem dX0_orderLeaving_21 : decode cX0_orderLeaving 21 = .ok (.ifCond .eq 18, 3) := by decide +kernel
theorem dX0_orderLeaving_24 : decode cX0_orderLeaving 24 = .ok (.aload_n 0, 1) := by decide +kernel
theorem dX0_orderLeaving_25 : decode cX0_orderLeaving 25 = .ok (.aload_n 0, 1) := by decide +kernel
theorem dX0_orderLeaving_26 : decode cX0_orderLeaving 26 = .ok (.getfield 15, 3) := by decide +kernel
theorem dX0_orderLeaving_29 : decode cX0_orderLeaving 29 = .ok (.iload_n 2, 1) := by decide +kernel
theorem dX0_orderLeaving_30 : decode cX0_orderLeaving 30 = .ok (.iload 4, 2) := by decide +kernel
theorem dX0_orderLeaving_32 : decode cX0_orderLeaving 32 = .ok (.iload_n 3, 1) := by decide +kernel
theorem dX0_orderLeaving_33 : decode cX0_orderLeaving 33 = .ok (.invokevirtual 112, 3) := by decide +kernel
theorem dX0_orderLeaving_36 : decode cX0_orderLeaving 36 = .ok (.iinc 3 1, 3) := by decide +kernel
theorem dX0_orderLeaving_39 : decode cX0_orderLeaving 39 = .ok (.iinc 4 1, 3) := by decide +kernel
theorem dX0_orderLeaving_42 : decode cX0_orderLeaving 42 = .ok (.goto (-37), 3) := by decide +kernel
theorem dX0_orderLeaving_45 : decode cX0_orderLeaving 45 = .ok (.iload_n 3, 1) := by decide +kernel
theorem dX0_orderLeaving_46 : decode cX0_orderLeaving 46 = .ok (.ireturn, 1) := by decide +kernel
theorem dX0_putInOrder_0 : decode cX0_putInOrder 0 = .ok (.iload 4, 2) := by decide +kernel
theorem dX0_putInOrder_2 : decode cX0_putInOrder 2 = .ok (.istore 5, 2) := by decide +kernel
theorem dX0_putInOrder_4 : decode cX0_putInOrder 4 = .ok (.iload 5, 2) := by decide +kernel
theorem dX0_putInOrder_6 : decode cX0_putInOrder 6 = .ok (.ifCond .le 50, 3) := by decide +kernel
theorem dX0_putInOrder_9 : decode cX0_putInOrder 9 = .ok (.aload_n 1, 1) := by decide +kernel
theorem dX0_putInOrder_10 : decode cX0_putInOrder 10 = .ok (.aload_n 0, 1) := by decide +kernel
theorem dX0_putInOrder_11 : decode cX0_putInOrder 11 = .ok (.getfield 43, 3) := by decide +kernel
theorem dX0_putInOrder_14 : decode cX0_putInOrder 14 = .ok (.iload 5, 2) := by decide +kernel
theorem dX0_putInOrder_16 : decode cX0_putInOrder 16 = .ok (.iconst 1, 1) := by decide +kernel
theorem dX0_putInOrder_17 : decode cX0_putInOrder 17 = .ok (.isub, 1) := by decide +kernel
theorem dX0_putInOrder_18 : decode cX0_putInOrder 18 = .ok (.iaload, 1) := by decide +kernel
theorem dX0_putInOrder_19 : decode cX0_putInOrder 19 = .ok (.iload_n 2, 1) := by decide +kernel
theorem dX0_putInOrder_20 : decode cX0_putInOrder 20 = .ok (.invokestatic 64, 3) := by decide +kernel
theorem dX0_putInOrder_23 : decode cX0_putInOrder 23 = .ok (.iaload, 1) := by decide +kernel
theorem dX0_putInOrder_24 : decode cX0_putInOrder 24 = .ok (.aload_n 1, 1) := by decide +kernel
theorem dX0_putInOrder_25 : decode cX0_putInOrder 25 = .ok (.iload_n 3, 1) := by decide +kernel
theorem dX0_putInOrder_26 : decode cX0_putInOrder 26 = .ok (.iload_n 2, 1) := by decide +kernel
theorem dX0_putInOrder_27 : decode cX0_putInOrder 27 = .ok (.invokestatic 64, 3) := by decide +kernel
theorem dX0_putInOrder_30 : decode cX0_putInOrder 30 = .ok (.iaload, 1) := by decide +kernel
theorem dX0_putInOrder_31 : decode cX0_putInOrder 31 = .ok (.if_icmp .le 25, 3) := by decide +kernel
theorem dX0_putInOrder_34 : decode cX0_putInOrder 34 = .ok (.aload_n 0, 1) := by decide +kernel
theorem dX0_putInOrder_35 : decode cX0_putInOrder 35 = .ok (.getfield 43, 3) := by decide +kernel
theorem dX0_putInOrder_38 : decode cX0_putInOrder 38 = .ok (.iload 5, 2) := by decide +kernel
theorem dX0_putInOrder_40 : decode cX0_putInOrder 40 = .ok (.aload_n 0, 1) := by decide +kernel
theorem dX0_putInOrder_41 : decode cX0_putInOrder 41 = .ok (.getfield 43, 3) := by decide +kernel
theorem dX0_putInOrder_44 : decode cX0_putInOrder 44 = .ok (.iload 5, 2) := by decide +kernel
theorem dX0_putInOrder_46 : decode cX0_putInOrder 46 = .ok (.iconst 1, 1) := by decide +kernel
theorem dX0_putInOrder_47 : decode cX0_putInOrder 47 = .ok (.isub, 1) := by decide +kernel
theorem dX0_putInOrder_48 : decode cX0_putInOrder 48 = .ok (.iaload, 1) := by decide +kernel
theorem dX0_putInOrder_49 : decode cX0_putInOrder 49 = .ok (.iastore, 1) := by decide +kernel
theorem dX0_putInOrder_50 : decode cX0_putInOrder 50 = .ok (.iinc 5 (-1), 3) := by decide +kernel
theorem dX0_putInOrder_53 : decode cX0_putInOrder 53 = .ok (.goto (-49), 3) := by decide +kernel
theorem dX0_putInOrder_56 : decode cX0_putInOrder 56 = .ok (.aload_n 0, 1) := by decide +kernel
theorem dX0_putInOrder_57 : decode cX0_putInOrder 57 = .ok (.getfield 43, 3) := by decide +kernel
theorem dX0_putInOrder_60 : decode cX0_putInOrder 60 = .ok (.iload 5, 2) := by decide +kernel
theorem dX0_putInOrder_62 : decode cX0_putInOrder 62 = .ok (.iload_n 3, 1) := by decide +kernel
theorem dX0_putInOrder_63 : decode cX0_putInOrder 63 = .ok (.iastore, 1) := by decide +kernel
theorem dX0_putInOrder_64 : decode cX0_putInOrder 64 = .ok (.return_, 1) := by decide +kernel
theorem dX0_visit_0 : decode cX0_visit 0 = .ok (.iload_n 3, 1) := by decide +kernel
theorem dX0_visit_1 : decode cX0_visit 1 = .ok (.iload 4, 2) := by decide +kernel
theorem dX0_visit_3 : decode cX0_visit 3 = .ok (.invokestatic 64, 3) := by decide +kernel
theorem dX0_visit_6 : decode cX0_visit 6 = .ok (.istore 5, 2) := by decide +kernel
theorem dX0_visit_8 : decode cX0_visit 8 = .ok (.aload_n 1, 1) := by decide +kernel
theorem dX0_visit_9 : decode cX0_visit 9 = .ok (.getfield 119, 3) := by decide +kernel
theorem dX0_visit_12 : decode cX0_visit 12 = .ok (.iconst 3, 1) := by decide +kernel
theorem dX0_visit_13 : decode cX0_visit 13 = .ok (.iaload, 1) := by decide +kernel
theorem dX0_visit_14 : decode cX0_visit 14 = .ok (.ifCond .ne 24, 3) := by decide +kernel
theorem dX0_visit_17 : decode cX0_visit 17 = .ok (.aload_n 0, 1) := by decide +kernel
theorem dX0_visit_18 : decode cX0_visit 18 = .ok (.getfield 9, 3) := by decide +kernel
theorem dX0_visit_21 : decode cX0_visit 21 = .ok (.iload 5, 2) := by decide +kernel
theorem dX0_visit_23 : decode cX0_visit 23 = .ok (.aload_n 0, 1) := by decide +kernel
theorem dX0_visit_24 : decode cX0_visit 24 = .ok (.getfield 9, 3) := by decide +kernel
theorem dX0_visit_27 : decode cX0_visit 27 = .ok (.iload 5, 2) := by decide +kernel
theorem dX0_visit_29 : decode cX0_visit 29 = .ok (.iaload, 1) := by decide +kernel
theorem dX0_visit_30 : decode cX0_visit 30 = .ok (.aload_n 0, 1) := by decide +kernel
theorem dX0_visit_31 : decode cX0_visit 31 = .ok (.getfield 85, 3) := by decide +kernel
theorem dX0_visit_34 : decode cX0_visit 34 = .ok (.invokestatic 122, 3) := by decide +kernel
theorem dX0_visit_37 : decode cX0_visit 37 = .ok (.iastore, 1) := by decide +kernel
theorem dX0_visit_38 : decode cX0_visit 38 = .ok (.iconst 0, 1) := by decide +kernel
theorem dX0_visit_39 : decode cX0_visit 39 = .ok (.istore 6, 2) := by decide +kernel
theorem dX0_visit_41 : decode cX0_visit 41 = .ok (.iload 4, 2) := by decide +kernel
theorem dX0_visit_43 : decode cX0_visit 43 = .ok (.ifCond .le 45, 3) := by decide +kernel
theorem dX0_visit_46 : decode cX0_visit 46 = .ok (.aload_n 0, 1) := by decide +kernel
theorem dX0_visit_47 : decode cX0_visit 47 = .ok (.getfield 24, 3) := by decide +kernel
theorem dX0_visit_50 : decode cX0_visit 50 = .ok (.iload 5, 2) := by decide +kernel
theorem dX0_visit_52 : decode cX0_visit 52 = .ok (.iconst 1, 1) := by decide +kernel
theorem dX0_visit_53 : decode cX0_visit 53 = .ok (.isub, 1) := by decide +kernel
theorem dX0_visit_54 : decode cX0_visit 54 = .ok (.iaload, 1) := by decide +kernel
theorem dX0_visit_55 : decode cX0_visit 55 = .ok (.istore 6, 2) := by decide +kernel
theorem dX0_visit_57 : decode cX0_visit 57 = .ok (.aload_n 0, 1) := by decide +kernel
theorem dX0_visit_58 : decode cX0_visit 58 = .ok (.dup, 1) := by decide +kernel
theorem dX0_visit_59 : decode cX0_visit 59 = .ok (.getfield 74, 3) := by decide +kernel
theorem dX0_visit_62 : decode cX0_visit 62 = .ok (.iload 6, 2) := by decide +kernel
theorem dX0_visit_64 : decode cX0_visit 64 = .ok (.i2l, 1) := by decide +kernel
theorem dX0_visit_65 : decode cX0_visit 65 = .ok (.aload_n 0, 1) := by decide +kernel
theorem dX0_visit_66 : decode cX0_visit 66 = .ok (.getfield 9, 3) := by decide +kernel
theorem dX0_visit_69 : decode cX0_visit 69 = .ok (.iload 5, 2) := by decide +kernel
theorem dX0_visit_71 : decode cX0_visit 71 = .ok (.iaload, 1) := by decide +kernel
theorem dX0_visit_72 : decode cX0_visit 72 = .ok (.aload_n 0, 1) := by decide +kernel
theorem dX0_visit_73 : decode cX0_visit 73 = .ok (.getfield 9, 3) := by decide +kernel
theorem dX0_visit_76 : decode cX0_visit 76 = .ok (.iload 5, 2) := by decide +kernel
theorem dX0_visit_78 : decode cX0_visit 78 = .ok (.iconst 1, 1) := by decide +kernel
theorem dX0_visit_79 : decode cX0_visit 79 = .ok (.isub, 1) := by decide +kernel
theorem dX0_visit_80 : decode cX0_visit 80 = .ok (.iaload, 1) := by decide +kernel
theorem dX0_visit_81 : decode cX0_visit 81 = .ok (.isub, 1) := by decide +kernel
theorem dX0_visit_82 : decode cX0_visit 82 = .ok (.i2l, 1) := by decide +kernel
theorem dX0_visit_83 : decode cX0_visit 83 = .ok (.lmul, 1) := by decide +kernel
theorem dX0_visit_84 : decode cX0_visit 84 = .ok (.ladd, 1) := by decide +kernel
theorem dX0_visit_85 : decode cX0_visit 85 = .ok (.putfield 74, 3) := by decide +kernel
theorem dX0_visit_88 : decode cX0_visit 88 = .ok (.aload_n 0, 1) := by decide +kernel
theorem dX0_visit_89 : decode cX0_visit 89 = .ok (.getfield 21, 3) := by decide +kernel
theorem dX0_visit_92 : decode cX0_visit 92 = .ok (.iload 5, 2) := by decide +kernel
theorem dX0_visit_94 : decode cX0_visit 94 = .ok (.aload_n 0, 1) := by decide +kernel
theorem dX0_visit_95 : decode cX0_visit 95 = .ok (.aload_n 1, 1) := by decide +kernel
theorem dX0_visit_96 : decode cX0_visit 96 = .ok (.iload_n 3, 1) := by decide +kernel
theorem dX0_visit_97 : decode cX0_visit 97 = .ok (.iload 4, 2) := by decide +kernel
theorem dX0_visit_99 : decode cX0_visit 99 = .ok (.invokevirtual 127, 3) := by decide +kernel
theorem dX0_visit_102 : decode cX0_visit 102 = .ok (.iastore, 1) := by decide +kernel
theorem dX0_visit_103 : decode cX0_visit 103 = .ok (.aload_n 1, 1) := by decide +kernel
theorem dX0_visit_104 : decode cX0_visit 104 = .ok (.iload_n 3, 1) := by decide +kernel
theorem dX0_visit_105 : decode cX0_visit 105 = .ok (.iload 4, 2) := by decide +kernel
theorem dX0_visit_107 : decode cX0_visit 107 = .ok (.invokevirtual 116, 3) := by decide +kernel
theorem dX0_visit_110 : decode cX0_visit 110 = .ok (.ifCond .eq 61, 3) := by decide +kernel
theorem dX0_visit_113 : decode cX0_visit 113 = .ok (.aload_n 0, 1) := by decide +kernel
theorem dX0_visit_114 : decode cX0_visit 114 = .ok (.aload_n 1, 1) := by decide +kernel
theorem dX0_visit_115 : decode cX0_visit 115 = .ok (.iload_n 3, 1) := by decide +kernel
theorem dX0_visit_116 : decode cX0_visit 116 = .ok (.iload 4, 2) := by decide +kernel
theorem dX0_visit_118 : decode cX0_visit 118 = .ok (.iload 6, 2) := by decide +kernel
theorem dX0_visit_120 : decode cX0_visit 120 = .ok (.aload_n 0, 1) := by decide +kernel
theorem dX0_visit_121 : decode cX0_visit 121 = .ok (.getfield 21, 3) := by decide +kernel
theorem dX0_visit_124 : decode cX0_visit 124 = .ok (.iload 5, 2) := by decide +kernel
theorem dX0_visit_126 : decode cX0_visit 126 = .ok (.iaload, 1) := by decide +kernel
theorem dX0_visit_127 : decode cX0_visit 127 = .ok (.isub, 1) := by decide +kernel
theorem dX0_visit_128 : decode cX0_visit 128 = .ok (.invokevirtual 131, 3) := by decide +kernel
theorem dX0_visit_131 : decode cX0_visit 131 = .ok (.aload_n 0, 1) := by decide +kernel
theorem dX0_visit_132 : decode cX0_visit 132 = .ok (.getfield 15, 3) := by decide +kernel
theorem dX0_visit_135 : decode cX0_visit 135 = .ok (.iload 5, 2) := by decide +kernel
theorem dX0_visit_137 : decode cX0_visit 137 = .ok (.aload_n 0, 1) := by decide +kernel
theorem dX0_visit_138 : decode cX0_visit 138 = .ok (.getfield 9, 3) := by decide +kernel
theorem dX0_visit_141 : decode cX0_visit 141 = .ok (.iload 5, 2) := by decide +kernel
theorem dX0_visit_143 : decode cX0_visit 143 = .ok (.iaload, 1) := by decide +kernel
theorem dX0_visit_144 : decode cX0_visit 144 = .ok (.aload_n 0, 1) := by decide +kernel
theorem dX0_visit_145 : decode cX0_visit 145 = .ok (.aload_n 1, 1) := by decide +kernel
theorem dX0_visit_146 : decode cX0_visit 146 = .ok (.iload 5, 2) := by decide +kernel
theorem dX0_visit_148 : decode cX0_visit 148 = .ok (.aload_n 0, 1) := by decide +kernel
theorem dX0_visit_149 : decode cX0_visit 149 = .ok (.getfield 21, 3) := by decide +kernel
theorem dX0_visit_152 : decode cX0_visit 152 = .ok (.iload 5, 2) := by decide +kernel
theorem dX0_visit_154 : decode cX0_visit 154 = .ok (.iaload, 1) := by decide +kernel
theorem dX0_visit_155 : decode cX0_visit 155 = .ok (.invokevirtual 135, 3) := by decide +kernel
theorem dX0_visit_158 : decode cX0_visit 158 = .ok (.iadd, 1) := by decide +kernel
theorem dX0_visit_159 : decode cX0_visit 159 = .ok (.iastore, 1) := by decide +kernel
theorem dX0_visit_160 : decode cX0_visit 160 = .ok (.aload_n 0, 1) := by decide +kernel
theorem dX0_visit_161 : decode cX0_visit 161 = .ok (.aload_n 2, 1) := by decide +kernel
theorem dX0_visit_162 : decode cX0_visit 162 = .ok (.iload_n 3, 1) := by decide +kernel
theorem dX0_visit_163 : decode cX0_visit 163 = .ok (.iload 4, 2) := by decide +kernel
theorem dX0_visit_165 : decode cX0_visit 165 = .ok (.invokevirtual 138, 3) := by decide +kernel
theorem dX0_visit_168 : decode cX0_visit 168 = .ok (.goto 55, 3) := by decide +kernel
theorem dX0_visit_171 : decode cX0_visit 171 = .ok (.aload_n 0, 1) := by decide +kernel
theorem dX0_visit_172 : decode cX0_visit 172 = .ok (.dup, 1) := by decide +kernel
theorem dX0_visit_173 : decode cX0_visit 173 = .ok (.getfield 78, 3) := by decide +kernel
theorem dX0_visit_176 : decode cX0_visit 176 = .ok (.iload 6, 2) := by decide +kernel
theorem dX0_visit_178 : decode cX0_visit 178 = .ok (.aload_n 0, 1) := by decide +kernel
theorem dX0_visit_179 : decode cX0_visit 179 = .ok (.getfield 21, 3) := by decide +kernel
theorem dX0_visit_182 : decode cX0_visit 182 = .ok (.iload 5, 2) := by decide +kernel
theorem dX0_visit_184 : decode cX0_visit 184 = .ok (.iaload, 1) := by decide +kernel
theorem dX0_visit_185 : decode cX0_visit 185 = .ok (.isub, 1) := by decide +kernel
theorem dX0_visit_186 : decode cX0_visit 186 = .ok (.iadd, 1) := by decide +kernel
theorem dX0_visit_187 : decode cX0_visit 187 = .ok (.putfield 78, 3) := by decide +kernel
theorem dX0_visit_190 : decode cX0_visit 190 = .ok (.aload_n 0, 1) := by decide +kernel
theorem dX0_visit_191 : decode cX0_visit 191 = .ok (.aload_n 1, 1) := by decide +kernel
theorem dX0_visit_192 : decode cX0_visit 192 = .ok (.iload 4, 2) := by decide +kernel
theorem dX0_visit_194 : decode cX0_visit 194 = .ok (.iload 5, 2) := by decide +kernel
theorem dX0_visit_196 : decode cX0_visit 196 = .ok (.invokevirtual 142, 3) := by decide +kernel
theorem dX0_visit_199 : decode cX0_visit 199 = .ok (.aload_n 0, 1) := by decide +kernel
theorem dX0_visit_200 : decode cX0_visit 200 = .ok (.getfield 15, 3) := by decide +kernel
theorem dX0_visit_203 : decode cX0_visit 203 = .ok (.iload 5, 2) := by decide +kernel
theorem dX0_visit_205 : decode cX0_visit 205 = .ok (.aload_n 0, 1) := by decide +kernel
theorem dX0_visit_206 : decode cX0_visit 206 = .ok (.getfield 9, 3) := by decide +kernel
theorem dX0_visit_209 : decode cX0_visit 209 = .ok (.iload 5, 2) := by decide +kernel
theorem dX0_visit_211 : decode cX0_visit 211 = .ok (.iaload, 1) := by decide +kernel
theorem dX0_visit_212 : decode cX0_visit 212 = .ok (.aload_n 0, 1) := by decide +kernel
theorem dX0_visit_213 : decode cX0_visit 213 = .ok (.aload_n 1, 1) := by decide +kernel
theorem dX0_visit_214 : decode cX0_visit 214 = .ok (.iload 5, 2) := by decide +kernel
theorem dX0_visit_216 : decode cX0_visit 216 = .ok (.iload 6, 2) := by decide +kernel
theorem dX0_visit_218 : decode cX0_visit 218 = .ok (.invokevirtual 135, 3) := by decide +kernel
theorem dX0_visit_221 : decode cX0_visit 221 = .ok (.iadd, 1) := by decide +kernel
theorem dX0_visit_222 : decode cX0_visit 222 = .ok (.iastore, 1) := by decide +kernel
theorem dX0_visit_223 : decode cX0_visit 223 = .ok (.aload_n 0, 1) := by decide +kernel
theorem dX0_visit_224 : decode cX0_visit 224 = .ok (.aload_n 0, 1) := by decide +kernel
theorem dX0_visit_225 : decode cX0_visit 225 = .ok (.getfield 85, 3) := by decide +kernel
theorem dX0_visit_228 : decode cX0_visit 228 = .ok (.aload_n 0, 1) := by decide +kernel
theorem dX0_visit_229 : decode cX0_visit 229 = .ok (.getfield 15, 3) := by decide +kernel
theorem dX0_visit_232 : decode cX0_visit 232 = .ok (.iload 5, 2) := by decide +kernel
theorem dX0_visit_234 : decode cX0_visit 234 = .ok (.iaload, 1) := by decide +kernel
theorem dX0_visit_235 : decode cX0_visit 235 = .ok (.invokestatic 122, 3) := by decide +kernel
theorem dX0_visit_238 : decode cX0_visit 238 = .ok (.putfield 85, 3) := by decide +kernel
theorem dX0_visit_241 : decode cX0_visit 241 = .ok (.return_, 1) := by decide +kernel
theorem dX0_countAtGoal_0 : decode cX0_countAtGoal 0 = .ok (.iconst 0, 1) := by decide +kernel
theorem dX0_countAtGoal_1 : decode cX0_countAtGoal 1 = .ok (.istore 4, 2) := by decide +kernel
theorem dX0_countAtGoal_3 : decode cX0_countAtGoal 3 = .ok (.iconst 0, 1) := by decide +kernel
theorem dX0_countAtGoal_4 : decode cX0_countAtGoal 4 = .ok (.istore 5, 2) := by decide +kernel
theorem dX0_countAtGoal_6 : decode cX0_countAtGoal 6 = .ok (.iload 5, 2) := by decide +kernel
theorem dX0_countAtGoal_8 : decode cX0_countAtGoal 8 = .ok (.iload_n 3, 1) := by decide +kernel
theorem dX0_countAtGoal_9 : decode cX0_countAtGoal 9 = .ok (.if_icmp .ge 35, 3) := by decide +kernel
theorem dX0_countAtGoal_12 : decode cX0_countAtGoal 12 = .ok (.aload_n 1, 1) := by decide +kernel
theorem dX0_countAtGoal_13 : decode cX0_countAtGoal 13 = .ok (.iload 5, 2) := by decide +kernel
theorem dX0_countAtGoal_15 : decode cX0_countAtGoal 15 = .ok (.invokevirtual 146, 3) := by decide +kernel
theorem dX0_countAtGoal_18 : decode cX0_countAtGoal 18 = .ok (.iload_n 3, 1) := by decide +kernel
theorem dX0_countAtGoal_19 : decode cX0_countAtGoal 19 = .ok (.if_icmp .ne 19, 3) := by decide +kernel
theorem dX0_countAtGoal_22 : decode cX0_countAtGoal 22 = .ok (.iload 4, 2) := by decide +kernel
theorem dX0_countAtGoal_24 : decode cX0_countAtGoal 24 = .ok (.aload_n 0, 1) := by decide +kernel
theorem dX0_countAtGoal_25 : decode cX0_countAtGoal 25 = .ok (.getfield 18, 3) := by decide +kernel
theorem dX0_countAtGoal_28 : decode cX0_countAtGoal 28 = .ok (.iload_n 2, 1) := by decide +kernel
theorem dX0_countAtGoal_29 : decode cX0_countAtGoal 29 = .ok (.iload 5, 2) := by decide +kernel
theorem dX0_countAtGoal_31 : decode cX0_countAtGoal 31 = .ok (.invokestatic 64, 3) := by decide +kernel
theorem dX0_countAtGoal_34 : decode cX0_countAtGoal 34 = .ok (.iaload, 1) := by decide +kernel
theorem dX0_countAtGoal_35 : decode cX0_countAtGoal 35 = .ok (.iadd, 1) := by decide +kernel
theorem dX0_countAtGoal_36 : decode cX0_countAtGoal 36 = .ok (.istore 4, 2) := by decide +kernel
theorem dX0_countAtGoal_38 : decode cX0_countAtGoal 38 = .ok (.iinc 5 1, 3) := by decide +kernel
theorem dX0_countAtGoal_41 : decode cX0_countAtGoal 41 = .ok (.goto (-35), 3) := by decide +kernel
theorem dX0_countAtGoal_44 : decode cX0_countAtGoal 44 = .ok (.iload 4, 2) := by decide +kernel
theorem dX0_countAtGoal_46 : decode cX0_countAtGoal 46 = .ok (.ireturn, 1) := by decide +kernel
theorem dX0_pickUp_0 : decode cX0_pickUp 0 = .ok (.iload_n 2, 1) := by decide +kernel
theorem dX0_pickUp_1 : decode cX0_pickUp 1 = .ok (.iload_n 3, 1) := by decide +kernel
theorem dX0_pickUp_2 : decode cX0_pickUp 2 = .ok (.invokestatic 64, 3) := by decide +kernel
theorem dX0_pickUp_5 : decode cX0_pickUp 5 = .ok (.istore 5, 2) := by decide +kernel
theorem dX0_pickUp_7 : decode cX0_pickUp 7 = .ok (.aload_n 1, 1) := by decide +kernel
theorem dX0_pickUp_8 : decode cX0_pickUp 8 = .ok (.iload_n 3, 1) := by decide +kernel
theorem dX0_pickUp_9 : decode cX0_pickUp 9 = .ok (.aload_n 0, 1) := by decide +kernel
theorem dX0_pickUp_10 : decode cX0_pickUp 10 = .ok (.getfield 9, 3) := by decide +kernel
theorem dX0_pickUp_13 : decode cX0_pickUp 13 = .ok (.iload 5, 2) := by decide +kernel
theorem dX0_pickUp_15 : decode cX0_pickUp 15 = .ok (.iaload, 1) := by decide +kernel
theorem dX0_pickUp_16 : decode cX0_pickUp 16 = .ok (.invokevirtual 150, 3) := by decide +kernel
theorem dX0_pickUp_19 : decode cX0_pickUp 19 = .ok (.aload_n 0, 1) := by decide +kernel
theorem dX0_pickUp_20 : decode cX0_pickUp 20 = .ok (.getfield 33, 3) := by decide +kernel
theorem dX0_pickUp_23 : decode cX0_pickUp 23 = .ok (.iload_n 3, 1) := by decide +kernel
theorem dX0_pickUp_24 : decode cX0_pickUp 24 = .ok (.iaload, 1) := by decide +kernel
theorem dX0_pickUp_25 : decode cX0_pickUp 25 = .ok (.isub, 1) := by decide +kernel
theorem dX0_pickUp_26 : decode cX0_pickUp 26 = .ok (.istore 6, 2) := by decide +kernel
theorem dX0_pickUp_28 : decode cX0_pickUp 28 = .ok (.aload_n 1, 1) := by decide +kernel
theorem dX0_pickUp_29 : decode cX0_pickUp 29 = .ok (.getfield 152, 3) := by decide +kernel
theorem dX0_pickUp_32 : decode cX0_pickUp 32 = .ok (.iload_n 2, 1) := by decide +kernel
theorem dX0_pickUp_33 : decode cX0_pickUp 33 = .ok (.iaload, 1) := by decide +kernel
theorem dX0_pickUp_34 : decode cX0_pickUp 34 = .ok (.iload 4, 2) := by decide +kernel
theorem dX0_pickUp_36 : decode cX0_pickUp 36 = .ok (.isub, 1) := by decide +kernel
theorem dX0_pickUp_37 : decode cX0_pickUp 37 = .ok (.iload 6, 2) := by decide +kernel
theorem dX0_pickUp_39 : decode cX0_pickUp 39 = .ok (.invokestatic 155, 3) := by decide +kernel
theorem dX0_pickUp_42 : decode cX0_pickUp 42 = .ok (.istore 7, 2) := by decide +kernel
theorem dX0_pickUp_44 : decode cX0_pickUp 44 = .ok (.aload_n 0, 1) := by decide +kernel
theorem dX0_pickUp_45 : decode cX0_pickUp 45 = .ok (.getfield 18, 3) := by decide +kernel
theorem dX0_pickUp_48 : decode cX0_pickUp 48 = .ok (.iload 5, 2) := by decide +kernel
theorem dX0_pickUp_50 : decode cX0_pickUp 50 = .ok (.iload 7, 2) := by decide +kernel
theorem dX0_pickUp_52 : decode cX0_pickUp 52 = .ok (.iastore, 1) := by decide +kernel
theorem dX0_pickUp_53 : decode cX0_pickUp 53 = .ok (.aload_n 0, 1) := by decide +kernel
theorem dX0_pickUp_54 : decode cX0_pickUp 54 = .ok (.getfield 27, 3) := by decide +kernel
theorem dX0_pickUp_57 : decode cX0_pickUp 57 = .ok (.iload 5, 2) := by decide +kernel
theorem dX0_pickUp_59 : decode cX0_pickUp 59 = .ok (.iload 6, 2) := by decide +kernel
theorem dX0_pickUp_61 : decode cX0_pickUp 61 = .ok (.iload 7, 2) := by decide +kernel
theorem dX0_pickUp_63 : decode cX0_pickUp 63 = .ok (.isub, 1) := by decide +kernel
theorem dX0_pickUp_64 : decode cX0_pickUp 64 = .ok (.iastore, 1) := by decide +kernel
theorem dX0_pickUp_65 : decode cX0_pickUp 65 = .ok (.aload_n 0, 1) := by decide +kernel
theorem dX0_pickUp_66 : decode cX0_pickUp 66 = .ok (.getfield 24, 3) := by decide +kernel
theorem dX0_pickUp_69 : decode cX0_pickUp 69 = .ok (.iload 5, 2) := by decide +kernel
theorem dX0_pickUp_71 : decode cX0_pickUp 71 = .ok (.iload 4, 2) := by decide +kernel
theorem dX0_pickUp_73 : decode cX0_pickUp 73 = .ok (.iload 7, 2) := by decide +kernel
theorem dX0_pickUp_75 : decode cX0_pickUp 75 = .ok (.iadd, 1) := by decide +kernel
theorem dX0_pickUp_76 : decode cX0_pickUp 76 = .ok (.iastore, 1) := by decide +kernel
theorem dX0_pickUp_77 : decode cX0_pickUp 77 = .ok (.iload 7, 2) := by decide +kernel
theorem dX0_pickUp_79 : decode cX0_pickUp 79 = .ok (.ifCond .le 34, 3) := by decide +kernel
theorem dX0_pickUp_82 : decode cX0_pickUp 82 = .ok (.aload_n 0, 1) := by decide +kernel
theorem dX0_pickUp_83 : decode cX0_pickUp 83 = .ok (.iload_n 3, 1) := by decide +kernel
theorem dX0_pickUp_84 : decode cX0_pickUp 84 = .ok (.aload_n 0, 1) := by decide +kernel
theorem dX0_pickUp_85 : decode cX0_pickUp 85 = .ok (.getfield 9, 3) := by decide +kernel
theorem dX0_pickUp_88 : decode cX0_pickUp 88 = .ok (.iload 5, 2) := by decide +kernel
theorem dX0_pickUp_90 : decode cX0_pickUp 90 = .ok (.iaload, 1) := by decide +kernel
theorem dX0_pickUp_91 : decode cX0_pickUp 91 = .ok (.iload 7, 2) := by decide +kernel
theorem dX0_pickUp_93 : decode cX0_pickUp 93 = .ok (.aload_n 1, 1) := by decide +kernel
theorem dX0_pickUp_94 : decode cX0_pickUp 94 = .ok (.getfield 158, 3) := by decide +kernel
theorem dX0_pickUp_97 : decode cX0_pickUp 97 = .ok (.iload_n 3, 1) := by decide +kernel
theorem dX0_pickUp_98 : decode cX0_pickUp 98 = .ok (.iaload, 1) := by decide +kernel
theorem dX0_pickUp_99 : decode cX0_pickUp 99 = .ok (.invokevirtual 161, 3) := by decide +kernel
theorem dX0_pickUp_102 : decode cX0_pickUp 102 = .ok (.aload_n 0, 1) := by decide +kernel
theorem dX0_pickUp_103 : decode cX0_pickUp 103 = .ok (.getfield 33, 3) := by decide +kernel
theorem dX0_pickUp_106 : decode cX0_pickUp 106 = .ok (.iload_n 3, 1) := by decide +kernel
theorem dX0_pickUp_107 : decode cX0_pickUp 107 = .ok (.dup2, 1) := by decide +kernel
theorem dX0_pickUp_108 : decode cX0_pickUp 108 = .ok (.iaload, 1) := by decide +kernel
theorem dX0_pickUp_109 : decode cX0_pickUp 109 = .ok (.iload 7, 2) := by decide +kernel
theorem dX0_pickUp_111 : decode cX0_pickUp 111 = .ok (.iadd, 1) := by decide +kernel
theorem dX0_pickUp_112 : decode cX0_pickUp 112 = .ok (.iastore, 1) := by decide +kernel
theorem dX0_pickUp_113 : decode cX0_pickUp 113 = .ok (.return_, 1) := by decide +kernel
theorem dX0_noteWaits_0 : decode cX0_noteWaits 0 = .ok (.iload_n 3, 1) := by decide +kernel
theorem dX0_noteWaits_1 : decode cX0_noteWaits 1 = .ok (.i2l, 1) := by decide +kernel
theorem dX0_noteWaits_2 : decode cX0_noteWaits 2 = .ok (.aload_n 0, 1) := by decide +kernel
theorem dX0_noteWaits_3 : decode cX0_noteWaits 3 = .ok (.getfield 33, 3) := by decide +kernel
theorem dX0_noteWaits_6 : decode cX0_noteWaits 6 = .ok (.iload_n 1, 1) := by decide +kernel
theorem dX0_noteWaits_7 : decode cX0_noteWaits 7 = .ok (.iaload, 1) := by decide +kernel
theorem dX0_noteWaits_8 : decode cX0_noteWaits 8 = .ok (.i2l, 1) := by decide +kernel
theorem dX0_noteWaits_9 : decode cX0_noteWaits 9 = .ok (.lmul, 1) := by decide +kernel
theorem dX0_noteWaits_10 : decode cX0_noteWaits 10 = .ok (.iload_n 3, 1) := by decide +kernel
theorem dX0_noteWaits_11 : decode cX0_noteWaits 11 = .ok (.i2l, 1) := by decide +kernel
theorem dX0_noteWaits_12 : decode cX0_noteWaits 12 = .ok (.iload_n 3, 1) := by decide +kernel
theorem dX0_noteWaits_13 : decode cX0_noteWaits 13 = .ok (.iconst 1, 1) := by decide +kernel
theorem dX0_noteWaits_14 : decode cX0_noteWaits 14 = .ok (.iadd, 1) := by decide +kernel
theorem dX0_noteWaits_15 : decode cX0_noteWaits 15 = .ok (.i2l, 1) := by decide +kernel
theorem dX0_noteWaits_16 : decode cX0_noteWaits 16 = .ok (.lmul, 1) := by decide +kernel
theorem dX0_noteWaits_17 : decode cX0_noteWaits 17 = .ok (.ldc2_w 165, 3) := by decide +kernel
theorem dX0_noteWaits_20 : decode cX0_noteWaits 20 = .ok (.ldiv, 1) := by decide +kernel
theorem dX0_noteWaits_21 : decode cX0_noteWaits 21 = .ok (.ladd, 1) := by decide +kernel
theorem dX0_noteWaits_22 : decode cX0_noteWaits 22 = .ok (.lstore 5, 2) := by decide +kernel
theorem dX0_noteWaits_24 : decode cX0_noteWaits 24 = .ok (.aload_n 0, 1) := by decide +kernel
theorem dX0_noteWaits_25 : decode cX0_noteWaits 25 = .ok (.getfield 36, 3) := by decide +kernel
theorem dX0_noteWaits_28 : decode cX0_noteWaits 28 = .ok (.iload_n 1, 1) := by decide +kernel
theorem dX0_noteWaits_29 : decode cX0_noteWaits 29 = .ok (.dup2, 1) := by decide +kernel
theorem dX0_noteWaits_30 : decode cX0_noteWaits 30 = .ok (.laload, 1) := by decide +kernel
theorem dX0_noteWaits_31 : decode cX0_noteWaits 31 = .ok (.iload_n 3, 1) := by decide +kernel
theorem dX0_noteWaits_32 : decode cX0_noteWaits 32 = .ok (.i2l, 1) := by decide +kernel
theorem dX0_noteWaits_33 : decode cX0_noteWaits 33 = .ok (.iload_n 2, 1) := by decide +kernel
theorem dX0_noteWaits_34 : decode cX0_noteWaits 34 = .ok (.i2l, 1) := by decide +kernel
theorem dX0_noteWaits_35 : decode cX0_noteWaits 35 = .ok (.lmul, 1) := by decide +kernel
theorem dX0_noteWaits_36 : decode cX0_noteWaits 36 = .ok (.iload 4, 2) := by decide +kernel
theorem dX0_noteWaits_38 : decode cX0_noteWaits 38 = .ok (.i2l, 1) := by decide +kernel
theorem dX0_noteWaits_39 : decode cX0_noteWaits 39 = .ok (.lload 5, 2) := by decide +kernel
theorem dX0_noteWaits_41 : decode cX0_noteWaits 41 = .ok (.lmul, 1) := by decide +kernel
theorem dX0_noteWaits_42 : decode cX0_noteWaits 42 = .ok (.lsub, 1) := by decide +kernel
theorem dX0_noteWaits_43 : decode cX0_noteWaits 43 = .ok (.ladd, 1) := by decide +kernel
theorem dX0_noteWaits_44 : decode cX0_noteWaits 44 = .ok (.lastore, 1) := by decide +kernel
theorem dX0_noteWaits_45 : decode cX0_noteWaits 45 = .ok (.iload_n 2, 1) := by decide +kernel
theorem dX0_noteWaits_46 : decode cX0_noteWaits 46 = .ok (.iload 4, 2) := by decide +kernel
theorem dX0_noteWaits_48 : decode cX0_noteWaits 48 = .ok (.aload_n 0, 1) := by decide +kernel
theorem dX0_noteWaits_49 : decode cX0_noteWaits 49 = .ok (.getfield 33, 3) := by decide +kernel
theorem dX0_noteWaits_52 : decode cX0_noteWaits 52 = .ok (.iload_n 1, 1) := by decide +kernel
theorem dX0_noteWaits_53 : decode cX0_noteWaits 53 = .ok (.iaload, 1) := by decide +kernel
theorem dX0_noteWaits_54 : decode cX0_noteWaits 54 = .ok (.iconst 1, 1) := by decide +kernel
theorem dX0_noteWaits_55 : decode cX0_noteWaits 55 = .ok (.iadd, 1) := by decide +kernel
theorem dX0_noteWaits_56 : decode cX0_noteWaits 56 = .ok (.imul, 1) := by decide +kernel
theorem dX0_noteWaits_57 : decode cX0_noteWaits 57 = .ok (.isub, 1) := by decide +kernel
theorem dX0_noteWaits_58 : decode cX0_noteWaits 58 = .ok (.istore 7, 2) := by decide +kernel
theorem dX0_noteWaits_60 : decode cX0_noteWaits 60 = .ok (.iload 7, 2) := by decide +kernel
theorem dX0_noteWaits_62 : decode cX0_noteWaits 62 = .ok (.aload_n 0, 1) := by decide +kernel
theorem dX0_noteWaits_63 : decode cX0_noteWaits 63 = .ok (.getfield 40, 3) := by decide +kernel
theorem dX0_noteWaits_66 : decode cX0_noteWaits 66 = .ok (.iload_n 1, 1) := by decide +kernel
theorem dX0_noteWaits_67 : decode cX0_noteWaits 67 = .ok (.iaload, 1) := by decide +kernel
theorem dX0_noteWaits_68 : decode cX0_noteWaits 68 = .ok (.if_icmp .le 11, 3) := by decide +kernel
theorem dX0_noteWaits_71 : decode cX0_noteWaits 71 = .ok (.aload_n 0, 1) := by decide +kernel
theorem dX0_noteWaits_72 : decode cX0_noteWaits 72 = .ok (.getfield 40, 3) := by decide +kernel
theorem dX0_noteWaits_75 : decode cX0_noteWaits 75 = .ok (.iload_n 1, 1) := by decide +kernel
theorem dX0_noteWaits_76 : decode cX0_noteWaits 76 = .ok (.iload 7, 2) := by decide +kernel
theorem dX0_noteWaits_78 : decode cX0_noteWaits 78 = .ok (.iastore, 1) := by decide +kernel
theorem dX0_noteWaits_79 : decode cX0_noteWaits 79 = .ok (.return_, 1) := by decide +kernel
theorem dX0_emptyOut_0 : decode cX0_emptyOut 0 = .ok (.aload_n 0, 1) := by decide +kernel
theorem dX0_emptyOut_1 : decode cX0_emptyOut 1 = .ok (.getfield 18, 3) := by decide +kernel
theorem dX0_emptyOut_4 : decode cX0_emptyOut 4 = .ok (.iload_n 3, 1) := by decide +kernel
theorem dX0_emptyOut_5 : decode cX0_emptyOut 5 = .ok (.iconst 0, 1) := by decide +kernel
theorem dX0_emptyOut_6 : decode cX0_emptyOut 6 = .ok (.iastore, 1) := by decide +kernel
theorem dX0_emptyOut_7 : decode cX0_emptyOut 7 = .ok (.aload_n 0, 1) := by decide +kernel
theorem dX0_emptyOut_8 : decode cX0_emptyOut 8 = .ok (.getfield 24, 3) := by decide +kernel
theorem dX0_emptyOut_11 : decode cX0_emptyOut 11 = .ok (.iload_n 3, 1) := by decide +kernel
theorem dX0_emptyOut_12 : decode cX0_emptyOut 12 = .ok (.iconst 0, 1) := by decide +kernel
theorem dX0_emptyOut_13 : decode cX0_emptyOut 13 = .ok (.iastore, 1) := by decide +kernel
theorem dX0_emptyOut_14 : decode cX0_emptyOut 14 = .ok (.aload_n 0, 1) := by decide +kernel
theorem dX0_emptyOut_15 : decode cX0_emptyOut 15 = .ok (.getfield 27, 3) := by decide +kernel
theorem dX0_emptyOut_18 : decode cX0_emptyOut 18 = .ok (.iload_n 3, 1) := by decide +kernel
theorem dX0_emptyOut_19 : decode cX0_emptyOut 19 = .ok (.aload_n 1, 1) := by decide +kernel
theorem dX0_emptyOut_20 : decode cX0_emptyOut 20 = .ok (.iload_n 2, 1) := by decide +kernel
theorem dX0_emptyOut_21 : decode cX0_emptyOut 21 = .ok (.aload_n 0, 1) := by decide +kernel
theorem dX0_emptyOut_22 : decode cX0_emptyOut 22 = .ok (.getfield 9, 3) := by decide +kernel
theorem dX0_emptyOut_25 : decode cX0_emptyOut 25 = .ok (.iload_n 3, 1) := by decide +kernel
theorem dX0_emptyOut_26 : decode cX0_emptyOut 26 = .ok (.iaload, 1) := by decide +kernel
theorem dX0_emptyOut_27 : decode cX0_emptyOut 27 = .ok (.invokevirtual 150, 3) := by decide +kernel
theorem dX0_emptyOut_30 : decode cX0_emptyOut 30 = .ok (.aload_n 0, 1) := by decide +kernel
theorem dX0_emptyOut_31 : decode cX0_emptyOut 31 = .ok (.getfield 33, 3) := by decide +kernel
theorem dX0_emptyOut_34 : decode cX0_emptyOut 34 = .ok (.iload_n 2, 1) := by decide +kernel
theorem dX0_emptyOut_35 : decode cX0_emptyOut 35 = .ok (.iaload, 1) := by decide +kernel
theorem dX0_emptyOut_36 : decode cX0_emptyOut 36 = .ok (.isub, 1) := by decide +kernel
theorem dX0_emptyOut_37 : decode cX0_emptyOut 37 = .ok (.iastore, 1) := by decide +kernel
theorem dX0_emptyOut_38 : decode cX0_emptyOut 38 = .ok (.return_, 1) := by decide +kernel
theorem dX0_stand_0 : decode cX0_stand 0 = .ok (.aload_n 0, 1) := by decide +kernel
theorem dX0_stand_1 : decode cX0_stand 1 = .ok (.getfield 18, 3) := by decide +kernel
theorem dX0_stand_4 : decode cX0_stand 4 = .ok (.iload_n 2, 1) := by decide +kernel
theorem dX0_stand_5 : decode cX0_stand 5 = .ok (.iaload, 1) := by decide +kernel
theorem dX0_stand_6 : decode cX0_stand 6 = .ok (.ifCond .ne 14, 3) := by decide +kernel
theorem dX0_stand_9 : decode cX0_stand 9 = .ok (.iload_n 3, 1) := by decide +kernel
theorem dX0_stand_10 : decode cX0_stand 10 = .ok (.ifCond .ne 10, 3) := by decide +kernel
theorem dX0_stand_13 : decode cX0_stand 13 = .ok (.aload_n 0, 1) := by decide +kernel
theorem dX0_stand_14 : decode cX0_stand 14 = .ok (.getfield 30, 3) := by decide +kernel
theorem dX0_stand_17 : decode cX0_stand 17 = .ok (.iload_n 2, 1) := by decide +kernel
theorem dX0_stand_18 : decode cX0_stand 18 = .ok (.iaload, 1) := by decide +kernel
theorem dX0_stand_19 : decode cX0_stand 19 = .ok (.ireturn, 1) := by decide +kernel
theorem dX0_stand_20 : decode cX0_stand 20 = .ok (.aload_n 1, 1) := by decide +kernel
theorem dX0_stand_21 : decode cX0_stand 21 = .ok (.getfield 119, 3) := by decide +kernel
theorem dX0_stand_24 : decode cX0_stand 24 = .ok (.astore 4, 2) := by decide +kernel
theorem dX0_stand_26 : decode cX0_stand 26 = .ok (.aload 4, 2) := by decide +kernel
theorem dX0_stand_28 : decode cX0_stand 28 = .ok (.iconst 0, 1) := by decide +kernel
theorem dX0_stand_29 : decode cX0_stand 29 = .ok (.iaload, 1) := by decide +kernel
theorem dX0_stand_30 : decode cX0_stand 30 = .ok (.aload 4, 2) := by decide +kernel
theorem dX0_stand_32 : decode cX0_stand 32 = .ok (.iconst 1, 1) := by decide +kernel
theorem dX0_stand_33 : decode cX0_stand 33 = .ok (.iaload, 1) := by decide +kernel
theorem dX0_stand_34 : decode cX0_stand 34 = .ok (.aload_n 0, 1) := by decide +kernel
theorem dX0_stand_35 : decode cX0_stand 35 = .ok (.getfield 18, 3) := by decide +kernel
theorem dX0_stand_38 : decode cX0_stand 38 = .ok (.iload_n 2, 1) := by decide +kernel
theorem dX0_stand_39 : decode cX0_stand 39 = .ok (.iaload, 1) := by decide +kernel
theorem dX0_stand_40 : decode cX0_stand 40 = .ok (.imul, 1) := by decide +kernel
theorem dX0_stand_41 : decode cX0_stand 41 = .ok (.iadd, 1) := by decide +kernel
theorem dX0_stand_42 : decode cX0_stand 42 = .ok (.aload 4, 2) := by decide +kernel
theorem dX0_stand_44 : decode cX0_stand 44 = .ok (.iconst 2, 1) := by decide +kernel
theorem dX0_stand_45 : decode cX0_stand 45 = .ok (.iaload, 1) := by decide +kernel
theorem dX0_stand_46 : decode cX0_stand 46 = .ok (.iload_n 3, 1) := by decide +kernel
theorem dX0_stand_47 : decode cX0_stand 47 = .ok (.imul, 1) := by decide +kernel
theorem dX0_stand_48 : decode cX0_stand 48 = .ok (.iadd, 1) := by decide +kernel
theorem dX0_stand_49 : decode cX0_stand 49 = .ok (.aload_n 0, 1) := by decide +kernel
theorem dX0_stand_50 : decode cX0_stand 50 = .ok (.getfield 30, 3) := by decide +kernel
theorem dX0_stand_53 : decode cX0_stand 53 = .ok (.iload_n 2, 1) := by decide +kernel
theorem dX0_stand_54 : decode cX0_stand 54 = .ok (.iaload, 1) := by decide +kernel
theorem dX0_stand_55 : decode cX0_stand 55 = .ok (.iadd, 1) := by decide +kernel
theorem dX0_stand_56 : decode cX0_stand 56 = .ok (.ireturn, 1) := by decide +kernel
theorem dX0_waitByRule_0 : decode cX0_waitByRule 0 = .ok (.iload_n 2, 1) := by decide +kernel
theorem dX0_waitByRule_1 : decode cX0_waitByRule 1 = .ok (.iload_n 3, 1) := by decide +kernel
theorem dX0_waitByRule_2 : decode cX0_waitByRule 2 = .ok (.invokestatic 64, 3) := by decide +kernel
theorem dX0_waitByRule_5 : decode cX0_waitByRule 5 = .ok (.istore 4, 2) := by decide +kernel
theorem dX0_waitByRule_7 : decode cX0_waitByRule 7 = .ok (.aload_n 1, 1) := by decide +kernel
theorem dX0_waitByRule_8 : decode cX0_waitByRule 8 = .ok (.iload_n 3, 1) := by decide +kernel
theorem dX0_waitByRule_9 : decode cX0_waitByRule 9 = .ok (.aload_n 0, 1) := by decide +kernel
theorem dX0_waitByRule_10 : decode cX0_waitByRule 10 = .ok (.getfield 9, 3) := by decide +kernel
theorem dX0_waitByRule_13 : decode cX0_waitByRule 13 = .ok (.iload_n 2, 1) := by decide +kernel
theorem dX0_waitByRule_14 : decode cX0_waitByRule 14 = .ok (.iconst 0, 1) := by decide +kernel
theorem dX0_waitByRule_15 : decode cX0_waitByRule 15 = .ok (.invokestatic 64, 3) := by decide +kernel
theorem dX0_waitByRule_18 : decode cX0_waitByRule 18 = .ok (.iaload, 1) := by decide +kernel
theorem dX0_waitByRule_19 : decode cX0_waitByRule 19 = .ok (.aload_n 0, 1) := by decide +kernel
theorem dX0_waitByRule_20 : decode cX0_waitByRule 20 = .ok (.getfield 88, 3) := by decide +kernel
theorem dX0_waitByRule_23 : decode cX0_waitByRule 23 = .ok (.invokevirtual 167, 3) := by decide +kernel
theorem dX0_waitByRule_26 : decode cX0_waitByRule 26 = .ok (.istore 5, 2) := by decide +kernel
theorem dX0_waitByRule_28 : decode cX0_waitByRule 28 = .ok (.aload_n 0, 1) := by decide +kernel
theorem dX0_waitByRule_29 : decode cX0_waitByRule 29 = .ok (.getfield 15, 3) := by decide +kernel
theorem dX0_waitByRule_32 : decode cX0_waitByRule 32 = .ok (.iload 4, 2) := by decide +kernel
theorem dX0_waitByRule_34 : decode cX0_waitByRule 34 = .ok (.aload_n 0, 1) := by decide +kernel
theorem dX0_waitByRule_35 : decode cX0_waitByRule 35 = .ok (.getfield 15, 3) := by decide +kernel
theorem dX0_waitByRule_38 : decode cX0_waitByRule 38 = .ok (.iload 4, 2) := by decide +kernel
theorem dX0_waitByRule_40 : decode cX0_waitByRule 40 = .ok (.iaload, 1) := by decide +kernel
theorem dX0_waitByRule_41 : decode cX0_waitByRule 41 = .ok (.iload 5, 2) := by decide +kernel
theorem dX0_waitByRule_43 : decode cX0_waitByRule 43 = .ok (.invokestatic 122, 3) := by decide +kernel
theorem dX0_waitByRule_46 : decode cX0_waitByRule 46 = .ok (.iastore, 1) := by decide +kernel
theorem dX0_waitByRule_47 : decode cX0_waitByRule 47 = .ok (.aload_n 0, 1) := by decide +kernel
theorem dX0_waitByRule_48 : decode cX0_waitByRule 48 = .ok (.aload_n 0, 1) := by decide +kernel
theorem dX0_waitByRule_49 : decode cX0_waitByRule 49 = .ok (.getfield 88, 3) := by decide +kernel
theorem dX0_waitByRule_52 : decode cX0_waitByRule 52 = .ok (.aload_n 0, 1) := by decide +kernel
theorem dX0_waitByRule_53 : decode cX0_waitByRule 53 = .ok (.getfield 15, 3) := by decide +kernel
theorem dX0_waitByRule_56 : decode cX0_waitByRule 56 = .ok (.iload 4, 2) := by decide +kernel
theorem dX0_waitByRule_58 : decode cX0_waitByRule 58 = .ok (.iaload, 1) := by decide +kernel
theorem dX0_waitByRule_59 : decode cX0_waitByRule 59 = .ok (.invokestatic 122, 3) := by decide +kernel
theorem dX0_waitByRule_62 : decode cX0_waitByRule 62 = .ok (.putfield 88, 3) := by decide +kernel
theorem dX0_waitByRule_65 : decode cX0_waitByRule 65 = .ok (.return_, 1) := by decide +kernel
theorem dX0_tellVisit_0 : decode cX0_tellVisit 0 = .ok (.iload_n 2, 1) := by decide +kernel
theorem dX0_tellVisit_1 : decode cX0_tellVisit 1 = .ok (.tableswitch 70 0 4 #[35, 42, 49, 56, 63], 35) := by decide +kernel
theorem dX0_tellVisit_36 : decode cX0_tellVisit 36 = .ok (.aload_n 0, 1) := by decide +kernel
theorem dX0_tellVisit_37 : decode cX0_tellVisit 37 = .ok (.getfield 9, 3) := by decide +kernel
theorem dX0_tellVisit_40 : decode cX0_tellVisit 40 = .ok (.iload_n 1, 1) := by decide +kernel
theorem dX0_tellVisit_41 : decode cX0_tellVisit 41 = .ok (.iaload, 1) := by decide +kernel
theorem dX0_tellVisit_42 : decode cX0_tellVisit 42 = .ok (.ireturn, 1) := by decide +kernel
theorem dX0_tellVisit_43 : decode cX0_tellVisit 43 = .ok (.aload_n 0, 1) := by decide +kernel
theorem dX0_tellVisit_44 : decode cX0_tellVisit 44 = .ok (.getfield 15, 3) := by decide +kernel
theorem dX0_tellVisit_47 : decode cX0_tellVisit 47 = .ok (.iload_n 1, 1) := by decide +kernel
theorem dX0_tellVisit_48 : decode cX0_tellVisit 48 = .ok (.iaload, 1) := by decide +kernel
theorem dX0_tellVisit_49 : decode cX0_tellVisit 49 = .ok (.ireturn, 1) := by decide +kernel
theorem dX0_tellVisit_50 : decode cX0_tellVisit 50 = .ok (.aload_n 0, 1) := by decide +kernel
theorem dX0_tellVisit_51 : decode cX0_tellVisit 51 = .ok (.getfield 18, 3) := by decide +kernel
theorem dX0_tellVisit_54 : decode cX0_tellVisit 54 = .ok (.iload_n 1, 1) := by decide +kernel
theorem dX0_tellVisit_55 : decode cX0_tellVisit 55 = .ok (.iaload, 1) := by decide +kernel
theorem dX0_tellVisit_56 : decode cX0_tellVisit 56 = .ok (.ireturn, 1) := by decide +kernel
theorem dX0_tellVisit_57 : decode cX0_tellVisit 57 = .ok (.aload_n 0, 1) := by decide +kernel
theorem dX0_tellVisit_58 : decode cX0_tellVisit 58 = .ok (.getfield 21, 3) := by decide +kernel
theorem dX0_tellVisit_61 : decode cX0_tellVisit 61 = .ok (.iload_n 1, 1) := by decide +kernel
theorem dX0_tellVisit_62 : decode cX0_tellVisit 62 = .ok (.iaload, 1) := by decide +kernel
theorem dX0_tellVisit_63 : decode cX0_tellVisit 63 = .ok (.ireturn, 1) := by decide +kernel
theorem dX0_tellVisit_64 : decode cX0_tellVisit 64 = .ok (.aload_n 0, 1) := by decide +kernel
theorem dX0_tellVisit_65 : decode cX0_tellVisit 65 = .ok (.getfield 24, 3) := by decide +kernel
theorem dX0_tellVisit_68 : decode cX0_tellVisit 68 = .ok (.iload_n 1, 1) := by decide +kernel
theorem dX0_tellVisit_69 : decode cX0_tellVisit 69 = .ok (.iaload, 1) := by decide +kernel
theorem dX0_tellVisit_70 : decode cX0_tellVisit 70 = .ok (.ireturn, 1) := by decide +kernel
theorem dX0_tellVisit_71 : decode cX0_tellVisit 71 = .ok (.aload_n 0, 1) := by decide +kernel
theorem dX0_tellVisit_72 : decode cX0_tellVisit 72 = .ok (.getfield 27, 3) := by decide +kernel
theorem dX0_tellVisit_75 : decode cX0_tellVisit 75 = .ok (.iload_n 1, 1) := by decide +kernel
theorem dX0_tellVisit_76 : decode cX0_tellVisit 76 = .ok (.iaload, 1) := by decide +kernel
theorem dX0_tellVisit_77 : decode cX0_tellVisit 77 = .ok (.ireturn, 1) := by decide +kernel
theorem dX0_tellWaits_0 : decode cX0_tellWaits 0 = .ok (.iload_n 2, 1) := by decide +kernel
theorem dX0_tellWaits_1 : decode cX0_tellWaits 1 = .ok (.lookupswitch 42 #[(0, 27), (1, 34)], 27) := by decide +kernel
theorem dX0_tellWaits_28 : decode cX0_tellWaits 28 = .ok (.aload_n 0, 1) := by decide +kernel
theorem dX0_tellWaits_29 : decode cX0_tellWaits 29 = .ok (.getfield 33, 3) := by decide +kernel
theorem dX0_tellWaits_32 : decode cX0_tellWaits 32 = .ok (.iload_n 1, 1) := by decide +kernel
theorem dX0_tellWaits_33 : decode cX0_tellWaits 33 = .ok (.iaload, 1) := by decide +kernel
theorem dX0_tellWaits_34 : decode cX0_tellWaits 34 = .ok (.ireturn, 1) := by decide +kernel
theorem dX0_tellWaits_35 : decode cX0_tellWaits 35 = .ok (.aload_n 0, 1) := by decide +kernel
theorem dX0_tellWaits_36 : decode cX0_tellWaits 36 = .ok (.getfield 36, 3) := by decide +kernel
theorem dX0_tellWaits_39 : decode cX0_tellWaits 39 = .ok (.iload_n 1, 1) := by decide +kernel
theorem dX0_tellWaits_40 : decode cX0_tellWaits 40 = .ok (.laload, 1) := by decide +kernel
theorem dX0_tellWaits_41 : decode cX0_tellWaits 41 = .ok (.l2i, 1) := by decide +kernel
theorem dX0_tellWaits_42 : decode cX0_tellWaits 42 = .ok (.ireturn, 1) := by decide +kernel
theorem dX0_tellWaits_43 : decode cX0_tellWaits 43 = .ok (.aload_n 0, 1) := by decide +kernel
theorem dX0_tellWaits_44 : decode cX0_tellWaits 44 = .ok (.getfield 40, 3) := by decide +kernel
theorem dX0_tellWaits_47 : decode cX0_tellWaits 47 = .ok (.iload_n 1, 1) := by decide +kernel
theorem dX0_tellWaits_48 : decode cX0_tellWaits 48 = .ok (.iaload, 1) := by decide +kernel
theorem dX0_tellWaits_49 : decode cX0_tellWaits 49 = .ok (.ireturn, 1) := by decide +kernel
theorem dX0_sumOfWaits_0 : decode cX0_sumOfWaits 0 = .ok (.lconst 0, 1) := by decide +kernel
theorem dX0_sumOfWaits_1 : decode cX0_sumOfWaits 1 = .ok (.lstore_n 1, 1) := by decide +kernel
theorem dX0_sumOfWaits_2 : decode cX0_sumOfWaits 2 = .ok (.iconst 0, 1) := by decide +kernel
theorem dX0_sumOfWaits_3 : decode cX0_sumOfWaits 3 = .ok (.istore_n 3, 1) := by decide +kernel
theorem dX0_sumOfWaits_4 : decode cX0_sumOfWaits 4 = .ok (.iload_n 3, 1) := by decide +kernel
theorem dX0_sumOfWaits_5 : decode cX0_sumOfWaits 5 = .ok (.bipush 10, 2) := by decide +kernel
theorem dX0_sumOfWaits_7 : decode cX0_sumOfWaits 7 = .ok (.if_icmp .ge 18, 3) := by decide +kernel
theorem dX0_sumOfWaits_10 : decode cX0_sumOfWaits 10 = .ok (.lload_n 1, 1) := by decide +kernel
theorem dX0_sumOfWaits_11 : decode cX0_sumOfWaits 11 = .ok (.aload_n 0, 1) := by decide +kernel
theorem dX0_sumOfWaits_12 : decode cX0_sumOfWaits 12 = .ok (.getfield 36, 3) := by decide +kernel
theorem dX0_sumOfWaits_15 : decode cX0_sumOfWaits 15 = .ok (.iload_n 3, 1) := by decide +kernel
theorem dX0_sumOfWaits_16 : decode cX0_sumOfWaits 16 = .ok (.laload, 1) := by decide +kernel
theorem dX0_sumOfWaits_17 : decode cX0_sumOfWaits 17 = .ok (.ladd, 1) := by decide +kernel
theorem dX0_sumOfWaits_18 : decode cX0_sumOfWaits 18 = .ok (.lstore_n 1, 1) := by decide +kernel
theorem dX0_sumOfWaits_19 : decode cX0_sumOfWaits 19 = .ok (.iinc 3 1, 3) := by decide +kernel
theorem dX0_sumOfWaits_22 : decode cX0_sumOfWaits 22 = .ok (.goto (-18), 3) := by decide +kernel
theorem dX0_sumOfWaits_25 : decode cX0_sumOfWaits 25 = .ok (.lload_n 1, 1) := by decide +kernel
theorem dX0_sumOfWaits_26 : decode cX0_sumOfWaits 26 = .ok (.lreturn, 1) := by decide +kernel
theorem dX0_gapAhead_0 : decode cX0_gapAhead 0 = .ok (.aload_n 0, 1) := by decide +kernel
theorem dX0_gapAhead_1 : decode cX0_gapAhead 1 = .ok (.getfield 15, 3) := by decide +kernel
theorem dX0_gapAhead_4 : decode cX0_gapAhead 4 = .ok (.aload_n 0, 1) := by decide +kernel
theorem dX0_gapAhead_5 : decode cX0_gapAhead 5 = .ok (.getfield 43, 3) := by decide +kernel
theorem dX0_gapAhead_8 : decode cX0_gapAhead 8 = .ok (.iload_n 2, 1) := by decide +kernel
theorem dX0_gapAhead_9 : decode cX0_gapAhead 9 = .ok (.iaload, 1) := by decide +kernel
theorem dX0_gapAhead_10 : decode cX0_gapAhead 10 = .ok (.iload_n 1, 1) := by decide +kernel
theorem dX0_gapAhead_11 : decode cX0_gapAhead 11 = .ok (.invokestatic 64, 3) := by decide +kernel
theorem dX0_gapAhead_14 : decode cX0_gapAhead 14 = .ok (.iaload, 1) := by decide +kernel
theorem dX0_gapAhead_15 : decode cX0_gapAhead 15 = .ok (.aload_n 0, 1) := by decide +kernel
theorem dX0_gapAhead_16 : decode cX0_gapAhead 16 = .ok (.getfield 15, 3) := by decide +kernel
theorem dX0_gapAhead_19 : decode cX0_gapAhead 19 = .ok (.aload_n 0, 1) := by decide +kernel
theorem dX0_gapAhead_20 : decode cX0_gapAhead 20 = .ok (.getfield 43, 3) := by decide +kernel
theorem dX0_gapAhead_23 : decode cX0_gapAhead 23 = .ok (.iload_n 2, 1) := by decide +kernel
theorem dX0_gapAhead_24 : decode cX0_gapAhead 24 = .ok (.iconst 1, 1) := by decide +kernel
theorem dX0_gapAhead_25 : decode cX0_gapAhead 25 = .ok (.isub, 1) := by decide +kernel
theorem dX0_gapAhead_26 : decode cX0_gapAhead 26 = .ok (.iaload, 1) := by decide +kernel
theorem dX0_gapAhead_27 : decode cX0_gapAhead 27 = .ok (.iload_n 1, 1) := by decide +kernel
theorem dX0_gapAhead_28 : decode cX0_gapAhead 28 = .ok (.invokestatic 64, 3) := by decide +kernel
theorem dX0_gapAhead_31 : decode cX0_gapAhead 31 = .ok (.iaload, 1) := by decide +kernel
theorem dX0_gapAhead_32 : decode cX0_gapAhead 32 = .ok (.isub, 1) := by decide +kernel
theorem dX0_gapAhead_33 : decode cX0_gapAhead 33 = .ok (.ireturn, 1) := by decide +kernel
theorem dX0_sumOfGaps_0 : decode cX0_sumOfGaps 0 = .ok (.iconst 0, 1) := by decide +kernel
theorem dX0_sumOfGaps_1 : decode cX0_sumOfGaps 1 = .ok (.istore_n 3, 1) := by decide +kernel
theorem dX0_sumOfGaps_2 : decode cX0_sumOfGaps 2 = .ok (.iconst 1, 1) := by decide +kernel
theorem dX0_sumOfGaps_3 : decode cX0_sumOfGaps 3 = .ok (.istore 4, 2) := by decide +kernel
theorem dX0_sumOfGaps_5 : decode cX0_sumOfGaps 5 = .ok (.iload 4, 2) := by decide +kernel
theorem dX0_sumOfGaps_7 : decode cX0_sumOfGaps 7 = .ok (.iload_n 2, 1) := by decide +kernel
theorem dX0_sumOfGaps_8 : decode cX0_sumOfGaps 8 = .ok (.if_icmp .ge 19, 3) := by decide +kernel
theorem dX0_sumOfGaps_11 : decode cX0_sumOfGaps 11 = .ok (.iload_n 3, 1) := by decide +kernel
theorem dX0_sumOfGaps_12 : decode cX0_sumOfGaps 12 = .ok (.aload_n 0, 1) := by decide +kernel
theorem dX0_sumOfGaps_13 : decode cX0_sumOfGaps 13 = .ok (.iload_n 1, 1) := by decide +kernel
theorem dX0_sumOfGaps_14 : decode cX0_sumOfGaps 14 = .ok (.iload 4, 2) := by decide +kernel
theorem dX0_sumOfGaps_16 : decode cX0_sumOfGaps 16 = .ok (.invokevirtual 173, 3) := by decide +kernel
theorem dX0_sumOfGaps_19 : decode cX0_sumOfGaps 19 = .ok (.iadd, 1) := by decide +kernel
theorem dX0_sumOfGaps_20 : decode cX0_sumOfGaps 20 = .ok (.istore_n 3, 1) := by decide +kernel
theorem dX0_sumOfGaps_21 : decode cX0_sumOfGaps 21 = .ok (.iinc 4 1, 3) := by decide +kernel
theorem dX0_sumOfGaps_24 : decode cX0_sumOfGaps 24 = .ok (.goto (-19), 3) := by decide +kernel
theorem dX0_sumOfGaps_27 : decode cX0_sumOfGaps 27 = .ok (.iload_n 3, 1) := by decide +kernel
theorem dX0_sumOfGaps_28 : decode cX0_sumOfGaps 28 = .ok (.ireturn, 1) := by decide +kernel
