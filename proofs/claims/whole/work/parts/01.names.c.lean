theorem dX0_spreadOfGaps_0 : decode cX0_spreadOfGaps 0 = .ok (.aload_n 0, 1) := by decide +kernel
theorem dX0_spreadOfGaps_1 : decode cX0_spreadOfGaps 1 = .ok (.aload_n 1, 1) := by decide +kernel
theorem dX0_spreadOfGaps_2 : decode cX0_spreadOfGaps 2 = .ok (.iload_n 2, 1) := by decide +kernel
theorem dX0_spreadOfGaps_3 : decode cX0_spreadOfGaps 3 = .ok (.invokevirtual 176, 3) := by decide +kernel
theorem dX0_spreadOfGaps_6 : decode cX0_spreadOfGaps 6 = .ok (.istore_n 3, 1) := by decide +kernel
theorem dX0_spreadOfGaps_7 : decode cX0_spreadOfGaps 7 = .ok (.iload_n 3, 1) := by decide +kernel
theorem dX0_spreadOfGaps_8 : decode cX0_spreadOfGaps 8 = .ok (.iconst 2, 1) := by decide +kernel
theorem dX0_spreadOfGaps_9 : decode cX0_spreadOfGaps 9 = .ok (.if_icmp .ge 6, 3) := by decide +kernel
theorem dX0_spreadOfGaps_12 : decode cX0_spreadOfGaps 12 = .ok (.bipush (-6), 2) := by decide +kernel
theorem dX0_spreadOfGaps_14 : decode cX0_spreadOfGaps 14 = .ok (.ireturn, 1) := by decide +kernel
theorem dX0_spreadOfGaps_15 : decode cX0_spreadOfGaps 15 = .ok (.aload_n 0, 1) := by decide +kernel
theorem dX0_spreadOfGaps_16 : decode cX0_spreadOfGaps 16 = .ok (.iload_n 2, 1) := by decide +kernel
theorem dX0_spreadOfGaps_17 : decode cX0_spreadOfGaps 17 = .ok (.iconst 1, 1) := by decide +kernel
theorem dX0_spreadOfGaps_18 : decode cX0_spreadOfGaps 18 = .ok (.invokevirtual 173, 3) := by decide +kernel
theorem dX0_spreadOfGaps_21 : decode cX0_spreadOfGaps 21 = .ok (.istore 4, 2) := by decide +kernel
theorem dX0_spreadOfGaps_23 : decode cX0_spreadOfGaps 23 = .ok (.iload 4, 2) := by decide +kernel
theorem dX0_spreadOfGaps_25 : decode cX0_spreadOfGaps 25 = .ok (.istore 5, 2) := by decide +kernel
theorem dX0_spreadOfGaps_27 : decode cX0_spreadOfGaps 27 = .ok (.iconst 2, 1) := by decide +kernel
theorem dX0_spreadOfGaps_28 : decode cX0_spreadOfGaps 28 = .ok (.istore 6, 2) := by decide +kernel
theorem dX0_spreadOfGaps_30 : decode cX0_spreadOfGaps 30 = .ok (.iload 6, 2) := by decide +kernel
theorem dX0_spreadOfGaps_32 : decode cX0_spreadOfGaps 32 = .ok (.iload_n 3, 1) := by decide +kernel
theorem dX0_spreadOfGaps_33 : decode cX0_spreadOfGaps 33 = .ok (.if_icmp .ge 36, 3) := by decide +kernel
theorem dX0_spreadOfGaps_36 : decode cX0_spreadOfGaps 36 = .ok (.aload_n 0, 1) := by decide +kernel
theorem dX0_spreadOfGaps_37 : decode cX0_spreadOfGaps 37 = .ok (.iload_n 2, 1) := by decide +kernel
theorem dX0_spreadOfGaps_38 : decode cX0_spreadOfGaps 38 = .ok (.iload 6, 2) := by decide +kernel
theorem dX0_spreadOfGaps_40 : decode cX0_spreadOfGaps 40 = .ok (.invokevirtual 173, 3) := by decide +kernel
theorem dX0_spreadOfGaps_43 : decode cX0_spreadOfGaps 43 = .ok (.istore 7, 2) := by decide +kernel
theorem dX0_spreadOfGaps_45 : decode cX0_spreadOfGaps 45 = .ok (.iload 4, 2) := by decide +kernel
theorem dX0_spreadOfGaps_47 : decode cX0_spreadOfGaps 47 = .ok (.iload 7, 2) := by decide +kernel
theorem dX0_spreadOfGaps_49 : decode cX0_spreadOfGaps 49 = .ok (.invokestatic 122, 3) := by decide +kernel
theorem dX0_spreadOfGaps_52 : decode cX0_spreadOfGaps 52 = .ok (.istore 4, 2) := by decide +kernel
theorem dX0_spreadOfGaps_54 : decode cX0_spreadOfGaps 54 = .ok (.iload 5, 2) := by decide +kernel
theorem dX0_spreadOfGaps_56 : decode cX0_spreadOfGaps 56 = .ok (.iload 7, 2) := by decide +kernel
theorem dX0_spreadOfGaps_58 : decode cX0_spreadOfGaps 58 = .ok (.invokestatic 155, 3) := by decide +kernel
theorem dX0_spreadOfGaps_61 : decode cX0_spreadOfGaps 61 = .ok (.istore 5, 2) := by decide +kernel
theorem dX0_spreadOfGaps_63 : decode cX0_spreadOfGaps 63 = .ok (.iinc 6 1, 3) := by decide +kernel
theorem dX0_spreadOfGaps_66 : decode cX0_spreadOfGaps 66 = .ok (.goto (-36), 3) := by decide +kernel
theorem dX0_spreadOfGaps_69 : decode cX0_spreadOfGaps 69 = .ok (.iload 4, 2) := by decide +kernel
theorem dX0_spreadOfGaps_71 : decode cX0_spreadOfGaps 71 = .ok (.iload 5, 2) := by decide +kernel
theorem dX0_spreadOfGaps_73 : decode cX0_spreadOfGaps 73 = .ok (.isub, 1) := by decide +kernel
theorem dX0_spreadOfGaps_74 : decode cX0_spreadOfGaps 74 = .ok (.ireturn, 1) := by decide +kernel
theorem dX0_firstCloseStop_0 : decode cX0_firstCloseStop 0 = .ok (.iconst 0, 1) := by decide +kernel
theorem dX0_firstCloseStop_1 : decode cX0_firstCloseStop 1 = .ok (.istore_n 2, 1) := by decide +kernel
theorem dX0_firstCloseStop_2 : decode cX0_firstCloseStop 2 = .ok (.iload_n 2, 1) := by decide +kernel
theorem dX0_firstCloseStop_3 : decode cX0_firstCloseStop 3 = .ok (.bipush 9, 2) := by decide +kernel
theorem dX0_firstCloseStop_5 : decode cX0_firstCloseStop 5 = .ok (.if_icmp .ge 22, 3) := by decide +kernel
theorem dX0_firstCloseStop_8 : decode cX0_firstCloseStop 8 = .ok (.aload_n 0, 1) := by decide +kernel
theorem dX0_firstCloseStop_9 : decode cX0_firstCloseStop 9 = .ok (.aload_n 1, 1) := by decide +kernel
theorem dX0_firstCloseStop_10 : decode cX0_firstCloseStop 10 = .ok (.iload_n 2, 1) := by decide +kernel
theorem dX0_firstCloseStop_11 : decode cX0_firstCloseStop 11 = .ok (.invokevirtual 179, 3) := by decide +kernel
theorem dX0_firstCloseStop_14 : decode cX0_firstCloseStop 14 = .ok (.bipush (-6), 2) := by decide +kernel
theorem dX0_firstCloseStop_16 : decode cX0_firstCloseStop 16 = .ok (.if_icmp .eq 5, 3) := by decide +kernel
theorem dX0_firstCloseStop_19 : decode cX0_firstCloseStop 19 = .ok (.iload_n 2, 1) := by decide +kernel
theorem dX0_firstCloseStop_20 : decode cX0_firstCloseStop 20 = .ok (.ireturn, 1) := by decide +kernel
theorem dX0_firstCloseStop_21 : decode cX0_firstCloseStop 21 = .ok (.iinc 2 1, 3) := by decide +kernel
theorem dX0_firstCloseStop_24 : decode cX0_firstCloseStop 24 = .ok (.goto (-22), 3) := by decide +kernel
theorem dX0_firstCloseStop_27 : decode cX0_firstCloseStop 27 = .ok (.bipush (-6), 2) := by decide +kernel
theorem dX0_firstCloseStop_29 : decode cX0_firstCloseStop 29 = .ok (.ireturn, 1) := by decide +kernel
theorem dX0_firstCloseBus_0 : decode cX0_firstCloseBus 0 = .ok (.aload_n 0, 1) := by decide +kernel
theorem dX0_firstCloseBus_1 : decode cX0_firstCloseBus 1 = .ok (.aload_n 1, 1) := by decide +kernel
theorem dX0_firstCloseBus_2 : decode cX0_firstCloseBus 2 = .ok (.iload_n 2, 1) := by decide +kernel
theorem dX0_firstCloseBus_3 : decode cX0_firstCloseBus 3 = .ok (.invokevirtual 176, 3) := by decide +kernel
theorem dX0_firstCloseBus_6 : decode cX0_firstCloseBus 6 = .ok (.istore_n 3, 1) := by decide +kernel
theorem dX0_firstCloseBus_7 : decode cX0_firstCloseBus 7 = .ok (.iconst 1, 1) := by decide +kernel
theorem dX0_firstCloseBus_8 : decode cX0_firstCloseBus 8 = .ok (.istore 4, 2) := by decide +kernel
theorem dX0_firstCloseBus_10 : decode cX0_firstCloseBus 10 = .ok (.iload 4, 2) := by decide +kernel
theorem dX0_firstCloseBus_12 : decode cX0_firstCloseBus 12 = .ok (.iload_n 3, 1) := by decide +kernel
theorem dX0_firstCloseBus_13 : decode cX0_firstCloseBus 13 = .ok (.if_icmp .ge 33, 3) := by decide +kernel
theorem dX0_firstCloseBus_16 : decode cX0_firstCloseBus 16 = .ok (.aload_n 0, 1) := by decide +kernel
theorem dX0_firstCloseBus_17 : decode cX0_firstCloseBus 17 = .ok (.iload_n 2, 1) := by decide +kernel
theorem dX0_firstCloseBus_18 : decode cX0_firstCloseBus 18 = .ok (.iload 4, 2) := by decide +kernel
theorem dX0_firstCloseBus_20 : decode cX0_firstCloseBus 20 = .ok (.invokevirtual 173, 3) := by decide +kernel
theorem dX0_firstCloseBus_23 : decode cX0_firstCloseBus 23 = .ok (.aload_n 1, 1) := by decide +kernel
theorem dX0_firstCloseBus_24 : decode cX0_firstCloseBus 24 = .ok (.getfield 119, 3) := by decide +kernel
theorem dX0_firstCloseBus_27 : decode cX0_firstCloseBus 27 = .ok (.iconst 4, 1) := by decide +kernel
theorem dX0_firstCloseBus_28 : decode cX0_firstCloseBus 28 = .ok (.iaload, 1) := by decide +kernel
theorem dX0_firstCloseBus_29 : decode cX0_firstCloseBus 29 = .ok (.if_icmp .gt 11, 3) := by decide +kernel
theorem dX0_firstCloseBus_32 : decode cX0_firstCloseBus 32 = .ok (.aload_n 0, 1) := by decide +kernel
theorem dX0_firstCloseBus_33 : decode cX0_firstCloseBus 33 = .ok (.getfield 43, 3) := by decide +kernel
theorem dX0_firstCloseBus_36 : decode cX0_firstCloseBus 36 = .ok (.iload 4, 2) := by decide +kernel
theorem dX0_firstCloseBus_38 : decode cX0_firstCloseBus 38 = .ok (.iaload, 1) := by decide +kernel
theorem dX0_firstCloseBus_39 : decode cX0_firstCloseBus 39 = .ok (.ireturn, 1) := by decide +kernel
theorem dX0_firstCloseBus_40 : decode cX0_firstCloseBus 40 = .ok (.iinc 4 1, 3) := by decide +kernel
theorem dX0_firstCloseBus_43 : decode cX0_firstCloseBus 43 = .ok (.goto (-33), 3) := by decide +kernel
theorem dX0_firstCloseBus_46 : decode cX0_firstCloseBus 46 = .ok (.bipush (-6), 2) := by decide +kernel
theorem dX0_firstCloseBus_48 : decode cX0_firstCloseBus 48 = .ok (.ireturn, 1) := by decide +kernel
theorem dX0_nearestBus_0 : decode cX0_nearestBus 0 = .ok (.bipush (-6), 2) := by decide +kernel
theorem dX0_nearestBus_2 : decode cX0_nearestBus 2 = .ok (.istore 4, 2) := by decide +kernel
theorem dX0_nearestBus_4 : decode cX0_nearestBus 4 = .ok (.iconst 0, 1) := by decide +kernel
theorem dX0_nearestBus_5 : decode cX0_nearestBus 5 = .ok (.istore 5, 2) := by decide +kernel
theorem dX0_nearestBus_7 : decode cX0_nearestBus 7 = .ok (.iconst 0, 1) := by decide +kernel
theorem dX0_nearestBus_8 : decode cX0_nearestBus 8 = .ok (.istore 6, 2) := by decide +kernel
theorem dX0_nearestBus_10 : decode cX0_nearestBus 10 = .ok (.iload 6, 2) := by decide +kernel
theorem dX0_nearestBus_12 : decode cX0_nearestBus 12 = .ok (.aload_n 1, 1) := by decide +kernel
theorem dX0_nearestBus_13 : decode cX0_nearestBus 13 = .ok (.getfield 99, 3) := by decide +kernel
theorem dX0_nearestBus_16 : decode cX0_nearestBus 16 = .ok (.if_icmp .ge 59, 3) := by decide +kernel
theorem dX0_nearestBus_19 : decode cX0_nearestBus 19 = .ok (.aload_n 1, 1) := by decide +kernel
theorem dX0_nearestBus_20 : decode cX0_nearestBus 20 = .ok (.iload 6, 2) := by decide +kernel
theorem dX0_nearestBus_22 : decode cX0_nearestBus 22 = .ok (.iload_n 2, 1) := by decide +kernel
theorem dX0_nearestBus_23 : decode cX0_nearestBus 23 = .ok (.invokevirtual 102, 3) := by decide +kernel
theorem dX0_nearestBus_26 : decode cX0_nearestBus 26 = .ok (.ifCond .eq 43, 3) := by decide +kernel
theorem dX0_nearestBus_29 : decode cX0_nearestBus 29 = .ok (.aload_n 0, 1) := by decide +kernel
theorem dX0_nearestBus_30 : decode cX0_nearestBus 30 = .ok (.getfield 9, 3) := by decide +kernel
theorem dX0_nearestBus_33 : decode cX0_nearestBus 33 = .ok (.iload 6, 2) := by decide +kernel
theorem dX0_nearestBus_35 : decode cX0_nearestBus 35 = .ok (.iload_n 2, 1) := by decide +kernel
theorem dX0_nearestBus_36 : decode cX0_nearestBus 36 = .ok (.invokestatic 64, 3) := by decide +kernel
theorem dX0_nearestBus_39 : decode cX0_nearestBus 39 = .ok (.iaload, 1) := by decide +kernel
theorem dX0_nearestBus_40 : decode cX0_nearestBus 40 = .ok (.iload_n 3, 1) := by decide +kernel
theorem dX0_nearestBus_41 : decode cX0_nearestBus 41 = .ok (.if_icmp .le 28, 3) := by decide +kernel
theorem dX0_nearestBus_44 : decode cX0_nearestBus 44 = .ok (.aload_n 0, 1) := by decide +kernel
theorem dX0_nearestBus_45 : decode cX0_nearestBus 45 = .ok (.iload 6, 2) := by decide +kernel
theorem dX0_nearestBus_47 : decode cX0_nearestBus 47 = .ok (.iload_n 2, 1) := by decide +kernel
theorem dX0_nearestBus_48 : decode cX0_nearestBus 48 = .ok (.iload_n 3, 1) := by decide +kernel
theorem dX0_nearestBus_49 : decode cX0_nearestBus 49 = .ok (.invokevirtual 182, 3) := by decide +kernel
theorem dX0_nearestBus_52 : decode cX0_nearestBus 52 = .ok (.istore 7, 2) := by decide +kernel
theorem dX0_nearestBus_54 : decode cX0_nearestBus 54 = .ok (.iload 7, 2) := by decide +kernel
theorem dX0_nearestBus_56 : decode cX0_nearestBus 56 = .ok (.iload 5, 2) := by decide +kernel
theorem dX0_nearestBus_58 : decode cX0_nearestBus 58 = .ok (.if_icmp .le 11, 3) := by decide +kernel
theorem dX0_nearestBus_61 : decode cX0_nearestBus 61 = .ok (.iload 7, 2) := by decide +kernel
theorem dX0_nearestBus_63 : decode cX0_nearestBus 63 = .ok (.istore 5, 2) := by decide +kernel
theorem dX0_nearestBus_65 : decode cX0_nearestBus 65 = .ok (.iload 6, 2) := by decide +kernel
theorem dX0_nearestBus_67 : decode cX0_nearestBus 67 = .ok (.istore 4, 2) := by decide +kernel
theorem dX0_nearestBus_69 : decode cX0_nearestBus 69 = .ok (.iinc 6 1, 3) := by decide +kernel
theorem dX0_nearestBus_72 : decode cX0_nearestBus 72 = .ok (.goto (-62), 3) := by decide +kernel
theorem dX0_nearestBus_75 : decode cX0_nearestBus 75 = .ok (.iload 4, 2) := by decide +kernel
theorem dX0_nearestBus_77 : decode cX0_nearestBus 77 = .ok (.ireturn, 1) := by decide +kernel
theorem dX0_stopsLeft_0 : decode cX0_stopsLeft 0 = .ok (.iconst 0, 1) := by decide +kernel
theorem dX0_stopsLeft_1 : decode cX0_stopsLeft 1 = .ok (.istore 4, 2) := by decide +kernel
theorem dX0_stopsLeft_3 : decode cX0_stopsLeft 3 = .ok (.iload 4, 2) := by decide +kernel
theorem dX0_stopsLeft_5 : decode cX0_stopsLeft 5 = .ok (.iload_n 2, 1) := by decide +kernel
theorem dX0_stopsLeft_6 : decode cX0_stopsLeft 6 = .ok (.if_icmp .ge 24, 3) := by decide +kernel
theorem dX0_stopsLeft_9 : decode cX0_stopsLeft 9 = .ok (.aload_n 0, 1) := by decide +kernel
theorem dX0_stopsLeft_10 : decode cX0_stopsLeft 10 = .ok (.getfield 15, 3) := by decide +kernel
theorem dX0_stopsLeft_13 : decode cX0_stopsLeft 13 = .ok (.iload_n 1, 1) := by decide +kernel
theorem dX0_stopsLeft_14 : decode cX0_stopsLeft 14 = .ok (.iload 4, 2) := by decide +kernel
theorem dX0_stopsLeft_16 : decode cX0_stopsLeft 16 = .ok (.invokestatic 64, 3) := by decide +kernel
theorem dX0_stopsLeft_19 : decode cX0_stopsLeft 19 = .ok (.iaload, 1) := by decide +kernel
theorem dX0_stopsLeft_20 : decode cX0_stopsLeft 20 = .ok (.iload_n 3, 1) := by decide +kernel
theorem dX0_stopsLeft_21 : decode cX0_stopsLeft 21 = .ok (.if_icmp .gt 9, 3) := by decide +kernel
theorem dX0_stopsLeft_24 : decode cX0_stopsLeft 24 = .ok (.iinc 4 1, 3) := by decide +kernel
theorem dX0_stopsLeft_27 : decode cX0_stopsLeft 27 = .ok (.goto (-24), 3) := by decide +kernel
theorem dX0_stopsLeft_30 : decode cX0_stopsLeft 30 = .ok (.iload 4, 2) := by decide +kernel
theorem dX0_stopsLeft_32 : decode cX0_stopsLeft 32 = .ok (.ireturn, 1) := by decide +kernel
theorem dX0_shownSeconds_0 : decode cX0_shownSeconds 0 = .ok (.aload_n 0, 1) := by decide +kernel
theorem dX0_shownSeconds_1 : decode cX0_shownSeconds 1 = .ok (.iload_n 2, 1) := by decide +kernel
theorem dX0_shownSeconds_2 : decode cX0_shownSeconds 2 = .ok (.iload_n 3, 1) := by decide +kernel
theorem dX0_shownSeconds_3 : decode cX0_shownSeconds 3 = .ok (.iload 4, 2) := by decide +kernel
theorem dX0_shownSeconds_5 : decode cX0_shownSeconds 5 = .ok (.invokevirtual 182, 3) := by decide +kernel
theorem dX0_shownSeconds_8 : decode cX0_shownSeconds 8 = .ok (.iconst 1, 1) := by decide +kernel
theorem dX0_shownSeconds_9 : decode cX0_shownSeconds 9 = .ok (.isub, 1) := by decide +kernel
theorem dX0_shownSeconds_10 : decode cX0_shownSeconds 10 = .ok (.istore 5, 2) := by decide +kernel
theorem dX0_shownSeconds_12 : decode cX0_shownSeconds 12 = .ok (.iload 5, 2) := by decide +kernel
theorem dX0_shownSeconds_14 : decode cX0_shownSeconds 14 = .ok (.ifCond .ge 5, 3) := by decide +kernel
theorem dX0_shownSeconds_17 : decode cX0_shownSeconds 17 = .ok (.iconst 0, 1) := by decide +kernel
theorem dX0_shownSeconds_18 : decode cX0_shownSeconds 18 = .ok (.ireturn, 1) := by decide +kernel
theorem dX0_shownSeconds_19 : decode cX0_shownSeconds 19 = .ok (.aload_n 0, 1) := by decide +kernel
theorem dX0_shownSeconds_20 : decode cX0_shownSeconds 20 = .ok (.getfield 15, 3) := by decide +kernel
theorem dX0_shownSeconds_23 : decode cX0_shownSeconds 23 = .ok (.iload_n 2, 1) := by decide +kernel
theorem dX0_shownSeconds_24 : decode cX0_shownSeconds 24 = .ok (.iload 5, 2) := by decide +kernel
theorem dX0_shownSeconds_26 : decode cX0_shownSeconds 26 = .ok (.invokestatic 64, 3) := by decide +kernel
theorem dX0_shownSeconds_29 : decode cX0_shownSeconds 29 = .ok (.iaload, 1) := by decide +kernel
theorem dX0_shownSeconds_30 : decode cX0_shownSeconds 30 = .ok (.istore 6, 2) := by decide +kernel
theorem dX0_shownSeconds_32 : decode cX0_shownSeconds 32 = .ok (.iload 5, 2) := by decide +kernel
theorem dX0_shownSeconds_34 : decode cX0_shownSeconds 34 = .ok (.istore 7, 2) := by decide +kernel
theorem dX0_shownSeconds_36 : decode cX0_shownSeconds 36 = .ok (.iload 7, 2) := by decide +kernel
theorem dX0_shownSeconds_38 : decode cX0_shownSeconds 38 = .ok (.iload_n 3, 1) := by decide +kernel
theorem dX0_shownSeconds_39 : decode cX0_shownSeconds 39 = .ok (.if_icmp .ge 21, 3) := by decide +kernel
theorem dX0_shownSeconds_42 : decode cX0_shownSeconds 42 = .ok (.iload 6, 2) := by decide +kernel
theorem dX0_shownSeconds_44 : decode cX0_shownSeconds 44 = .ok (.aload_n 1, 1) := by decide +kernel
theorem dX0_shownSeconds_45 : decode cX0_shownSeconds 45 = .ok (.getfield 109, 3) := by decide +kernel
theorem dX0_shownSeconds_48 : decode cX0_shownSeconds 48 = .ok (.iload 7, 2) := by decide +kernel
theorem dX0_shownSeconds_50 : decode cX0_shownSeconds 50 = .ok (.iaload, 1) := by decide +kernel
theorem dX0_shownSeconds_51 : decode cX0_shownSeconds 51 = .ok (.iadd, 1) := by decide +kernel
theorem dX0_shownSeconds_52 : decode cX0_shownSeconds 52 = .ok (.istore 6, 2) := by decide +kernel
theorem dX0_shownSeconds_54 : decode cX0_shownSeconds 54 = .ok (.iinc 7 1, 3) := by decide +kernel
theorem dX0_shownSeconds_57 : decode cX0_shownSeconds 57 = .ok (.goto (-21), 3) := by decide +kernel
theorem dX0_shownSeconds_60 : decode cX0_shownSeconds 60 = .ok (.iload 6, 2) := by decide +kernel
theorem dX0_shownSeconds_62 : decode cX0_shownSeconds 62 = .ok (.iload 4, 2) := by decide +kernel
theorem dX0_shownSeconds_64 : decode cX0_shownSeconds 64 = .ok (.isub, 1) := by decide +kernel
theorem dX0_shownSeconds_65 : decode cX0_shownSeconds 65 = .ok (.iconst 0, 1) := by decide +kernel
theorem dX0_shownSeconds_66 : decode cX0_shownSeconds 66 = .ok (.invokestatic 122, 3) := by decide +kernel
theorem dX0_shownSeconds_69 : decode cX0_shownSeconds 69 = .ok (.ireturn, 1) := by decide +kernel
theorem dX1_init_0 : decode cX1_init 0 = .ok (.aload_n 0, 1) := by decide +kernel
theorem dX1_init_1 : decode cX1_init 1 = .ok (.invokespecial 3, 3) := by decide +kernel
theorem dX1_init_4 : decode cX1_init 4 = .ok (.aload_n 0, 1) := by decide +kernel
theorem dX1_init_5 : decode cX1_init 5 = .ok (.bipush 10, 2) := by decide +kernel
theorem dX1_init_7 : decode cX1_init 7 = .ok (.newarray .int, 2) := by decide +kernel
theorem dX1_init_9 : decode cX1_init 9 = .ok (.putfield 9, 3) := by decide +kernel
theorem dX1_init_12 : decode cX1_init 12 = .ok (.aload_n 0, 1) := by decide +kernel
theorem dX1_init_13 : decode cX1_init 13 = .ok (.bipush 10, 2) := by decide +kernel
theorem dX1_init_15 : decode cX1_init 15 = .ok (.newarray .int, 2) := by decide +kernel
theorem dX1_init_17 : decode cX1_init 17 = .ok (.putfield 15, 3) := by decide +kernel
theorem dX1_init_20 : decode cX1_init 20 = .ok (.aload_n 0, 1) := by decide +kernel
theorem dX1_init_21 : decode cX1_init 21 = .ok (.bipush 10, 2) := by decide +kernel
theorem dX1_init_23 : decode cX1_init 23 = .ok (.newarray .int, 2) := by decide +kernel
theorem dX1_init_25 : decode cX1_init 25 = .ok (.putfield 18, 3) := by decide +kernel
theorem dX1_init_28 : decode cX1_init 28 = .ok (.aload_n 0, 1) := by decide +kernel
theorem dX1_init_29 : decode cX1_init 29 = .ok (.iconst 5, 1) := by decide +kernel
theorem dX1_init_30 : decode cX1_init 30 = .ok (.newarray .int, 2) := by decide +kernel
theorem dX1_init_32 : decode cX1_init 32 = .ok (.dup, 1) := by decide +kernel
theorem dX1_init_33 : decode cX1_init 33 = .ok (.iconst 0, 1) := by decide +kernel
theorem dX1_init_34 : decode cX1_init 34 = .ok (.bipush 8, 2) := by decide +kernel
theorem dX1_init_36 : decode cX1_init 36 = .ok (.iastore, 1) := by decide +kernel
theorem dX1_init_37 : decode cX1_init 37 = .ok (.dup, 1) := by decide +kernel
theorem dX1_init_38 : decode cX1_init 38 = .ok (.iconst 1, 1) := by decide +kernel
theorem dX1_init_39 : decode cX1_init 39 = .ok (.iconst 2, 1) := by decide +kernel
theorem dX1_init_40 : decode cX1_init 40 = .ok (.iastore, 1) := by decide +kernel
theorem dX1_init_41 : decode cX1_init 41 = .ok (.dup, 1) := by decide +kernel
theorem dX1_init_42 : decode cX1_init 42 = .ok (.iconst 2, 1) := by decide +kernel
theorem dX1_init_43 : decode cX1_init 43 = .ok (.iconst 1, 1) := by decide +kernel
theorem dX1_init_44 : decode cX1_init 44 = .ok (.iastore, 1) := by decide +kernel
theorem dX1_init_45 : decode cX1_init 45 = .ok (.dup, 1) := by decide +kernel
theorem dX1_init_46 : decode cX1_init 46 = .ok (.iconst 3, 1) := by decide +kernel
theorem dX1_init_47 : decode cX1_init 47 = .ok (.iconst 0, 1) := by decide +kernel
theorem dX1_init_48 : decode cX1_init 48 = .ok (.iastore, 1) := by decide +kernel
theorem dX1_init_49 : decode cX1_init 49 = .ok (.dup, 1) := by decide +kernel
theorem dX1_init_50 : decode cX1_init 50 = .ok (.iconst 4, 1) := by decide +kernel
theorem dX1_init_51 : decode cX1_init 51 = .ok (.bipush 30, 2) := by decide +kernel
theorem dX1_init_53 : decode cX1_init 53 = .ok (.iastore, 1) := by decide +kernel
theorem dX1_init_54 : decode cX1_init 54 = .ok (.putfield 21, 3) := by decide +kernel
theorem dX1_init_57 : decode cX1_init 57 = .ok (.aload_n 0, 1) := by decide +kernel
theorem dX1_init_58 : decode cX1_init 58 = .ok (.bipush 8, 2) := by decide +kernel
theorem dX1_init_60 : decode cX1_init 60 = .ok (.newarray .int, 2) := by decide +kernel
theorem dX1_init_62 : decode cX1_init 62 = .ok (.putfield 24, 3) := by decide +kernel
theorem dX1_init_65 : decode cX1_init 65 = .ok (.aload_n 0, 1) := by decide +kernel
theorem dX1_init_66 : decode cX1_init 66 = .ok (.bipush 8, 2) := by decide +kernel
theorem dX1_init_68 : decode cX1_init 68 = .ok (.newarray .int, 2) := by decide +kernel
theorem dX1_init_70 : decode cX1_init 70 = .ok (.putfield 27, 3) := by decide +kernel
theorem dX1_init_73 : decode cX1_init 73 = .ok (.aload_n 0, 1) := by decide +kernel
theorem dX1_init_74 : decode cX1_init 74 = .ok (.bipush 8, 2) := by decide +kernel
theorem dX1_init_76 : decode cX1_init 76 = .ok (.newarray .int, 2) := by decide +kernel
theorem dX1_init_78 : decode cX1_init 78 = .ok (.putfield 30, 3) := by decide +kernel
theorem dX1_init_81 : decode cX1_init 81 = .ok (.aload_n 0, 1) := by decide +kernel
theorem dX1_init_82 : decode cX1_init 82 = .ok (.bipush 10, 2) := by decide +kernel
theorem dX1_init_84 : decode cX1_init 84 = .ok (.newarray .int, 2) := by decide +kernel
theorem dX1_init_86 : decode cX1_init 86 = .ok (.putfield 33, 3) := by decide +kernel
theorem dX1_init_89 : decode cX1_init 89 = .ok (.aload_n 0, 1) := by decide +kernel
theorem dX1_init_90 : decode cX1_init 90 = .ok (.bipush 10, 2) := by decide +kernel
theorem dX1_init_92 : decode cX1_init 92 = .ok (.newarray .int, 2) := by decide +kernel
theorem dX1_init_94 : decode cX1_init 94 = .ok (.putfield 36, 3) := by decide +kernel
theorem dX1_init_97 : decode cX1_init 97 = .ok (.aload_n 0, 1) := by decide +kernel
theorem dX1_init_98 : decode cX1_init 98 = .ok (.bipush 10, 2) := by decide +kernel
theorem dX1_init_100 : decode cX1_init 100 = .ok (.newarray .int, 2) := by decide +kernel
theorem dX1_init_102 : decode cX1_init 102 = .ok (.putfield 39, 3) := by decide +kernel
theorem dX1_init_105 : decode cX1_init 105 = .ok (.aload_n 0, 1) := by decide +kernel
theorem dX1_init_106 : decode cX1_init 106 = .ok (.getfield 9, 3) := by decide +kernel
theorem dX1_init_109 : decode cX1_init 109 = .ok (.bipush 120, 2) := by decide +kernel
theorem dX1_init_111 : decode cX1_init 111 = .ok (.invokestatic 42, 3) := by decide +kernel
theorem dX1_init_114 : decode cX1_init 114 = .ok (.aload_n 0, 1) := by decide +kernel
theorem dX1_init_115 : decode cX1_init 115 = .ok (.getfield 18, 3) := by decide +kernel
theorem dX1_init_118 : decode cX1_init 118 = .ok (.iconst 3, 1) := by decide +kernel
theorem dX1_init_119 : decode cX1_init 119 = .ok (.invokestatic 42, 3) := by decide +kernel
theorem dX1_init_122 : decode cX1_init 122 = .ok (.return_, 1) := by decide +kernel
theorem dX1_allowsAtStop_0 : decode cX1_allowsAtStop 0 = .ok (.iload_n 0, 1) := by decide +kernel
theorem dX1_allowsAtStop_1 : decode cX1_allowsAtStop 1 = .ok (.tableswitch 86 0 2 #[27, 46, 69], 27) := by decide +kernel
theorem dX1_allowsAtStop_28 : decode cX1_allowsAtStop 28 = .ok (.iload_n 1, 1) := by decide +kernel
theorem dX1_allowsAtStop_29 : decode cX1_allowsAtStop 29 = .ok (.bipush 10, 2) := by decide +kernel
theorem dX1_allowsAtStop_31 : decode cX1_allowsAtStop 31 = .ok (.if_icmp .lt 14, 3) := by decide +kernel
theorem dX1_allowsAtStop_34 : decode cX1_allowsAtStop 34 = .ok (.iload_n 1, 1) := by decide +kernel
theorem dX1_allowsAtStop_35 : decode cX1_allowsAtStop 35 = .ok (.sipush 900, 3) := by decide +kernel
theorem dX1_allowsAtStop_38 : decode cX1_allowsAtStop 38 = .ok (.if_icmp .gt 7, 3) := by decide +kernel
theorem dX1_allowsAtStop_41 : decode cX1_allowsAtStop 41 = .ok (.iconst 1, 1) := by decide +kernel
theorem dX1_allowsAtStop_42 : decode cX1_allowsAtStop 42 = .ok (.goto 4, 3) := by decide +kernel
theorem dX1_allowsAtStop_45 : decode cX1_allowsAtStop 45 = .ok (.iconst 0, 1) := by decide +kernel
theorem dX1_allowsAtStop_46 : decode cX1_allowsAtStop 46 = .ok (.ireturn, 1) := by decide +kernel
theorem dX1_allowsAtStop_47 : decode cX1_allowsAtStop 47 = .ok (.iload_n 1, 1) := by decide +kernel
theorem dX1_allowsAtStop_48 : decode cX1_allowsAtStop 48 = .ok (.ifCond .eq 16, 3) := by decide +kernel
theorem dX1_allowsAtStop_51 : decode cX1_allowsAtStop 51 = .ok (.iload_n 1, 1) := by decide +kernel
theorem dX1_allowsAtStop_52 : decode cX1_allowsAtStop 52 = .ok (.bipush 10, 2) := by decide +kernel
theorem dX1_allowsAtStop_54 : decode cX1_allowsAtStop 54 = .ok (.if_icmp .lt 14, 3) := by decide +kernel
theorem dX1_allowsAtStop_57 : decode cX1_allowsAtStop 57 = .ok (.iload_n 1, 1) := by decide +kernel
theorem dX1_allowsAtStop_58 : decode cX1_allowsAtStop 58 = .ok (.sipush 900, 3) := by decide +kernel
theorem dX1_allowsAtStop_61 : decode cX1_allowsAtStop 61 = .ok (.if_icmp .gt 7, 3) := by decide +kernel
theorem dX1_allowsAtStop_64 : decode cX1_allowsAtStop 64 = .ok (.iconst 1, 1) := by decide +kernel
theorem dX1_allowsAtStop_65 : decode cX1_allowsAtStop 65 = .ok (.goto 4, 3) := by decide +kernel
theorem dX1_allowsAtStop_68 : decode cX1_allowsAtStop 68 = .ok (.iconst 0, 1) := by decide +kernel
theorem dX1_allowsAtStop_69 : decode cX1_allowsAtStop 69 = .ok (.ireturn, 1) := by decide +kernel
theorem dX1_allowsAtStop_70 : decode cX1_allowsAtStop 70 = .ok (.iload_n 1, 1) := by decide +kernel
theorem dX1_allowsAtStop_71 : decode cX1_allowsAtStop 71 = .ok (.iconst 1, 1) := by decide +kernel
theorem dX1_allowsAtStop_72 : decode cX1_allowsAtStop 72 = .ok (.if_icmp .lt 13, 3) := by decide +kernel
theorem dX1_allowsAtStop_75 : decode cX1_allowsAtStop 75 = .ok (.iload_n 1, 1) := by decide +kernel
theorem dX1_allowsAtStop_76 : decode cX1_allowsAtStop 76 = .ok (.bipush 9, 2) := by decide +kernel
theorem dX1_allowsAtStop_78 : decode cX1_allowsAtStop 78 = .ok (.if_icmp .gt 7, 3) := by decide +kernel
theorem dX1_allowsAtStop_81 : decode cX1_allowsAtStop 81 = .ok (.iconst 1, 1) := by decide +kernel
theorem dX1_allowsAtStop_82 : decode cX1_allowsAtStop 82 = .ok (.goto 4, 3) := by decide +kernel
theorem dX1_allowsAtStop_85 : decode cX1_allowsAtStop 85 = .ok (.iconst 0, 1) := by decide +kernel
theorem dX1_allowsAtStop_86 : decode cX1_allowsAtStop 86 = .ok (.ireturn, 1) := by decide +kernel
theorem dX1_allowsAtStop_87 : decode cX1_allowsAtStop 87 = .ok (.iconst 0, 1) := by decide +kernel
theorem dX1_allowsAtStop_88 : decode cX1_allowsAtStop 88 = .ok (.ireturn, 1) := by decide +kernel
theorem dX1_changeStop_0 : decode cX1_changeStop 0 = .ok (.iload_n 2, 1) := by decide +kernel
theorem dX1_changeStop_1 : decode cX1_changeStop 1 = .ok (.ifCond .ne 10, 3) := by decide +kernel
theorem dX1_changeStop_4 : decode cX1_changeStop 4 = .ok (.aload_n 0, 1) := by decide +kernel
theorem dX1_changeStop_5 : decode cX1_changeStop 5 = .ok (.getfield 9, 3) := by decide +kernel
theorem dX1_changeStop_8 : decode cX1_changeStop 8 = .ok (.goto 19, 3) := by decide +kernel
theorem dX1_changeStop_11 : decode cX1_changeStop 11 = .ok (.iload_n 2, 1) := by decide +kernel
theorem dX1_changeStop_12 : decode cX1_changeStop 12 = .ok (.iconst 1, 1) := by decide +kernel
theorem dX1_changeStop_13 : decode cX1_changeStop 13 = .ok (.if_icmp .ne 10, 3) := by decide +kernel
theorem dX1_changeStop_16 : decode cX1_changeStop 16 = .ok (.aload_n 0, 1) := by decide +kernel
theorem dX1_changeStop_17 : decode cX1_changeStop 17 = .ok (.getfield 15, 3) := by decide +kernel
theorem dX1_changeStop_20 : decode cX1_changeStop 20 = .ok (.goto 7, 3) := by decide +kernel
theorem dX1_changeStop_23 : decode cX1_changeStop 23 = .ok (.aload_n 0, 1) := by decide +kernel
theorem dX1_changeStop_24 : decode cX1_changeStop 24 = .ok (.getfield 18, 3) := by decide +kernel
theorem dX1_changeStop_27 : decode cX1_changeStop 27 = .ok (.astore 4, 2) := by decide +kernel
theorem dX1_changeStop_29 : decode cX1_changeStop 29 = .ok (.aload 4, 2) := by decide +kernel
theorem dX1_changeStop_31 : decode cX1_changeStop 31 = .ok (.iload_n 1, 1) := by decide +kernel
theorem dX1_changeStop_32 : decode cX1_changeStop 32 = .ok (.iaload, 1) := by decide +kernel
theorem dX1_changeStop_33 : decode cX1_changeStop 33 = .ok (.istore 5, 2) := by decide +kernel
theorem dX1_changeStop_35 : decode cX1_changeStop 35 = .ok (.aload 4, 2) := by decide +kernel
theorem dX1_changeStop_37 : decode cX1_changeStop 37 = .ok (.iload_n 1, 1) := by decide +kernel
theorem dX1_changeStop_38 : decode cX1_changeStop 38 = .ok (.iload_n 3, 1) := by decide +kernel
theorem dX1_changeStop_39 : decode cX1_changeStop 39 = .ok (.iastore, 1) := by decide +kernel
theorem dX1_changeStop_40 : decode cX1_changeStop 40 = .ok (.iload 5, 2) := by decide +kernel
theorem dX1_changeStop_42 : decode cX1_changeStop 42 = .ok (.ireturn, 1) := by decide +kernel
theorem dX1_earliestNewBus_0 : decode cX1_earliestNewBus 0 = .ok (.aload_n 0, 1) := by decide +kernel
theorem dX1_earliestNewBus_1 : decode cX1_earliestNewBus 1 = .ok (.getfield 48, 3) := by decide +kernel
theorem dX1_earliestNewBus_4 : decode cX1_earliestNewBus 4 = .ok (.ifCond .le 17, 3) := by decide +kernel
theorem dX1_earliestNewBus_7 : decode cX1_earliestNewBus 7 = .ok (.aload_n 0, 1) := by decide +kernel
theorem dX1_earliestNewBus_8 : decode cX1_earliestNewBus 8 = .ok (.getfield 24, 3) := by decide +kernel
theorem dX1_earliestNewBus_11 : decode cX1_earliestNewBus 11 = .ok (.aload_n 0, 1) := by decide +kernel
theorem dX1_earliestNewBus_12 : decode cX1_earliestNewBus 12 = .ok (.getfield 48, 3) := by decide +kernel
theorem dX1_earliestNewBus_15 : decode cX1_earliestNewBus 15 = .ok (.iconst 1, 1) := by decide +kernel
theorem dX1_earliestNewBus_16 : decode cX1_earliestNewBus 16 = .ok (.isub, 1) := by decide +kernel
theorem dX1_earliestNewBus_17 : decode cX1_earliestNewBus 17 = .ok (.iaload, 1) := by decide +kernel
theorem dX1_earliestNewBus_18 : decode cX1_earliestNewBus 18 = .ok (.goto 4, 3) := by decide +kernel
theorem dX1_earliestNewBus_21 : decode cX1_earliestNewBus 21 = .ok (.iconst 0, 1) := by decide +kernel
theorem dX1_earliestNewBus_22 : decode cX1_earliestNewBus 22 = .ok (.ireturn, 1) := by decide +kernel
theorem dX1_addBus_0 : decode cX1_addBus 0 = .ok (.aload_n 0, 1) := by decide +kernel
theorem dX1_addBus_1 : decode cX1_addBus 1 = .ok (.getfield 24, 3) := by decide +kernel
theorem dX1_addBus_4 : decode cX1_addBus 4 = .ok (.aload_n 0, 1) := by decide +kernel
theorem dX1_addBus_5 : decode cX1_addBus 5 = .ok (.getfield 48, 3) := by decide +kernel
theorem dX1_addBus_8 : decode cX1_addBus 8 = .ok (.iload_n 1, 1) := by decide +kernel
theorem dX1_addBus_9 : decode cX1_addBus 9 = .ok (.iastore, 1) := by decide +kernel
theorem dX1_addBus_10 : decode cX1_addBus 10 = .ok (.aload_n 0, 1) := by decide +kernel
theorem dX1_addBus_11 : decode cX1_addBus 11 = .ok (.getfield 27, 3) := by decide +kernel
theorem dX1_addBus_14 : decode cX1_addBus 14 = .ok (.aload_n 0, 1) := by decide +kernel
theorem dX1_addBus_15 : decode cX1_addBus 15 = .ok (.getfield 48, 3) := by decide +kernel
theorem dX1_addBus_18 : decode cX1_addBus 18 = .ok (.iload_n 2, 1) := by decide +kernel
theorem dX1_addBus_19 : decode cX1_addBus 19 = .ok (.iastore, 1) := by decide +kernel
theorem dX1_addBus_20 : decode cX1_addBus 20 = .ok (.aload_n 0, 1) := by decide +kernel
theorem dX1_addBus_21 : decode cX1_addBus 21 = .ok (.getfield 30, 3) := by decide +kernel
theorem dX1_addBus_24 : decode cX1_addBus 24 = .ok (.aload_n 0, 1) := by decide +kernel
theorem dX1_addBus_25 : decode cX1_addBus 25 = .ok (.getfield 48, 3) := by decide +kernel
theorem dX1_addBus_28 : decode cX1_addBus 28 = .ok (.bipush 9, 2) := by decide +kernel
theorem dX1_addBus_30 : decode cX1_addBus 30 = .ok (.iastore, 1) := by decide +kernel
theorem dX1_addBus_31 : decode cX1_addBus 31 = .ok (.aload_n 0, 1) := by decide +kernel
theorem dX1_addBus_32 : decode cX1_addBus 32 = .ok (.dup, 1) := by decide +kernel
theorem dX1_addBus_33 : decode cX1_addBus 33 = .ok (.getfield 48, 3) := by decide +kernel
theorem dX1_addBus_36 : decode cX1_addBus 36 = .ok (.iconst 1, 1) := by decide +kernel
theorem dX1_addBus_37 : decode cX1_addBus 37 = .ok (.iadd, 1) := by decide +kernel
theorem dX1_addBus_38 : decode cX1_addBus 38 = .ok (.putfield 48, 3) := by decide +kernel
theorem dX1_addBus_41 : decode cX1_addBus 41 = .ok (.aload_n 0, 1) := by decide +kernel
theorem dX1_addBus_42 : decode cX1_addBus 42 = .ok (.getfield 48, 3) := by decide +kernel
theorem dX1_addBus_45 : decode cX1_addBus 45 = .ok (.iconst 1, 1) := by decide +kernel
theorem dX1_addBus_46 : decode cX1_addBus 46 = .ok (.isub, 1) := by decide +kernel
theorem dX1_addBus_47 : decode cX1_addBus 47 = .ok (.ireturn, 1) := by decide +kernel
theorem dX1_addLateness_0 : decode cX1_addLateness 0 = .ok (.aload_n 0, 1) := by decide +kernel
theorem dX1_addLateness_1 : decode cX1_addLateness 1 = .ok (.getfield 33, 3) := by decide +kernel
theorem dX1_addLateness_4 : decode cX1_addLateness 4 = .ok (.aload_n 0, 1) := by decide +kernel
theorem dX1_addLateness_5 : decode cX1_addLateness 5 = .ok (.getfield 52, 3) := by decide +kernel
theorem dX1_addLateness_8 : decode cX1_addLateness 8 = .ok (.iload_n 1, 1) := by decide +kernel
theorem dX1_addLateness_9 : decode cX1_addLateness 9 = .ok (.iastore, 1) := by decide +kernel
theorem dX1_addLateness_10 : decode cX1_addLateness 10 = .ok (.aload_n 0, 1) := by decide +kernel
theorem dX1_addLateness_11 : decode cX1_addLateness 11 = .ok (.getfield 36, 3) := by decide +kernel
theorem dX1_addLateness_14 : decode cX1_addLateness 14 = .ok (.aload_n 0, 1) := by decide +kernel
theorem dX1_addLateness_15 : decode cX1_addLateness 15 = .ok (.getfield 52, 3) := by decide +kernel
theorem dX1_addLateness_18 : decode cX1_addLateness 18 = .ok (.iload_n 2, 1) := by decide +kernel
theorem dX1_addLateness_19 : decode cX1_addLateness 19 = .ok (.iastore, 1) := by decide +kernel
theorem dX1_addLateness_20 : decode cX1_addLateness 20 = .ok (.aload_n 0, 1) := by decide +kernel
theorem dX1_addLateness_21 : decode cX1_addLateness 21 = .ok (.getfield 39, 3) := by decide +kernel
theorem dX1_addLateness_24 : decode cX1_addLateness 24 = .ok (.aload_n 0, 1) := by decide +kernel
theorem dX1_addLateness_25 : decode cX1_addLateness 25 = .ok (.getfield 52, 3) := by decide +kernel
theorem dX1_addLateness_28 : decode cX1_addLateness 28 = .ok (.iload_n 3, 1) := by decide +kernel
theorem dX1_addLateness_29 : decode cX1_addLateness 29 = .ok (.iastore, 1) := by decide +kernel
theorem dX1_addLateness_30 : decode cX1_addLateness 30 = .ok (.aload_n 0, 1) := by decide +kernel
theorem dX1_addLateness_31 : decode cX1_addLateness 31 = .ok (.dup, 1) := by decide +kernel
theorem dX1_addLateness_32 : decode cX1_addLateness 32 = .ok (.getfield 52, 3) := by decide +kernel
theorem dX1_addLateness_35 : decode cX1_addLateness 35 = .ok (.iconst 1, 1) := by decide +kernel
theorem dX1_addLateness_36 : decode cX1_addLateness 36 = .ok (.iadd, 1) := by decide +kernel
theorem dX1_addLateness_37 : decode cX1_addLateness 37 = .ok (.putfield 52, 3) := by decide +kernel
theorem dX1_addLateness_40 : decode cX1_addLateness 40 = .ok (.aload_n 0, 1) := by decide +kernel
theorem dX1_addLateness_41 : decode cX1_addLateness 41 = .ok (.getfield 52, 3) := by decide +kernel
theorem dX1_addLateness_44 : decode cX1_addLateness 44 = .ok (.iconst 1, 1) := by decide +kernel
theorem dX1_addLateness_45 : decode cX1_addLateness 45 = .ok (.isub, 1) := by decide +kernel
theorem dX1_addLateness_46 : decode cX1_addLateness 46 = .ok (.ireturn, 1) := by decide +kernel
theorem dX1_hasBus_0 : decode cX1_hasBus 0 = .ok (.iload_n 1, 1) := by decide +kernel
theorem dX1_hasBus_1 : decode cX1_hasBus 1 = .ok (.ifCond .lt 15, 3) := by decide +kernel
theorem dX1_hasBus_4 : decode cX1_hasBus 4 = .ok (.iload_n 1, 1) := by decide +kernel
theorem dX1_hasBus_5 : decode cX1_hasBus 5 = .ok (.aload_n 0, 1) := by decide +kernel
theorem dX1_hasBus_6 : decode cX1_hasBus 6 = .ok (.getfield 48, 3) := by decide +kernel
theorem dX1_hasBus_9 : decode cX1_hasBus 9 = .ok (.if_icmp .ge 7, 3) := by decide +kernel
theorem dX1_hasBus_12 : decode cX1_hasBus 12 = .ok (.iconst 1, 1) := by decide +kernel
theorem dX1_hasBus_13 : decode cX1_hasBus 13 = .ok (.goto 4, 3) := by decide +kernel
theorem dX1_hasBus_16 : decode cX1_hasBus 16 = .ok (.iconst 0, 1) := by decide +kernel
theorem dX1_hasBus_17 : decode cX1_hasBus 17 = .ok (.ireturn, 1) := by decide +kernel
theorem dX1_comes_0 : decode cX1_comes 0 = .ok (.iload_n 2, 1) := by decide +kernel
theorem dX1_comes_1 : decode cX1_comes 1 = .ok (.aload_n 0, 1) := by decide +kernel
theorem dX1_comes_2 : decode cX1_comes 2 = .ok (.getfield 30, 3) := by decide +kernel
theorem dX1_comes_5 : decode cX1_comes 5 = .ok (.iload_n 1, 1) := by decide +kernel
theorem dX1_comes_6 : decode cX1_comes 6 = .ok (.iaload, 1) := by decide +kernel
theorem dX1_comes_7 : decode cX1_comes 7 = .ok (.if_icmp .gt 7, 3) := by decide +kernel
theorem dX1_comes_10 : decode cX1_comes 10 = .ok (.iconst 1, 1) := by decide +kernel
theorem dX1_comes_11 : decode cX1_comes 11 = .ok (.goto 4, 3) := by decide +kernel
theorem dX1_comes_14 : decode cX1_comes 14 = .ok (.iconst 0, 1) := by decide +kernel
theorem dX1_comes_15 : decode cX1_comes 15 = .ok (.ireturn, 1) := by decide +kernel
theorem dX1_goesOn_0 : decode cX1_goesOn 0 = .ok (.iload_n 2, 1) := by decide +kernel
theorem dX1_goesOn_1 : decode cX1_goesOn 1 = .ok (.aload_n 0, 1) := by decide +kernel
theorem dX1_goesOn_2 : decode cX1_goesOn 2 = .ok (.getfield 30, 3) := by decide +kernel
theorem dX1_goesOn_5 : decode cX1_goesOn 5 = .ok (.iload_n 1, 1) := by decide +kernel
theorem dX1_goesOn_6 : decode cX1_goesOn 6 = .ok (.iaload, 1) := by decide +kernel
theorem dX1_goesOn_7 : decode cX1_goesOn 7 = .ok (.if_icmp .ge 7, 3) := by decide +kernel
theorem dX1_goesOn_10 : decode cX1_goesOn 10 = .ok (.iconst 1, 1) := by decide +kernel
theorem dX1_goesOn_11 : decode cX1_goesOn 11 = .ok (.goto 4, 3) := by decide +kernel
theorem dX1_goesOn_14 : decode cX1_goesOn 14 = .ok (.iconst 0, 1) := by decide +kernel
theorem dX1_goesOn_15 : decode cX1_goesOn 15 = .ok (.ireturn, 1) := by decide +kernel
theorem dX1_goal_0 : decode cX1_goal 0 = .ok (.iload_n 1, 1) := by decide +kernel
theorem dX1_goal_1 : decode cX1_goal 1 = .ok (.aload_n 0, 1) := by decide +kernel
theorem dX1_goal_2 : decode cX1_goal 2 = .ok (.getfield 18, 3) := by decide +kernel
theorem dX1_goal_5 : decode cX1_goal 5 = .ok (.iload_n 1, 1) := by decide +kernel
theorem dX1_goal_6 : decode cX1_goal 6 = .ok (.iaload, 1) := by decide +kernel
theorem dX1_goal_7 : decode cX1_goal 7 = .ok (.iadd, 1) := by decide +kernel
theorem dX1_goal_8 : decode cX1_goal 8 = .ok (.bipush 9, 2) := by decide +kernel
theorem dX1_goal_10 : decode cX1_goal 10 = .ok (.invokestatic 55, 3) := by decide +kernel
theorem dX1_goal_13 : decode cX1_goal 13 = .ok (.ireturn, 1) := by decide +kernel
theorem dX1_come_0 : decode cX1_come 0 = .ok (.aload_n 0, 1) := by decide +kernel
theorem dX1_come_1 : decode cX1_come 1 = .ok (.getfield 15, 3) := by decide +kernel
theorem dX1_come_4 : decode cX1_come 4 = .ok (.iload_n 1, 1) := by decide +kernel
theorem dX1_come_5 : decode cX1_come 5 = .ok (.iaload, 1) := by decide +kernel
theorem dX1_come_6 : decode cX1_come 6 = .ok (.ifCond .le 14, 3) := by decide +kernel
theorem dX1_come_9 : decode cX1_come 9 = .ok (.iload_n 2, 1) := by decide +kernel
theorem dX1_come_10 : decode cX1_come 10 = .ok (.aload_n 0, 1) := by decide +kernel
theorem dX1_come_11 : decode cX1_come 11 = .ok (.getfield 15, 3) := by decide +kernel
theorem dX1_come_14 : decode cX1_come 14 = .ok (.iload_n 1, 1) := by decide +kernel
theorem dX1_come_15 : decode cX1_come 15 = .ok (.iaload, 1) := by decide +kernel
theorem dX1_come_16 : decode cX1_come 16 = .ok (.idiv, 1) := by decide +kernel
theorem dX1_come_17 : decode cX1_come 17 = .ok (.goto 4, 3) := by decide +kernel
theorem dX1_come_20 : decode cX1_come 20 = .ok (.iconst 0, 1) := by decide +kernel
theorem dX1_come_21 : decode cX1_come 21 = .ok (.ireturn, 1) := by decide +kernel
theorem dX2_init_0 : decode cX2_init 0 = .ok (.aload_n 0, 1) := by decide +kernel
theorem dX2_init_1 : decode cX2_init 1 = .ok (.invokespecial 3, 3) := by decide +kernel
theorem dX2_init_4 : decode cX2_init 4 = .ok (.aload_n 0, 1) := by decide +kernel
theorem dX2_init_5 : decode cX2_init 5 = .ok (.bipush 10, 2) := by decide +kernel
theorem dX2_init_7 : decode cX2_init 7 = .ok (.newarray .int, 2) := by decide +kernel
theorem dX2_init_9 : decode cX2_init 9 = .ok (.putfield 9, 3) := by decide +kernel
theorem dX2_init_12 : decode cX2_init 12 = .ok (.aload_n 0, 1) := by decide +kernel
theorem dX2_init_13 : decode cX2_init 13 = .ok (.bipush 10, 2) := by decide +kernel
theorem dX2_init_15 : decode cX2_init 15 = .ok (.newarray .int, 2) := by decide +kernel
theorem dX2_init_17 : decode cX2_init 17 = .ok (.putfield 15, 3) := by decide +kernel
theorem dX2_init_20 : decode cX2_init 20 = .ok (.return_, 1) := by decide +kernel
theorem dX2_clear_0 : decode cX2_clear 0 = .ok (.aload_n 0, 1) := by decide +kernel
theorem dX2_clear_1 : decode cX2_clear 1 = .ok (.getfield 9, 3) := by decide +kernel
theorem dX2_clear_4 : decode cX2_clear 4 = .ok (.iconst 0, 1) := by decide +kernel
theorem dX2_clear_5 : decode cX2_clear 5 = .ok (.invokestatic 18, 3) := by decide +kernel
theorem dX2_clear_8 : decode cX2_clear 8 = .ok (.aload_n 0, 1) := by decide +kernel
theorem dX2_clear_9 : decode cX2_clear 9 = .ok (.getfield 15, 3) := by decide +kernel
theorem dX2_clear_12 : decode cX2_clear 12 = .ok (.iconst 0, 1) := by decide +kernel
theorem dX2_clear_13 : decode cX2_clear 13 = .ok (.invokestatic 18, 3) := by decide +kernel
theorem dX2_clear_16 : decode cX2_clear 16 = .ok (.aload_n 0, 1) := by decide +kernel
theorem dX2_clear_17 : decode cX2_clear 17 = .ok (.iconst 0, 1) := by decide +kernel
theorem dX2_clear_18 : decode cX2_clear 18 = .ok (.putfield 24, 3) := by decide +kernel
theorem dX2_clear_21 : decode cX2_clear 21 = .ok (.return_, 1) := by decide +kernel
theorem dX2_keepOnlyGap_0 : decode cX2_keepOnlyGap 0 = .ok (.aload_n 0, 1) := by decide +kernel
theorem dX2_keepOnlyGap_1 : decode cX2_keepOnlyGap 1 = .ok (.invokevirtual 28, 3) := by decide +kernel
theorem dX2_keepOnlyGap_4 : decode cX2_keepOnlyGap 4 = .ok (.aload_n 0, 1) := by decide +kernel
theorem dX2_keepOnlyGap_5 : decode cX2_keepOnlyGap 5 = .ok (.getfield 9, 3) := by decide +kernel
theorem dX2_keepOnlyGap_8 : decode cX2_keepOnlyGap 8 = .ok (.iload_n 1, 1) := by decide +kernel
theorem dX2_keepOnlyGap_9 : decode cX2_keepOnlyGap 9 = .ok (.bipush 103, 2) := by decide +kernel
theorem dX2_keepOnlyGap_11 : decode cX2_keepOnlyGap 11 = .ok (.iastore, 1) := by decide +kernel
theorem dX2_keepOnlyGap_12 : decode cX2_keepOnlyGap 12 = .ok (.aload_n 0, 1) := by decide +kernel
theorem dX2_keepOnlyGap_13 : decode cX2_keepOnlyGap 13 = .ok (.getfield 15, 3) := by decide +kernel
theorem dX2_keepOnlyGap_16 : decode cX2_keepOnlyGap 16 = .ok (.iload_n 1, 1) := by decide +kernel
theorem dX2_keepOnlyGap_17 : decode cX2_keepOnlyGap 17 = .ok (.iload_n 2, 1) := by decide +kernel
theorem dX2_keepOnlyGap_18 : decode cX2_keepOnlyGap 18 = .ok (.iastore, 1) := by decide +kernel
theorem dX2_keepOnlyGap_19 : decode cX2_keepOnlyGap 19 = .ok (.aload_n 0, 1) := by decide +kernel
theorem dX2_keepOnlyGap_20 : decode cX2_keepOnlyGap 20 = .ok (.iconst 1, 1) := by decide +kernel
theorem dX2_keepOnlyGap_21 : decode cX2_keepOnlyGap 21 = .ok (.putfield 24, 3) := by decide +kernel
theorem dX2_keepOnlyGap_24 : decode cX2_keepOnlyGap 24 = .ok (.return_, 1) := by decide +kernel
theorem dX2_soonest_0 : decode cX2_soonest 0 = .ok (.aload_n 0, 1) := by decide +kernel
theorem dX2_soonest_1 : decode cX2_soonest 1 = .ok (.getfield 9, 3) := by decide +kernel
theorem dX2_soonest_4 : decode cX2_soonest 4 = .ok (.iload_n 1, 1) := by decide +kernel
theorem dX2_soonest_5 : decode cX2_soonest 5 = .ok (.iaload, 1) := by decide +kernel
theorem dX2_soonest_6 : decode cX2_soonest 6 = .ok (.bipush 99, 2) := by decide +kernel
theorem dX2_soonest_8 : decode cX2_soonest 8 = .ok (.if_icmp .ne 15, 3) := by decide +kernel
theorem dX2_soonest_11 : decode cX2_soonest 11 = .ok (.iload_n 2, 1) := by decide +kernel
theorem dX2_soonest_12 : decode cX2_soonest 12 = .ok (.bipush 10, 2) := by decide +kernel
theorem dX2_soonest_14 : decode cX2_soonest 14 = .ok (.aload_n 0, 1) := by decide +kernel
theorem dX2_soonest_15 : decode cX2_soonest 15 = .ok (.getfield 15, 3) := by decide +kernel
theorem dX2_soonest_18 : decode cX2_soonest 18 = .ok (.iload_n 1, 1) := by decide +kernel
theorem dX2_soonest_19 : decode cX2_soonest 19 = .ok (.iaload, 1) := by decide +kernel
theorem dX2_soonest_20 : decode cX2_soonest 20 = .ok (.imul, 1) := by decide +kernel
theorem dX2_soonest_21 : decode cX2_soonest 21 = .ok (.iadd, 1) := by decide +kernel
theorem dX2_soonest_22 : decode cX2_soonest 22 = .ok (.ireturn, 1) := by decide +kernel
theorem dX2_soonest_23 : decode cX2_soonest 23 = .ok (.aload_n 0, 1) := by decide +kernel
theorem dX2_soonest_24 : decode cX2_soonest 24 = .ok (.getfield 9, 3) := by decide +kernel
theorem dX2_soonest_27 : decode cX2_soonest 27 = .ok (.iload_n 1, 1) := by decide +kernel
theorem dX2_soonest_28 : decode cX2_soonest 28 = .ok (.iaload, 1) := by decide +kernel
theorem dX2_soonest_29 : decode cX2_soonest 29 = .ok (.bipush 103, 2) := by decide +kernel
theorem dX2_soonest_31 : decode cX2_soonest 31 = .ok (.if_icmp .ne 18, 3) := by decide +kernel
theorem dX2_soonest_34 : decode cX2_soonest 34 = .ok (.iload_n 3, 1) := by decide +kernel
theorem dX2_soonest_35 : decode cX2_soonest 35 = .ok (.bipush (-6), 2) := by decide +kernel
theorem dX2_soonest_37 : decode cX2_soonest 37 = .ok (.if_icmp .eq 12, 3) := by decide +kernel
theorem dX2_soonest_40 : decode cX2_soonest 40 = .ok (.iload_n 3, 1) := by decide +kernel
theorem dX2_soonest_41 : decode cX2_soonest 41 = .ok (.aload_n 0, 1) := by decide +kernel
theorem dX2_soonest_42 : decode cX2_soonest 42 = .ok (.getfield 15, 3) := by decide +kernel
theorem dX2_soonest_45 : decode cX2_soonest 45 = .ok (.iload_n 1, 1) := by decide +kernel
theorem dX2_soonest_46 : decode cX2_soonest 46 = .ok (.iaload, 1) := by decide +kernel
theorem dX2_soonest_47 : decode cX2_soonest 47 = .ok (.iadd, 1) := by decide +kernel
theorem dX2_soonest_48 : decode cX2_soonest 48 = .ok (.ireturn, 1) := by decide +kernel
theorem dX2_soonest_49 : decode cX2_soonest 49 = .ok (.iconst 0, 1) := by decide +kernel
theorem dX2_soonest_50 : decode cX2_soonest 50 = .ok (.ireturn, 1) := by decide +kernel
theorem dX3_init_0 : decode cX3_init 0 = .ok (.aload_n 0, 1) := by decide +kernel
theorem dX3_init_1 : decode cX3_init 1 = .ok (.invokespecial 3, 3) := by decide +kernel
theorem dX3_init_4 : decode cX3_init 4 = .ok (.aload_n 0, 1) := by decide +kernel
theorem dX3_init_5 : decode cX3_init 5 = .ok (.bipush 40, 2) := by decide +kernel
theorem dX3_init_7 : decode cX3_init 7 = .ok (.newarray .int, 2) := by decide +kernel
theorem dX3_init_9 : decode cX3_init 9 = .ok (.putfield 9, 3) := by decide +kernel
theorem dX3_init_12 : decode cX3_init 12 = .ok (.return_, 1) := by decide +kernel
theorem dX3_add_0 : decode cX3_add 0 = .ok (.aload_n 0, 1) := by decide +kernel
theorem dX3_add_1 : decode cX3_add 1 = .ok (.getfield 9, 3) := by decide +kernel
theorem dX3_add_4 : decode cX3_add 4 = .ok (.aload_n 0, 1) := by decide +kernel
theorem dX3_add_5 : decode cX3_add 5 = .ok (.getfield 15, 3) := by decide +kernel
theorem dX3_add_8 : decode cX3_add 8 = .ok (.iload_n 1, 1) := by decide +kernel
theorem dX3_add_9 : decode cX3_add 9 = .ok (.iastore, 1) := by decide +kernel
theorem dX3_add_10 : decode cX3_add 10 = .ok (.aload_n 0, 1) := by decide +kernel
theorem dX3_add_11 : decode cX3_add 11 = .ok (.dup, 1) := by decide +kernel
theorem dX3_add_12 : decode cX3_add 12 = .ok (.getfield 15, 3) := by decide +kernel
theorem dX3_add_15 : decode cX3_add 15 = .ok (.iconst 1, 1) := by decide +kernel
theorem dX3_add_16 : decode cX3_add 16 = .ok (.iadd, 1) := by decide +kernel
theorem dX3_add_17 : decode cX3_add 17 = .ok (.putfield 15, 3) := by decide +kernel
theorem dX3_add_20 : decode cX3_add 20 = .ok (.aload_n 0, 1) := by decide +kernel
theorem dX3_add_21 : decode cX3_add 21 = .ok (.getfield 15, 3) := by decide +kernel
theorem dX3_add_24 : decode cX3_add 24 = .ok (.ireturn, 1) := by decide +kernel
theorem dX3_readInto_0 : decode cX3_readInto 0 = .ok (.aload_n 1, 1) := by decide +kernel
theorem dX3_readInto_1 : decode cX3_readInto 1 = .ok (.invokevirtual 19, 3) := by decide +kernel
theorem dX3_readInto_4 : decode cX3_readInto 4 = .ok (.aload_n 0, 1) := by decide +kernel
theorem dX3_readInto_5 : decode cX3_readInto 5 = .ok (.bipush (-2), 2) := by decide +kernel
theorem dX3_readInto_7 : decode cX3_readInto 7 = .ok (.putfield 24, 3) := by decide +kernel
theorem dX3_readInto_10 : decode cX3_readInto 10 = .ok (.aload_n 0, 1) := by decide +kernel
theorem dX3_readInto_11 : decode cX3_readInto 11 = .ok (.iconst 0, 1) := by decide +kernel
theorem dX3_readInto_12 : decode cX3_readInto 12 = .ok (.putfield 27, 3) := by decide +kernel
theorem dX3_readInto_15 : decode cX3_readInto 15 = .ok (.iconst 0, 1) := by decide +kernel
theorem dX3_readInto_16 : decode cX3_readInto 16 = .ok (.istore_n 2, 1) := by decide +kernel
theorem dX3_readInto_17 : decode cX3_readInto 17 = .ok (.iload_n 2, 1) := by decide +kernel
theorem dX3_readInto_18 : decode cX3_readInto 18 = .ok (.aload_n 0, 1) := by decide +kernel
theorem dX3_readInto_19 : decode cX3_readInto 19 = .ok (.getfield 15, 3) := by decide +kernel
theorem dX3_readInto_22 : decode cX3_readInto 22 = .ok (.if_icmp .ge 25, 3) := by decide +kernel
theorem dX3_readInto_25 : decode cX3_readInto 25 = .ok (.aload_n 0, 1) := by decide +kernel
theorem dX3_readInto_26 : decode cX3_readInto 26 = .ok (.aload_n 0, 1) := by decide +kernel
theorem dX3_readInto_27 : decode cX3_readInto 27 = .ok (.getfield 9, 3) := by decide +kernel
theorem dX3_readInto_30 : decode cX3_readInto 30 = .ok (.iload_n 2, 1) := by decide +kernel
theorem dX3_readInto_31 : decode cX3_readInto 31 = .ok (.iaload, 1) := by decide +kernel
theorem dX3_readInto_32 : decode cX3_readInto 32 = .ok (.aload_n 1, 1) := by decide +kernel
theorem dX3_readInto_33 : decode cX3_readInto 33 = .ok (.invokevirtual 30, 3) := by decide +kernel
theorem dX3_readInto_36 : decode cX3_readInto 36 = .ok (.ifCond .ne 5, 3) := by decide +kernel
theorem dX3_readInto_39 : decode cX3_readInto 39 = .ok (.iload_n 2, 1) := by decide +kernel
theorem dX3_readInto_40 : decode cX3_readInto 40 = .ok (.ireturn, 1) := by decide +kernel
theorem dX3_readInto_41 : decode cX3_readInto 41 = .ok (.iinc 2 1, 3) := by decide +kernel
theorem dX3_readInto_44 : decode cX3_readInto 44 = .ok (.goto (-27), 3) := by decide +kernel
theorem dX3_readInto_47 : decode cX3_readInto 47 = .ok (.aload_n 0, 1) := by decide +kernel
theorem dX3_readInto_48 : decode cX3_readInto 48 = .ok (.getfield 24, 3) := by decide +kernel
theorem dX3_readInto_51 : decode cX3_readInto 51 = .ok (.iconst 1, 1) := by decide +kernel
theorem dX3_readInto_52 : decode cX3_readInto 52 = .ok (.if_icmp .ge 10, 3) := by decide +kernel
theorem dX3_readInto_55 : decode cX3_readInto 55 = .ok (.aload_n 0, 1) := by decide +kernel
theorem dX3_readInto_56 : decode cX3_readInto 56 = .ok (.getfield 15, 3) := by decide +kernel
theorem dX3_readInto_59 : decode cX3_readInto 59 = .ok (.goto 5, 3) := by decide +kernel
theorem dX3_readInto_62 : decode cX3_readInto 62 = .ok (.bipush (-6), 2) := by decide +kernel
theorem dX3_readInto_64 : decode cX3_readInto 64 = .ok (.ireturn, 1) := by decide +kernel
theorem dX3_reads_0 : decode cX3_reads 0 = .ok (.aload_n 0, 1) := by decide +kernel
theorem dX3_reads_1 : decode cX3_reads 1 = .ok (.getfield 24, 3) := by decide +kernel
theorem dX3_reads_4 : decode cX3_reads 4 = .ok (.bipush (-2), 2) := by decide +kernel
theorem dX3_reads_6 : decode cX3_reads 6 = .ok (.if_icmp .ne 10, 3) := by decide +kernel
theorem dX3_reads_9 : decode cX3_reads 9 = .ok (.aload_n 0, 1) := by decide +kernel
theorem dX3_reads_10 : decode cX3_reads 10 = .ok (.iload_n 1, 1) := by decide +kernel
theorem dX3_reads_11 : decode cX3_reads 11 = .ok (.aload_n 2, 1) := by decide +kernel
theorem dX3_reads_12 : decode cX3_reads 12 = .ok (.invokevirtual 34, 3) := by decide +kernel
theorem dX3_reads_15 : decode cX3_reads 15 = .ok (.ireturn, 1) := by decide +kernel
theorem dX3_reads_16 : decode cX3_reads 16 = .ok (.aload_n 0, 1) := by decide +kernel
theorem dX3_reads_17 : decode cX3_reads 17 = .ok (.getfield 24, 3) := by decide +kernel
theorem dX3_reads_20 : decode cX3_reads 20 = .ok (.iconst (-1), 1) := by decide +kernel
theorem dX3_reads_21 : decode cX3_reads 21 = .ok (.if_icmp .ne 10, 3) := by decide +kernel
theorem dX3_reads_24 : decode cX3_reads 24 = .ok (.aload_n 0, 1) := by decide +kernel
theorem dX3_reads_25 : decode cX3_reads 25 = .ok (.iload_n 1, 1) := by decide +kernel
theorem dX3_reads_26 : decode cX3_reads 26 = .ok (.aload_n 2, 1) := by decide +kernel
theorem dX3_reads_27 : decode cX3_reads 27 = .ok (.invokevirtual 37, 3) := by decide +kernel
theorem dX3_reads_30 : decode cX3_reads 30 = .ok (.ireturn, 1) := by decide +kernel
theorem dX3_reads_31 : decode cX3_reads 31 = .ok (.iload_n 1, 1) := by decide +kernel
theorem dX3_reads_32 : decode cX3_reads 32 = .ok (.bipush 59, 2) := by decide +kernel
theorem dX3_reads_34 : decode cX3_reads 34 = .ok (.if_icmp .ne 9, 3) := by decide +kernel
theorem dX3_reads_37 : decode cX3_reads 37 = .ok (.aload_n 0, 1) := by decide +kernel
theorem dX3_reads_38 : decode cX3_reads 38 = .ok (.aload_n 2, 1) := by decide +kernel
theorem dX3_reads_39 : decode cX3_reads 39 = .ok (.invokevirtual 40, 3) := by decide +kernel
theorem dX3_reads_42 : decode cX3_reads 42 = .ok (.ireturn, 1) := by decide +kernel
theorem dX3_reads_43 : decode cX3_reads 43 = .ok (.aload_n 0, 1) := by decide +kernel
theorem dX3_reads_44 : decode cX3_reads 44 = .ok (.iload_n 1, 1) := by decide +kernel
theorem dX3_reads_45 : decode cX3_reads 45 = .ok (.aload_n 2, 1) := by decide +kernel
theorem dX3_reads_46 : decode cX3_reads 46 = .ok (.invokevirtual 44, 3) := by decide +kernel
theorem dX3_reads_49 : decode cX3_reads 49 = .ok (.ireturn, 1) := by decide +kernel
theorem dX3_readsStop_0 : decode cX3_readsStop 0 = .ok (.iload_n 1, 1) := by decide +kernel
theorem dX3_readsStop_1 : decode cX3_readsStop 1 = .ok (.invokestatic 47, 3) := by decide +kernel
theorem dX3_readsStop_4 : decode cX3_readsStop 4 = .ok (.ifCond .eq 15, 3) := by decide +kernel
theorem dX3_readsStop_7 : decode cX3_readsStop 7 = .ok (.aload_n 2, 1) := by decide +kernel
theorem dX3_readsStop_8 : decode cX3_readsStop 8 = .ok (.getfield 51, 3) := by decide +kernel
theorem dX3_readsStop_11 : decode cX3_readsStop 11 = .ok (.iload_n 1, 1) := by decide +kernel
theorem dX3_readsStop_12 : decode cX3_readsStop 12 = .ok (.bipush 48, 2) := by decide +kernel
theorem dX3_readsStop_14 : decode cX3_readsStop 14 = .ok (.isub, 1) := by decide +kernel
theorem dX3_readsStop_15 : decode cX3_readsStop 15 = .ok (.iaload, 1) := by decide +kernel
theorem dX3_readsStop_16 : decode cX3_readsStop 16 = .ok (.ifCond .eq 5, 3) := by decide +kernel
theorem dX3_readsStop_19 : decode cX3_readsStop 19 = .ok (.iconst 0, 1) := by decide +kernel
theorem dX3_readsStop_20 : decode cX3_readsStop 20 = .ok (.ireturn, 1) := by decide +kernel
theorem dX3_readsStop_21 : decode cX3_readsStop 21 = .ok (.aload_n 0, 1) := by decide +kernel
theorem dX3_readsStop_22 : decode cX3_readsStop 22 = .ok (.iload_n 1, 1) := by decide +kernel
theorem dX3_readsStop_23 : decode cX3_readsStop 23 = .ok (.bipush 48, 2) := by decide +kernel
theorem dX3_readsStop_25 : decode cX3_readsStop 25 = .ok (.isub, 1) := by decide +kernel
theorem dX3_readsStop_26 : decode cX3_readsStop 26 = .ok (.putfield 27, 3) := by decide +kernel
theorem dX3_readsStop_29 : decode cX3_readsStop 29 = .ok (.aload_n 0, 1) := by decide +kernel
theorem dX3_readsStop_30 : decode cX3_readsStop 30 = .ok (.iconst (-1), 1) := by decide +kernel
theorem dX3_readsStop_31 : decode cX3_readsStop 31 = .ok (.putfield 24, 3) := by decide +kernel
theorem dX3_readsStop_34 : decode cX3_readsStop 34 = .ok (.iconst 1, 1) := by decide +kernel
theorem dX3_readsStop_35 : decode cX3_readsStop 35 = .ok (.ireturn, 1) := by decide +kernel
theorem dX3_readsLetter_0 : decode cX3_readsLetter 0 = .ok (.iload_n 1, 1) := by decide +kernel
theorem dX3_readsLetter_1 : decode cX3_readsLetter 1 = .ok (.bipush 99, 2) := by decide +kernel
theorem dX3_readsLetter_3 : decode cX3_readsLetter 3 = .ok (.if_icmp .eq 11, 3) := by decide +kernel
theorem dX3_readsLetter_6 : decode cX3_readsLetter 6 = .ok (.iload_n 1, 1) := by decide +kernel
theorem dX3_readsLetter_7 : decode cX3_readsLetter 7 = .ok (.bipush 103, 2) := by decide +kernel
theorem dX3_readsLetter_9 : decode cX3_readsLetter 9 = .ok (.if_icmp .eq 5, 3) := by decide +kernel
theorem dX3_readsLetter_12 : decode cX3_readsLetter 12 = .ok (.iconst 0, 1) := by decide +kernel
theorem dX3_readsLetter_13 : decode cX3_readsLetter 13 = .ok (.ireturn, 1) := by decide +kernel
theorem dX3_readsLetter_14 : decode cX3_readsLetter 14 = .ok (.aload_n 2, 1) := by decide +kernel
theorem dX3_readsLetter_15 : decode cX3_readsLetter 15 = .ok (.getfield 51, 3) := by decide +kernel
theorem dX3_readsLetter_18 : decode cX3_readsLetter 18 = .ok (.aload_n 0, 1) := by decide +kernel
theorem dX3_readsLetter_19 : decode cX3_readsLetter 19 = .ok (.getfield 27, 3) := by decide +kernel
theorem dX3_readsLetter_22 : decode cX3_readsLetter 22 = .ok (.iload_n 1, 1) := by decide +kernel
theorem dX3_readsLetter_23 : decode cX3_readsLetter 23 = .ok (.iastore, 1) := by decide +kernel
theorem dX3_readsLetter_24 : decode cX3_readsLetter 24 = .ok (.aload_n 2, 1) := by decide +kernel
theorem dX3_readsLetter_25 : decode cX3_readsLetter 25 = .ok (.dup, 1) := by decide +kernel
theorem dX3_readsLetter_26 : decode cX3_readsLetter 26 = .ok (.getfield 54, 3) := by decide +kernel
theorem dX3_readsLetter_29 : decode cX3_readsLetter 29 = .ok (.iconst 1, 1) := by decide +kernel
theorem dX3_readsLetter_30 : decode cX3_readsLetter 30 = .ok (.iadd, 1) := by decide +kernel
theorem dX3_readsLetter_31 : decode cX3_readsLetter 31 = .ok (.putfield 54, 3) := by decide +kernel
theorem dX3_readsLetter_34 : decode cX3_readsLetter 34 = .ok (.aload_n 0, 1) := by decide +kernel
theorem dX3_readsLetter_35 : decode cX3_readsLetter 35 = .ok (.iconst 0, 1) := by decide +kernel
theorem dX3_readsLetter_36 : decode cX3_readsLetter 36 = .ok (.putfield 24, 3) := by decide +kernel
theorem dX3_readsLetter_39 : decode cX3_readsLetter 39 = .ok (.iconst 1, 1) := by decide +kernel
theorem dX3_readsLetter_40 : decode cX3_readsLetter 40 = .ok (.ireturn, 1) := by decide +kernel
theorem dX3_readsDigit_0 : decode cX3_readsDigit 0 = .ok (.iload_n 1, 1) := by decide +kernel
theorem dX3_readsDigit_1 : decode cX3_readsDigit 1 = .ok (.invokestatic 47, 3) := by decide +kernel
theorem dX3_readsDigit_4 : decode cX3_readsDigit 4 = .ok (.ifCond .eq 11, 3) := by decide +kernel
theorem dX3_readsDigit_7 : decode cX3_readsDigit 7 = .ok (.aload_n 0, 1) := by decide +kernel
theorem dX3_readsDigit_8 : decode cX3_readsDigit 8 = .ok (.getfield 24, 3) := by decide +kernel
theorem dX3_readsDigit_11 : decode cX3_readsDigit 11 = .ok (.iconst 3, 1) := by decide +kernel
theorem dX3_readsDigit_12 : decode cX3_readsDigit 12 = .ok (.if_icmp .lt 5, 3) := by decide +kernel
theorem dX3_readsDigit_15 : decode cX3_readsDigit 15 = .ok (.iconst 0, 1) := by decide +kernel
theorem dX3_readsDigit_16 : decode cX3_readsDigit 16 = .ok (.ireturn, 1) := by decide +kernel
theorem dX3_readsDigit_17 : decode cX3_readsDigit 17 = .ok (.aload_n 2, 1) := by decide +kernel
theorem dX3_readsDigit_18 : decode cX3_readsDigit 18 = .ok (.getfield 57, 3) := by decide +kernel
theorem dX3_readsDigit_21 : decode cX3_readsDigit 21 = .ok (.aload_n 0, 1) := by decide +kernel
theorem dX3_readsDigit_22 : decode cX3_readsDigit 22 = .ok (.getfield 27, 3) := by decide +kernel
theorem dX3_readsDigit_25 : decode cX3_readsDigit 25 = .ok (.aload_n 2, 1) := by decide +kernel
theorem dX3_readsDigit_26 : decode cX3_readsDigit 26 = .ok (.getfield 57, 3) := by decide +kernel
theorem dX3_readsDigit_29 : decode cX3_readsDigit 29 = .ok (.aload_n 0, 1) := by decide +kernel
theorem dX3_readsDigit_30 : decode cX3_readsDigit 30 = .ok (.getfield 27, 3) := by decide +kernel
theorem dX3_readsDigit_33 : decode cX3_readsDigit 33 = .ok (.iaload, 1) := by decide +kernel
theorem dX3_readsDigit_34 : decode cX3_readsDigit 34 = .ok (.bipush 10, 2) := by decide +kernel
theorem dX3_readsDigit_36 : decode cX3_readsDigit 36 = .ok (.imul, 1) := by decide +kernel
theorem dX3_readsDigit_37 : decode cX3_readsDigit 37 = .ok (.iload_n 1, 1) := by decide +kernel
theorem dX3_readsDigit_38 : decode cX3_readsDigit 38 = .ok (.iadd, 1) := by decide +kernel
theorem dX3_readsDigit_39 : decode cX3_readsDigit 39 = .ok (.bipush 48, 2) := by decide +kernel
theorem dX3_readsDigit_41 : decode cX3_readsDigit 41 = .ok (.isub, 1) := by decide +kernel
theorem dX3_readsDigit_42 : decode cX3_readsDigit 42 = .ok (.iastore, 1) := by decide +kernel
theorem dX3_readsDigit_43 : decode cX3_readsDigit 43 = .ok (.aload_n 0, 1) := by decide +kernel
theorem dX3_readsDigit_44 : decode cX3_readsDigit 44 = .ok (.dup, 1) := by decide +kernel
theorem dX3_readsDigit_45 : decode cX3_readsDigit 45 = .ok (.getfield 24, 3) := by decide +kernel
theorem dX3_readsDigit_48 : decode cX3_readsDigit 48 = .ok (.iconst 1, 1) := by decide +kernel
theorem dX3_readsDigit_49 : decode cX3_readsDigit 49 = .ok (.iadd, 1) := by decide +kernel
theorem dX3_readsDigit_50 : decode cX3_readsDigit 50 = .ok (.putfield 24, 3) := by decide +kernel
theorem dX3_readsDigit_53 : decode cX3_readsDigit 53 = .ok (.iconst 1, 1) := by decide +kernel
theorem dX3_readsDigit_54 : decode cX3_readsDigit 54 = .ok (.ireturn, 1) := by decide +kernel
theorem dX3_readsBetween_0 : decode cX3_readsBetween 0 = .ok (.aload_n 0, 1) := by decide +kernel
theorem dX3_readsBetween_1 : decode cX3_readsBetween 1 = .ok (.getfield 24, 3) := by decide +kernel
theorem dX3_readsBetween_4 : decode cX3_readsBetween 4 = .ok (.iconst 1, 1) := by decide +kernel
theorem dX3_readsBetween_5 : decode cX3_readsBetween 5 = .ok (.if_icmp .lt 12, 3) := by decide +kernel
theorem dX3_readsBetween_8 : decode cX3_readsBetween 8 = .ok (.aload_n 1, 1) := by decide +kernel
theorem dX3_readsBetween_9 : decode cX3_readsBetween 9 = .ok (.getfield 54, 3) := by decide +kernel
theorem dX3_readsBetween_12 : decode cX3_readsBetween 12 = .ok (.bipush 10, 2) := by decide +kernel
theorem dX3_readsBetween_14 : decode cX3_readsBetween 14 = .ok (.if_icmp .lt 5, 3) := by decide +kernel
theorem dX3_readsBetween_17 : decode cX3_readsBetween 17 = .ok (.iconst 0, 1) := by decide +kernel
theorem dX3_readsBetween_18 : decode cX3_readsBetween 18 = .ok (.ireturn, 1) := by decide +kernel
theorem dX3_readsBetween_19 : decode cX3_readsBetween 19 = .ok (.aload_n 0, 1) := by decide +kernel
theorem dX3_readsBetween_20 : decode cX3_readsBetween 20 = .ok (.bipush (-2), 2) := by decide +kernel
theorem dX3_readsBetween_22 : decode cX3_readsBetween 22 = .ok (.putfield 24, 3) := by decide +kernel
theorem dX3_readsBetween_25 : decode cX3_readsBetween 25 = .ok (.iconst 1, 1) := by decide +kernel
theorem dX3_readsBetween_26 : decode cX3_readsBetween 26 = .ok (.ireturn, 1) := by decide +kernel
theorem dX3_isDigit_0 : decode cX3_isDigit 0 = .ok (.iload_n 0, 1) := by decide +kernel
theorem dX3_isDigit_1 : decode cX3_isDigit 1 = .ok (.bipush 48, 2) := by decide +kernel
theorem dX3_isDigit_3 : decode cX3_isDigit 3 = .ok (.if_icmp .lt 13, 3) := by decide +kernel
theorem dX3_isDigit_6 : decode cX3_isDigit 6 = .ok (.iload_n 0, 1) := by decide +kernel
theorem dX3_isDigit_7 : decode cX3_isDigit 7 = .ok (.bipush 57, 2) := by decide +kernel
theorem dX3_isDigit_9 : decode cX3_isDigit 9 = .ok (.if_icmp .gt 7, 3) := by decide +kernel
theorem dX3_isDigit_12 : decode cX3_isDigit 12 = .ok (.iconst 1, 1) := by decide +kernel
theorem dX3_isDigit_13 : decode cX3_isDigit 13 = .ok (.goto 4, 3) := by decide +kernel
theorem dX3_isDigit_16 : decode cX3_isDigit 16 = .ok (.iconst 0, 1) := by decide +kernel
theorem dX3_isDigit_17 : decode cX3_isDigit 17 = .ok (.ireturn, 1) := by decide +kernel
theorem dX4_init_0 : decode cX4_init 0 = .ok (.aload_n 0, 1) := by decide +kernel
theorem dX4_init_1 : decode cX4_init 1 = .ok (.invokespecial 1, 3) := by decide +kernel
theorem dX4_init_4 : decode cX4_init 4 = .ok (.aload_n 0, 1) := by decide +kernel
theorem dX4_init_5 : decode cX4_init 5 = .ok (.new 7, 3) := by decide +kernel
theorem dX4_init_8 : decode cX4_init 8 = .ok (.dup, 1) := by decide +kernel
theorem dX4_init_9 : decode cX4_init 9 = .ok (.invokespecial 9, 3) := by decide +kernel
theorem dX4_init_12 : decode cX4_init 12 = .ok (.putfield 10, 3) := by decide +kernel
theorem dX4_init_15 : decode cX4_init 15 = .ok (.aload_n 0, 1) := by decide +kernel
theorem dX4_init_16 : decode cX4_init 16 = .ok (.new 16, 3) := by decide +kernel
theorem dX4_init_19 : decode cX4_init 19 = .ok (.dup, 1) := by decide +kernel
theorem dX4_init_20 : decode cX4_init 20 = .ok (.invokespecial 18, 3) := by decide +kernel
theorem dX4_init_23 : decode cX4_init 23 = .ok (.putfield 19, 3) := by decide +kernel
theorem dX4_init_26 : decode cX4_init 26 = .ok (.aload_n 0, 1) := by decide +kernel
theorem dX4_init_27 : decode cX4_init 27 = .ok (.new 23, 3) := by decide +kernel
theorem dX4_init_30 : decode cX4_init 30 = .ok (.dup, 1) := by decide +kernel
theorem dX4_init_31 : decode cX4_init 31 = .ok (.invokespecial 25, 3) := by decide +kernel
theorem dX4_init_34 : decode cX4_init 34 = .ok (.putfield 26, 3) := by decide +kernel
theorem dX4_init_37 : decode cX4_init 37 = .ok (.aload_n 0, 1) := by decide +kernel
theorem dX4_init_38 : decode cX4_init 38 = .ok (.new 23, 3) := by decide +kernel
theorem dX4_init_41 : decode cX4_init 41 = .ok (.dup, 1) := by decide +kernel
theorem dX4_init_42 : decode cX4_init 42 = .ok (.invokespecial 25, 3) := by decide +kernel
theorem dX4_init_45 : decode cX4_init 45 = .ok (.putfield 30, 3) := by decide +kernel
theorem dX4_init_48 : decode cX4_init 48 = .ok (.aload_n 0, 1) := by decide +kernel
theorem dX4_init_49 : decode cX4_init 49 = .ok (.new 33, 3) := by decide +kernel
theorem dX4_init_52 : decode cX4_init 52 = .ok (.dup, 1) := by decide +kernel
theorem dX4_init_53 : decode cX4_init 53 = .ok (.invokespecial 35, 3) := by decide +kernel
theorem dX4_init_56 : decode cX4_init 56 = .ok (.putfield 36, 3) := by decide +kernel
theorem dX4_init_59 : decode cX4_init 59 = .ok (.aload_n 0, 1) := by decide +kernel
theorem dX4_init_60 : decode cX4_init 60 = .ok (.new 33, 3) := by decide +kernel
theorem dX4_init_63 : decode cX4_init 63 = .ok (.dup, 1) := by decide +kernel
theorem dX4_init_64 : decode cX4_init 64 = .ok (.invokespecial 35, 3) := by decide +kernel
theorem dX4_init_67 : decode cX4_init 67 = .ok (.putfield 40, 3) := by decide +kernel
theorem dX4_init_70 : decode cX4_init 70 = .ok (.return_, 1) := by decide +kernel
theorem dX4_stop_0 : decode cX4_stop 0 = .ok (.iload_n 1, 1) := by decide +kernel
theorem dX4_stop_1 : decode cX4_stop 1 = .ok (.invokestatic 43, 3) := by decide +kernel
theorem dX4_stop_4 : decode cX4_stop 4 = .ok (.ifCond .ne 5, 3) := by decide +kernel
theorem dX4_stop_7 : decode cX4_stop 7 = .ok (.iconst (-1), 1) := by decide +kernel
theorem dX4_stop_8 : decode cX4_stop 8 = .ok (.ireturn, 1) := by decide +kernel
theorem dX4_stop_9 : decode cX4_stop 9 = .ok (.iload_n 2, 1) := by decide +kernel
theorem dX4_stop_10 : decode cX4_stop 10 = .ok (.iload_n 3, 1) := by decide +kernel
theorem dX4_stop_11 : decode cX4_stop 11 = .ok (.invokestatic 47, 3) := by decide +kernel
theorem dX4_stop_14 : decode cX4_stop 14 = .ok (.ifCond .ne 6, 3) := by decide +kernel
theorem dX4_stop_17 : decode cX4_stop 17 = .ok (.bipush (-2), 2) := by decide +kernel
theorem dX4_stop_19 : decode cX4_stop 19 = .ok (.ireturn, 1) := by decide +kernel
theorem dX4_stop_20 : decode cX4_stop 20 = .ok (.aload_n 0, 1) := by decide +kernel
theorem dX4_stop_21 : decode cX4_stop 21 = .ok (.invokevirtual 51, 3) := by decide +kernel
theorem dX4_stop_24 : decode cX4_stop 24 = .ok (.aload_n 0, 1) := by decide +kernel
theorem dX4_stop_25 : decode cX4_stop 25 = .ok (.getfield 10, 3) := by decide +kernel
theorem dX4_stop_28 : decode cX4_stop 28 = .ok (.iload_n 1, 1) := by decide +kernel
theorem dX4_stop_29 : decode cX4_stop 29 = .ok (.iload_n 2, 1) := by decide +kernel
theorem dX4_stop_30 : decode cX4_stop 30 = .ok (.iload_n 3, 1) := by decide +kernel
theorem dX4_stop_31 : decode cX4_stop 31 = .ok (.invokevirtual 54, 3) := by decide +kernel
theorem dX4_stop_34 : decode cX4_stop 34 = .ok (.ireturn, 1) := by decide +kernel
theorem dX4_bus_0 : decode cX4_bus 0 = .ok (.iload_n 1, 1) := by decide +kernel
theorem dX4_bus_1 : decode cX4_bus 1 = .ok (.aload_n 0, 1) := by decide +kernel
theorem dX4_bus_2 : decode cX4_bus 2 = .ok (.getfield 10, 3) := by decide +kernel
theorem dX4_bus_5 : decode cX4_bus 5 = .ok (.invokevirtual 58, 3) := by decide +kernel
