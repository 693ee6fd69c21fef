theorem dX4_bus_8 : decode cX4_bus 8 = .ok (.if_icmp .lt 10, 3) := by decide +kernel
theorem dX4_bus_11 : decode cX4_bus 11 = .ok (.iload_n 1, 1) := by decide +kernel
theorem dX4_bus_12 : decode cX4_bus 12 = .ok (.sipush 7200, 3) := by decide +kernel
theorem dX4_bus_15 : decode cX4_bus 15 = .ok (.if_icmp .le 6, 3) := by decide +kernel
theorem dX4_bus_18 : decode cX4_bus 18 = .ok (.bipush (-2), 2) := by decide +kernel
theorem dX4_bus_20 : decode cX4_bus 20 = .ok (.ireturn, 1) := by decide +kernel
theorem dX4_bus_21 : decode cX4_bus 21 = .ok (.iload_n 2, 1) := by decide +kernel
theorem dX4_bus_22 : decode cX4_bus 22 = .ok (.iconst 1, 1) := by decide +kernel
theorem dX4_bus_23 : decode cX4_bus 23 = .ok (.if_icmp .lt 9, 3) := by decide +kernel
theorem dX4_bus_26 : decode cX4_bus 26 = .ok (.iload_n 2, 1) := by decide +kernel
theorem dX4_bus_27 : decode cX4_bus 27 = .ok (.bipush 80, 2) := by decide +kernel
theorem dX4_bus_29 : decode cX4_bus 29 = .ok (.if_icmp .le 6, 3) := by decide +kernel
theorem dX4_bus_32 : decode cX4_bus 32 = .ok (.bipush (-2), 2) := by decide +kernel
theorem dX4_bus_34 : decode cX4_bus 34 = .ok (.ireturn, 1) := by decide +kernel
theorem dX4_bus_35 : decode cX4_bus 35 = .ok (.aload_n 0, 1) := by decide +kernel
theorem dX4_bus_36 : decode cX4_bus 36 = .ok (.getfield 10, 3) := by decide +kernel
theorem dX4_bus_39 : decode cX4_bus 39 = .ok (.getfield 62, 3) := by decide +kernel
theorem dX4_bus_42 : decode cX4_bus 42 = .ok (.bipush 8, 2) := by decide +kernel
theorem dX4_bus_44 : decode cX4_bus 44 = .ok (.if_icmp .lt 6, 3) := by decide +kernel
theorem dX4_bus_47 : decode cX4_bus 47 = .ok (.bipush (-4), 2) := by decide +kernel
theorem dX4_bus_49 : decode cX4_bus 49 = .ok (.ireturn, 1) := by decide +kernel
theorem dX4_bus_50 : decode cX4_bus 50 = .ok (.aload_n 0, 1) := by decide +kernel
theorem dX4_bus_51 : decode cX4_bus 51 = .ok (.invokevirtual 51, 3) := by decide +kernel
theorem dX4_bus_54 : decode cX4_bus 54 = .ok (.aload_n 0, 1) := by decide +kernel
theorem dX4_bus_55 : decode cX4_bus 55 = .ok (.getfield 10, 3) := by decide +kernel
theorem dX4_bus_58 : decode cX4_bus 58 = .ok (.iload_n 1, 1) := by decide +kernel
theorem dX4_bus_59 : decode cX4_bus 59 = .ok (.iload_n 2, 1) := by decide +kernel
theorem dX4_bus_60 : decode cX4_bus 60 = .ok (.invokevirtual 66, 3) := by decide +kernel
theorem dX4_bus_63 : decode cX4_bus 63 = .ok (.ireturn, 1) := by decide +kernel
theorem dX4_set_0 : decode cX4_set 0 = .ok (.iload_n 1, 1) := by decide +kernel
theorem dX4_set_1 : decode cX4_set 1 = .ok (.ifCond .lt 21, 3) := by decide +kernel
theorem dX4_set_4 : decode cX4_set 4 = .ok (.iload_n 1, 1) := by decide +kernel
theorem dX4_set_5 : decode cX4_set 5 = .ok (.iconst 5, 1) := by decide +kernel
theorem dX4_set_6 : decode cX4_set 6 = .ok (.if_icmp .ge 16, 3) := by decide +kernel
theorem dX4_set_9 : decode cX4_set 9 = .ok (.iload_n 2, 1) := by decide +kernel
theorem dX4_set_10 : decode cX4_set 10 = .ok (.ifCond .lt 12, 3) := by decide +kernel
theorem dX4_set_13 : decode cX4_set 13 = .ok (.iload_n 2, 1) := by decide +kernel
theorem dX4_set_14 : decode cX4_set 14 = .ok (.getstatic 70, 3) := by decide +kernel
theorem dX4_set_17 : decode cX4_set 17 = .ok (.iload_n 1, 1) := by decide +kernel
theorem dX4_set_18 : decode cX4_set 18 = .ok (.iaload, 1) := by decide +kernel
theorem dX4_set_19 : decode cX4_set 19 = .ok (.if_icmp .le 6, 3) := by decide +kernel
theorem dX4_set_22 : decode cX4_set 22 = .ok (.bipush (-2), 2) := by decide +kernel
theorem dX4_set_24 : decode cX4_set 24 = .ok (.ireturn, 1) := by decide +kernel
theorem dX4_set_25 : decode cX4_set 25 = .ok (.aload_n 0, 1) := by decide +kernel
theorem dX4_set_26 : decode cX4_set 26 = .ok (.invokevirtual 51, 3) := by decide +kernel
theorem dX4_set_29 : decode cX4_set 29 = .ok (.aload_n 0, 1) := by decide +kernel
theorem dX4_set_30 : decode cX4_set 30 = .ok (.getfield 10, 3) := by decide +kernel
theorem dX4_set_33 : decode cX4_set 33 = .ok (.getfield 74, 3) := by decide +kernel
theorem dX4_set_36 : decode cX4_set 36 = .ok (.iload_n 1, 1) := by decide +kernel
theorem dX4_set_37 : decode cX4_set 37 = .ok (.iaload, 1) := by decide +kernel
theorem dX4_set_38 : decode cX4_set 38 = .ok (.istore_n 3, 1) := by decide +kernel
theorem dX4_set_39 : decode cX4_set 39 = .ok (.aload_n 0, 1) := by decide +kernel
theorem dX4_set_40 : decode cX4_set 40 = .ok (.getfield 10, 3) := by decide +kernel
theorem dX4_set_43 : decode cX4_set 43 = .ok (.getfield 74, 3) := by decide +kernel
theorem dX4_set_46 : decode cX4_set 46 = .ok (.iload_n 1, 1) := by decide +kernel
theorem dX4_set_47 : decode cX4_set 47 = .ok (.iload_n 2, 1) := by decide +kernel
theorem dX4_set_48 : decode cX4_set 48 = .ok (.iastore, 1) := by decide +kernel
theorem dX4_set_49 : decode cX4_set 49 = .ok (.iload_n 3, 1) := by decide +kernel
theorem dX4_set_50 : decode cX4_set 50 = .ok (.ireturn, 1) := by decide +kernel
theorem dX4_late_0 : decode cX4_late 0 = .ok (.aload_n 0, 1) := by decide +kernel
theorem dX4_late_1 : decode cX4_late 1 = .ok (.getfield 10, 3) := by decide +kernel
theorem dX4_late_4 : decode cX4_late 4 = .ok (.iload_n 1, 1) := by decide +kernel
theorem dX4_late_5 : decode cX4_late 5 = .ok (.invokevirtual 77, 3) := by decide +kernel
theorem dX4_late_8 : decode cX4_late 8 = .ok (.ifCond .eq 10, 3) := by decide +kernel
theorem dX4_late_11 : decode cX4_late 11 = .ok (.iload_n 2, 1) := by decide +kernel
theorem dX4_late_12 : decode cX4_late 12 = .ok (.invokestatic 43, 3) := by decide +kernel
theorem dX4_late_15 : decode cX4_late 15 = .ok (.ifCond .ne 5, 3) := by decide +kernel
theorem dX4_late_18 : decode cX4_late 18 = .ok (.iconst (-1), 1) := by decide +kernel
theorem dX4_late_19 : decode cX4_late 19 = .ok (.ireturn, 1) := by decide +kernel
theorem dX4_late_20 : decode cX4_late 20 = .ok (.iload_n 3, 1) := by decide +kernel
theorem dX4_late_21 : decode cX4_late 21 = .ok (.iconst 1, 1) := by decide +kernel
theorem dX4_late_22 : decode cX4_late 22 = .ok (.if_icmp .lt 10, 3) := by decide +kernel
theorem dX4_late_25 : decode cX4_late 25 = .ok (.iload_n 3, 1) := by decide +kernel
theorem dX4_late_26 : decode cX4_late 26 = .ok (.sipush 900, 3) := by decide +kernel
theorem dX4_late_29 : decode cX4_late 29 = .ok (.if_icmp .le 6, 3) := by decide +kernel
theorem dX4_late_32 : decode cX4_late 32 = .ok (.bipush (-2), 2) := by decide +kernel
theorem dX4_late_34 : decode cX4_late 34 = .ok (.ireturn, 1) := by decide +kernel
theorem dX4_late_35 : decode cX4_late 35 = .ok (.aload_n 0, 1) := by decide +kernel
theorem dX4_late_36 : decode cX4_late 36 = .ok (.getfield 10, 3) := by decide +kernel
theorem dX4_late_39 : decode cX4_late 39 = .ok (.getfield 80, 3) := by decide +kernel
theorem dX4_late_42 : decode cX4_late 42 = .ok (.bipush 10, 2) := by decide +kernel
theorem dX4_late_44 : decode cX4_late 44 = .ok (.if_icmp .lt 6, 3) := by decide +kernel
theorem dX4_late_47 : decode cX4_late 47 = .ok (.bipush (-4), 2) := by decide +kernel
theorem dX4_late_49 : decode cX4_late 49 = .ok (.ireturn, 1) := by decide +kernel
theorem dX4_late_50 : decode cX4_late 50 = .ok (.aload_n 0, 1) := by decide +kernel
theorem dX4_late_51 : decode cX4_late 51 = .ok (.invokevirtual 51, 3) := by decide +kernel
theorem dX4_late_54 : decode cX4_late 54 = .ok (.aload_n 0, 1) := by decide +kernel
theorem dX4_late_55 : decode cX4_late 55 = .ok (.getfield 10, 3) := by decide +kernel
theorem dX4_late_58 : decode cX4_late 58 = .ok (.iload_n 1, 1) := by decide +kernel
theorem dX4_late_59 : decode cX4_late 59 = .ok (.iload_n 2, 1) := by decide +kernel
theorem dX4_late_60 : decode cX4_late 60 = .ok (.iload_n 3, 1) := by decide +kernel
theorem dX4_late_61 : decode cX4_late 61 = .ok (.invokevirtual 83, 3) := by decide +kernel
theorem dX4_late_64 : decode cX4_late 64 = .ok (.ireturn, 1) := by decide +kernel
theorem dX4_mend_0 : decode cX4_mend 0 = .ok (.aload_n 0, 1) := by decide +kernel
theorem dX4_mend_1 : decode cX4_mend 1 = .ok (.getfield 10, 3) := by decide +kernel
theorem dX4_mend_4 : decode cX4_mend 4 = .ok (.getfield 80, 3) := by decide +kernel
theorem dX4_mend_7 : decode cX4_mend 7 = .ok (.iconst 1, 1) := by decide +kernel
theorem dX4_mend_8 : decode cX4_mend 8 = .ok (.if_icmp .ge 6, 3) := by decide +kernel
theorem dX4_mend_11 : decode cX4_mend 11 = .ok (.bipush (-5), 2) := by decide +kernel
theorem dX4_mend_13 : decode cX4_mend 13 = .ok (.ireturn, 1) := by decide +kernel
theorem dX4_mend_14 : decode cX4_mend 14 = .ok (.aload_n 0, 1) := by decide +kernel
theorem dX4_mend_15 : decode cX4_mend 15 = .ok (.invokevirtual 51, 3) := by decide +kernel
theorem dX4_mend_18 : decode cX4_mend 18 = .ok (.aload_n 0, 1) := by decide +kernel
theorem dX4_mend_19 : decode cX4_mend 19 = .ok (.getfield 10, 3) := by decide +kernel
theorem dX4_mend_22 : decode cX4_mend 22 = .ok (.dup, 1) := by decide +kernel
theorem dX4_mend_23 : decode cX4_mend 23 = .ok (.getfield 80, 3) := by decide +kernel
theorem dX4_mend_26 : decode cX4_mend 26 = .ok (.iconst 1, 1) := by decide +kernel
theorem dX4_mend_27 : decode cX4_mend 27 = .ok (.isub, 1) := by decide +kernel
theorem dX4_mend_28 : decode cX4_mend 28 = .ok (.putfield 80, 3) := by decide +kernel
theorem dX4_mend_31 : decode cX4_mend 31 = .ok (.aload_n 0, 1) := by decide +kernel
theorem dX4_mend_32 : decode cX4_mend 32 = .ok (.getfield 10, 3) := by decide +kernel
theorem dX4_mend_35 : decode cX4_mend 35 = .ok (.getfield 80, 3) := by decide +kernel
theorem dX4_mend_38 : decode cX4_mend 38 = .ok (.ireturn, 1) := by decide +kernel
theorem dX4_turn_0 : decode cX4_turn 0 = .ok (.aload_n 0, 1) := by decide +kernel
theorem dX4_turn_1 : decode cX4_turn 1 = .ok (.getfield 10, 3) := by decide +kernel
theorem dX4_turn_4 : decode cX4_turn 4 = .ok (.iload_n 1, 1) := by decide +kernel
theorem dX4_turn_5 : decode cX4_turn 5 = .ok (.invokevirtual 77, 3) := by decide +kernel
theorem dX4_turn_8 : decode cX4_turn 8 = .ok (.ifCond .ne 5, 3) := by decide +kernel
theorem dX4_turn_11 : decode cX4_turn 11 = .ok (.iconst (-1), 1) := by decide +kernel
theorem dX4_turn_12 : decode cX4_turn 12 = .ok (.ireturn, 1) := by decide +kernel
theorem dX4_turn_13 : decode cX4_turn 13 = .ok (.iload_n 2, 1) := by decide +kernel
theorem dX4_turn_14 : decode cX4_turn 14 = .ok (.iconst 1, 1) := by decide +kernel
theorem dX4_turn_15 : decode cX4_turn 15 = .ok (.if_icmp .lt 9, 3) := by decide +kernel
theorem dX4_turn_18 : decode cX4_turn 18 = .ok (.iload_n 2, 1) := by decide +kernel
theorem dX4_turn_19 : decode cX4_turn 19 = .ok (.bipush 9, 2) := by decide +kernel
theorem dX4_turn_21 : decode cX4_turn 21 = .ok (.if_icmp .le 6, 3) := by decide +kernel
theorem dX4_turn_24 : decode cX4_turn 24 = .ok (.bipush (-2), 2) := by decide +kernel
theorem dX4_turn_26 : decode cX4_turn 26 = .ok (.ireturn, 1) := by decide +kernel
theorem dX4_turn_27 : decode cX4_turn 27 = .ok (.aload_n 0, 1) := by decide +kernel
theorem dX4_turn_28 : decode cX4_turn 28 = .ok (.invokevirtual 51, 3) := by decide +kernel
theorem dX4_turn_31 : decode cX4_turn 31 = .ok (.aload_n 0, 1) := by decide +kernel
theorem dX4_turn_32 : decode cX4_turn 32 = .ok (.getfield 10, 3) := by decide +kernel
theorem dX4_turn_35 : decode cX4_turn 35 = .ok (.getfield 86, 3) := by decide +kernel
theorem dX4_turn_38 : decode cX4_turn 38 = .ok (.iload_n 1, 1) := by decide +kernel
theorem dX4_turn_39 : decode cX4_turn 39 = .ok (.iaload, 1) := by decide +kernel
theorem dX4_turn_40 : decode cX4_turn 40 = .ok (.istore_n 3, 1) := by decide +kernel
theorem dX4_turn_41 : decode cX4_turn 41 = .ok (.aload_n 0, 1) := by decide +kernel
theorem dX4_turn_42 : decode cX4_turn 42 = .ok (.getfield 10, 3) := by decide +kernel
theorem dX4_turn_45 : decode cX4_turn 45 = .ok (.getfield 86, 3) := by decide +kernel
theorem dX4_turn_48 : decode cX4_turn 48 = .ok (.iload_n 1, 1) := by decide +kernel
theorem dX4_turn_49 : decode cX4_turn 49 = .ok (.iload_n 2, 1) := by decide +kernel
theorem dX4_turn_50 : decode cX4_turn 50 = .ok (.iastore, 1) := by decide +kernel
theorem dX4_turn_51 : decode cX4_turn 51 = .ok (.iload_n 3, 1) := by decide +kernel
theorem dX4_turn_52 : decode cX4_turn 52 = .ok (.ireturn, 1) := by decide +kernel
theorem dX4_at_0 : decode cX4_at 0 = .ok (.aload_n 0, 1) := by decide +kernel
theorem dX4_at_1 : decode cX4_at 1 = .ok (.getfield 10, 3) := by decide +kernel
theorem dX4_at_4 : decode cX4_at 4 = .ok (.iload_n 1, 1) := by decide +kernel
theorem dX4_at_5 : decode cX4_at 5 = .ok (.invokevirtual 77, 3) := by decide +kernel
theorem dX4_at_8 : decode cX4_at 8 = .ok (.ifCond .eq 10, 3) := by decide +kernel
theorem dX4_at_11 : decode cX4_at 11 = .ok (.iload_n 2, 1) := by decide +kernel
theorem dX4_at_12 : decode cX4_at 12 = .ok (.invokestatic 89, 3) := by decide +kernel
theorem dX4_at_15 : decode cX4_at 15 = .ok (.ifCond .ne 5, 3) := by decide +kernel
theorem dX4_at_18 : decode cX4_at 18 = .ok (.iconst (-1), 1) := by decide +kernel
theorem dX4_at_19 : decode cX4_at 19 = .ok (.ireturn, 1) := by decide +kernel
theorem dX4_at_20 : decode cX4_at 20 = .ok (.iload_n 3, 1) := by decide +kernel
theorem dX4_at_21 : decode cX4_at 21 = .ok (.ifCond .lt 8, 3) := by decide +kernel
theorem dX4_at_24 : decode cX4_at 24 = .ok (.iload_n 3, 1) := by decide +kernel
theorem dX4_at_25 : decode cX4_at 25 = .ok (.iconst 5, 1) := by decide +kernel
theorem dX4_at_26 : decode cX4_at 26 = .ok (.if_icmp .le 6, 3) := by decide +kernel
theorem dX4_at_29 : decode cX4_at 29 = .ok (.bipush (-2), 2) := by decide +kernel
theorem dX4_at_31 : decode cX4_at 31 = .ok (.ireturn, 1) := by decide +kernel
theorem dX4_at_32 : decode cX4_at 32 = .ok (.aload_n 0, 1) := by decide +kernel
theorem dX4_at_33 : decode cX4_at 33 = .ok (.getfield 10, 3) := by decide +kernel
theorem dX4_at_36 : decode cX4_at 36 = .ok (.iload_n 1, 1) := by decide +kernel
theorem dX4_at_37 : decode cX4_at 37 = .ok (.iload_n 2, 1) := by decide +kernel
theorem dX4_at_38 : decode cX4_at 38 = .ok (.invokevirtual 92, 3) := by decide +kernel
theorem dX4_at_41 : decode cX4_at 41 = .ok (.ifCond .ne 6, 3) := by decide +kernel
theorem dX4_at_44 : decode cX4_at 44 = .ok (.bipush (-6), 2) := by decide +kernel
theorem dX4_at_46 : decode cX4_at 46 = .ok (.ireturn, 1) := by decide +kernel
theorem dX4_at_47 : decode cX4_at 47 = .ok (.aload_n 0, 1) := by decide +kernel
theorem dX4_at_48 : decode cX4_at 48 = .ok (.invokevirtual 95, 3) := by decide +kernel
theorem dX4_at_51 : decode cX4_at 51 = .ok (.iload_n 1, 1) := by decide +kernel
theorem dX4_at_52 : decode cX4_at 52 = .ok (.iload_n 2, 1) := by decide +kernel
theorem dX4_at_53 : decode cX4_at 53 = .ok (.invokestatic 99, 3) := by decide +kernel
theorem dX4_at_56 : decode cX4_at 56 = .ok (.iload_n 3, 1) := by decide +kernel
theorem dX4_at_57 : decode cX4_at 57 = .ok (.invokevirtual 102, 3) := by decide +kernel
theorem dX4_at_60 : decode cX4_at 60 = .ok (.ireturn, 1) := by decide +kernel
theorem dX4_say_0 : decode cX4_say 0 = .ok (.iload_n 1, 1) := by decide +kernel
theorem dX4_say_1 : decode cX4_say 1 = .ok (.bipush 33, 2) := by decide +kernel
theorem dX4_say_3 : decode cX4_say 3 = .ok (.if_icmp .lt 9, 3) := by decide +kernel
theorem dX4_say_6 : decode cX4_say 6 = .ok (.iload_n 1, 1) := by decide +kernel
theorem dX4_say_7 : decode cX4_say 7 = .ok (.bipush 126, 2) := by decide +kernel
theorem dX4_say_9 : decode cX4_say 9 = .ok (.if_icmp .le 6, 3) := by decide +kernel
theorem dX4_say_12 : decode cX4_say 12 = .ok (.bipush (-2), 2) := by decide +kernel
theorem dX4_say_14 : decode cX4_say 14 = .ok (.ireturn, 1) := by decide +kernel
theorem dX4_say_15 : decode cX4_say 15 = .ok (.aload_n 0, 1) := by decide +kernel
theorem dX4_say_16 : decode cX4_say 16 = .ok (.getfield 19, 3) := by decide +kernel
theorem dX4_say_19 : decode cX4_say 19 = .ok (.getfield 105, 3) := by decide +kernel
theorem dX4_say_22 : decode cX4_say 22 = .ok (.bipush 40, 2) := by decide +kernel
theorem dX4_say_24 : decode cX4_say 24 = .ok (.if_icmp .lt 6, 3) := by decide +kernel
theorem dX4_say_27 : decode cX4_say 27 = .ok (.bipush (-4), 2) := by decide +kernel
theorem dX4_say_29 : decode cX4_say 29 = .ok (.ireturn, 1) := by decide +kernel
theorem dX4_say_30 : decode cX4_say 30 = .ok (.aload_n 0, 1) := by decide +kernel
theorem dX4_say_31 : decode cX4_say 31 = .ok (.getfield 19, 3) := by decide +kernel
theorem dX4_say_34 : decode cX4_say 34 = .ok (.iload_n 1, 1) := by decide +kernel
theorem dX4_say_35 : decode cX4_say 35 = .ok (.invokevirtual 108, 3) := by decide +kernel
theorem dX4_say_38 : decode cX4_say 38 = .ok (.ireturn, 1) := by decide +kernel
theorem dX4_wipe_0 : decode cX4_wipe 0 = .ok (.aload_n 0, 1) := by decide +kernel
theorem dX4_wipe_1 : decode cX4_wipe 1 = .ok (.getfield 19, 3) := by decide +kernel
theorem dX4_wipe_4 : decode cX4_wipe 4 = .ok (.getfield 105, 3) := by decide +kernel
theorem dX4_wipe_7 : decode cX4_wipe 7 = .ok (.istore_n 1, 1) := by decide +kernel
theorem dX4_wipe_8 : decode cX4_wipe 8 = .ok (.aload_n 0, 1) := by decide +kernel
theorem dX4_wipe_9 : decode cX4_wipe 9 = .ok (.getfield 19, 3) := by decide +kernel
theorem dX4_wipe_12 : decode cX4_wipe 12 = .ok (.iconst 0, 1) := by decide +kernel
theorem dX4_wipe_13 : decode cX4_wipe 13 = .ok (.putfield 105, 3) := by decide +kernel
theorem dX4_wipe_16 : decode cX4_wipe 16 = .ok (.iload_n 1, 1) := by decide +kernel
theorem dX4_wipe_17 : decode cX4_wipe 17 = .ok (.ireturn, 1) := by decide +kernel
theorem dX4_fault_0 : decode cX4_fault 0 = .ok (.aload_n 0, 1) := by decide +kernel
theorem dX4_fault_1 : decode cX4_fault 1 = .ok (.getfield 19, 3) := by decide +kernel
theorem dX4_fault_4 : decode cX4_fault 4 = .ok (.aload_n 0, 1) := by decide +kernel
theorem dX4_fault_5 : decode cX4_fault 5 = .ok (.getfield 40, 3) := by decide +kernel
theorem dX4_fault_8 : decode cX4_fault 8 = .ok (.invokevirtual 112, 3) := by decide +kernel
theorem dX4_fault_11 : decode cX4_fault 11 = .ok (.ireturn, 1) := by decide +kernel
theorem dX4_rule_0 : decode cX4_rule 0 = .ok (.aload_n 0, 1) := by decide +kernel
theorem dX4_rule_1 : decode cX4_rule 1 = .ok (.getfield 19, 3) := by decide +kernel
theorem dX4_rule_4 : decode cX4_rule 4 = .ok (.aload_n 0, 1) := by decide +kernel
theorem dX4_rule_5 : decode cX4_rule 5 = .ok (.getfield 40, 3) := by decide +kernel
theorem dX4_rule_8 : decode cX4_rule 8 = .ok (.invokevirtual 112, 3) := by decide +kernel
theorem dX4_rule_11 : decode cX4_rule 11 = .ok (.bipush (-6), 2) := by decide +kernel
theorem dX4_rule_13 : decode cX4_rule 13 = .ok (.if_icmp .eq 6, 3) := by decide +kernel
theorem dX4_rule_16 : decode cX4_rule 16 = .ok (.bipush (-5), 2) := by decide +kernel
theorem dX4_rule_18 : decode cX4_rule 18 = .ok (.ireturn, 1) := by decide +kernel
theorem dX4_rule_19 : decode cX4_rule 19 = .ok (.aload_n 0, 1) := by decide +kernel
theorem dX4_rule_20 : decode cX4_rule 20 = .ok (.invokevirtual 51, 3) := by decide +kernel
theorem dX4_rule_23 : decode cX4_rule 23 = .ok (.aload_n 0, 1) := by decide +kernel
theorem dX4_rule_24 : decode cX4_rule 24 = .ok (.getfield 36, 3) := by decide +kernel
theorem dX4_rule_27 : decode cX4_rule 27 = .ok (.astore_n 1, 1) := by decide +kernel
theorem dX4_rule_28 : decode cX4_rule 28 = .ok (.aload_n 0, 1) := by decide +kernel
theorem dX4_rule_29 : decode cX4_rule 29 = .ok (.aload_n 0, 1) := by decide +kernel
theorem dX4_rule_30 : decode cX4_rule 30 = .ok (.getfield 40, 3) := by decide +kernel
theorem dX4_rule_33 : decode cX4_rule 33 = .ok (.putfield 36, 3) := by decide +kernel
theorem dX4_rule_36 : decode cX4_rule 36 = .ok (.aload_n 0, 1) := by decide +kernel
theorem dX4_rule_37 : decode cX4_rule 37 = .ok (.aload_n 1, 1) := by decide +kernel
theorem dX4_rule_38 : decode cX4_rule 38 = .ok (.putfield 40, 3) := by decide +kernel
theorem dX4_rule_41 : decode cX4_rule 41 = .ok (.aload_n 0, 1) := by decide +kernel
theorem dX4_rule_42 : decode cX4_rule 42 = .ok (.getfield 19, 3) := by decide +kernel
theorem dX4_rule_45 : decode cX4_rule 45 = .ok (.iconst 0, 1) := by decide +kernel
theorem dX4_rule_46 : decode cX4_rule 46 = .ok (.putfield 105, 3) := by decide +kernel
theorem dX4_rule_49 : decode cX4_rule 49 = .ok (.aload_n 0, 1) := by decide +kernel
theorem dX4_rule_50 : decode cX4_rule 50 = .ok (.getfield 36, 3) := by decide +kernel
theorem dX4_rule_53 : decode cX4_rule 53 = .ok (.getfield 116, 3) := by decide +kernel
theorem dX4_rule_56 : decode cX4_rule 56 = .ok (.ireturn, 1) := by decide +kernel
theorem dX4_free_0 : decode cX4_free 0 = .ok (.aload_n 0, 1) := by decide +kernel
theorem dX4_free_1 : decode cX4_free 1 = .ok (.invokevirtual 51, 3) := by decide +kernel
theorem dX4_free_4 : decode cX4_free 4 = .ok (.aload_n 0, 1) := by decide +kernel
theorem dX4_free_5 : decode cX4_free 5 = .ok (.getfield 36, 3) := by decide +kernel
theorem dX4_free_8 : decode cX4_free 8 = .ok (.getfield 116, 3) := by decide +kernel
theorem dX4_free_11 : decode cX4_free 11 = .ok (.istore_n 1, 1) := by decide +kernel
theorem dX4_free_12 : decode cX4_free 12 = .ok (.aload_n 0, 1) := by decide +kernel
theorem dX4_free_13 : decode cX4_free 13 = .ok (.getfield 36, 3) := by decide +kernel
theorem dX4_free_16 : decode cX4_free 16 = .ok (.invokevirtual 119, 3) := by decide +kernel
theorem dX4_free_19 : decode cX4_free 19 = .ok (.iload_n 1, 1) := by decide +kernel
theorem dX4_free_20 : decode cX4_free 20 = .ok (.ireturn, 1) := by decide +kernel
theorem dX4_follow_0 : decode cX4_follow 0 = .ok (.iload_n 1, 1) := by decide +kernel
theorem dX4_follow_1 : decode cX4_follow 1 = .ok (.invokestatic 43, 3) := by decide +kernel
theorem dX4_follow_4 : decode cX4_follow 4 = .ok (.ifCond .ne 5, 3) := by decide +kernel
theorem dX4_follow_7 : decode cX4_follow 7 = .ok (.iconst (-1), 1) := by decide +kernel
theorem dX4_follow_8 : decode cX4_follow 8 = .ok (.ireturn, 1) := by decide +kernel
theorem dX4_follow_9 : decode cX4_follow 9 = .ok (.aload_n 0, 1) := by decide +kernel
theorem dX4_follow_10 : decode cX4_follow 10 = .ok (.invokevirtual 95, 3) := by decide +kernel
theorem dX4_follow_13 : decode cX4_follow 13 = .ok (.astore_n 3, 1) := by decide +kernel
theorem dX4_follow_14 : decode cX4_follow 14 = .ok (.aload_n 3, 1) := by decide +kernel
theorem dX4_follow_15 : decode cX4_follow 15 = .ok (.aload_n 0, 1) := by decide +kernel
theorem dX4_follow_16 : decode cX4_follow 16 = .ok (.getfield 10, 3) := by decide +kernel
theorem dX4_follow_19 : decode cX4_follow 19 = .ok (.iload_n 1, 1) := by decide +kernel
theorem dX4_follow_20 : decode cX4_follow 20 = .ok (.invokevirtual 122, 3) := by decide +kernel
theorem dX4_follow_23 : decode cX4_follow 23 = .ok (.iconst 1, 1) := by decide +kernel
theorem dX4_follow_24 : decode cX4_follow 24 = .ok (.isub, 1) := by decide +kernel
theorem dX4_follow_25 : decode cX4_follow 25 = .ok (.istore 4, 2) := by decide +kernel
theorem dX4_follow_27 : decode cX4_follow 27 = .ok (.iload_n 2, 1) := by decide +kernel
theorem dX4_follow_28 : decode cX4_follow 28 = .ok (.ifCond .ne 10, 3) := by decide +kernel
theorem dX4_follow_31 : decode cX4_follow 31 = .ok (.iload 4, 2) := by decide +kernel
theorem dX4_follow_33 : decode cX4_follow 33 = .ok (.iconst 0, 1) := by decide +kernel
theorem dX4_follow_34 : decode cX4_follow 34 = .ok (.invokestatic 126, 3) := by decide +kernel
theorem dX4_follow_37 : decode cX4_follow 37 = .ok (.ireturn, 1) := by decide +kernel
theorem dX4_follow_38 : decode cX4_follow 38 = .ok (.iload_n 2, 1) := by decide +kernel
theorem dX4_follow_39 : decode cX4_follow 39 = .ok (.ifCond .lt 9, 3) := by decide +kernel
theorem dX4_follow_42 : decode cX4_follow 42 = .ok (.iload_n 2, 1) := by decide +kernel
theorem dX4_follow_43 : decode cX4_follow 43 = .ok (.iload 4, 2) := by decide +kernel
theorem dX4_follow_45 : decode cX4_follow 45 = .ok (.if_icmp .le 8, 3) := by decide +kernel
theorem dX4_follow_48 : decode cX4_follow 48 = .ok (.bipush (-6), 2) := by decide +kernel
theorem dX4_follow_50 : decode cX4_follow 50 = .ok (.goto 9, 3) := by decide +kernel
theorem dX4_follow_53 : decode cX4_follow 53 = .ok (.aload_n 3, 1) := by decide +kernel
theorem dX4_follow_54 : decode cX4_follow 54 = .ok (.iload_n 1, 1) := by decide +kernel
theorem dX4_follow_55 : decode cX4_follow 55 = .ok (.iload_n 2, 1) := by decide +kernel
theorem dX4_follow_56 : decode cX4_follow 56 = .ok (.invokevirtual 131, 3) := by decide +kernel
theorem dX4_follow_59 : decode cX4_follow 59 = .ok (.ireturn, 1) := by decide +kernel
theorem dX4_one_0 : decode cX4_one 0 = .ok (.iload_n 1, 1) := by decide +kernel
theorem dX4_one_1 : decode cX4_one 1 = .ok (.ifCond .lt 8, 3) := by decide +kernel
theorem dX4_one_4 : decode cX4_one 4 = .ok (.iload_n 1, 1) := by decide +kernel
theorem dX4_one_5 : decode cX4_one 5 = .ok (.iconst 1, 1) := by decide +kernel
theorem dX4_one_6 : decode cX4_one 6 = .ok (.if_icmp .le 6, 3) := by decide +kernel
theorem dX4_one_9 : decode cX4_one 9 = .ok (.bipush (-2), 2) := by decide +kernel
theorem dX4_one_11 : decode cX4_one 11 = .ok (.ireturn, 1) := by decide +kernel
theorem dX4_one_12 : decode cX4_one 12 = .ok (.aload_n 0, 1) := by decide +kernel
theorem dX4_one_13 : decode cX4_one 13 = .ok (.invokevirtual 95, 3) := by decide +kernel
theorem dX4_one_16 : decode cX4_one 16 = .ok (.astore_n 2, 1) := by decide +kernel
theorem dX4_one_17 : decode cX4_one 17 = .ok (.aload_n 2, 1) := by decide +kernel
theorem dX4_one_18 : decode cX4_one 18 = .ok (.aload_n 0, 1) := by decide +kernel
theorem dX4_one_19 : decode cX4_one 19 = .ok (.getfield 10, 3) := by decide +kernel
theorem dX4_one_22 : decode cX4_one 22 = .ok (.invokevirtual 134, 3) := by decide +kernel
theorem dX4_one_25 : decode cX4_one 25 = .ok (.istore_n 3, 1) := by decide +kernel
theorem dX4_one_26 : decode cX4_one 26 = .ok (.iload_n 1, 1) := by decide +kernel
theorem dX4_one_27 : decode cX4_one 27 = .ok (.ifCond .eq 9, 3) := by decide +kernel
theorem dX4_one_30 : decode cX4_one 30 = .ok (.iload_n 3, 1) := by decide +kernel
theorem dX4_one_31 : decode cX4_one 31 = .ok (.bipush (-6), 2) := by decide +kernel
theorem dX4_one_33 : decode cX4_one 33 = .ok (.if_icmp .ne 5, 3) := by decide +kernel
theorem dX4_one_36 : decode cX4_one 36 = .ok (.iload_n 3, 1) := by decide +kernel
theorem dX4_one_37 : decode cX4_one 37 = .ok (.ireturn, 1) := by decide +kernel
theorem dX4_one_38 : decode cX4_one 38 = .ok (.aload_n 2, 1) := by decide +kernel
theorem dX4_one_39 : decode cX4_one 39 = .ok (.aload_n 0, 1) := by decide +kernel
theorem dX4_one_40 : decode cX4_one 40 = .ok (.getfield 10, 3) := by decide +kernel
theorem dX4_one_43 : decode cX4_one 43 = .ok (.iload_n 3, 1) := by decide +kernel
theorem dX4_one_44 : decode cX4_one 44 = .ok (.invokevirtual 138, 3) := by decide +kernel
theorem dX4_one_47 : decode cX4_one 47 = .ok (.ireturn, 1) := by decide +kernel
theorem dX4_began_0 : decode cX4_began 0 = .ok (.aload_n 0, 1) := by decide +kernel
theorem dX4_began_1 : decode cX4_began 1 = .ok (.invokevirtual 95, 3) := by decide +kernel
theorem dX4_began_4 : decode cX4_began 4 = .ok (.aload_n 0, 1) := by decide +kernel
theorem dX4_began_5 : decode cX4_began 5 = .ok (.getfield 10, 3) := by decide +kernel
theorem dX4_began_8 : decode cX4_began 8 = .ok (.invokevirtual 134, 3) := by decide +kernel
theorem dX4_began_11 : decode cX4_began 11 = .ok (.bipush (-6), 2) := by decide +kernel
theorem dX4_began_13 : decode cX4_began 13 = .ok (.if_icmp .ne 5, 3) := by decide +kernel
theorem dX4_began_16 : decode cX4_began 16 = .ok (.iconst 0, 1) := by decide +kernel
theorem dX4_began_17 : decode cX4_began 17 = .ok (.ireturn, 1) := by decide +kernel
theorem dX4_began_18 : decode cX4_began 18 = .ok (.iconst 0, 1) := by decide +kernel
theorem dX4_began_19 : decode cX4_began 19 = .ok (.istore_n 1, 1) := by decide +kernel
theorem dX4_began_20 : decode cX4_began 20 = .ok (.iconst 0, 1) := by decide +kernel
theorem dX4_began_21 : decode cX4_began 21 = .ok (.istore_n 2, 1) := by decide +kernel
theorem dX4_began_22 : decode cX4_began 22 = .ok (.iload_n 2, 1) := by decide +kernel
theorem dX4_began_23 : decode cX4_began 23 = .ok (.aload_n 0, 1) := by decide +kernel
theorem dX4_began_24 : decode cX4_began 24 = .ok (.getfield 10, 3) := by decide +kernel
theorem dX4_began_27 : decode cX4_began 27 = .ok (.getfield 80, 3) := by decide +kernel
theorem dX4_began_30 : decode cX4_began 30 = .ok (.if_icmp .ge 58, 3) := by decide +kernel
theorem dX4_began_33 : decode cX4_began 33 = .ok (.aload_n 0, 1) := by decide +kernel
theorem dX4_began_34 : decode cX4_began 34 = .ok (.getfield 30, 3) := by decide +kernel
theorem dX4_began_37 : decode cX4_began 37 = .ok (.aload_n 0, 1) := by decide +kernel
theorem dX4_began_38 : decode cX4_began 38 = .ok (.getfield 10, 3) := by decide +kernel
theorem dX4_began_41 : decode cX4_began 41 = .ok (.iload_n 2, 1) := by decide +kernel
theorem dX4_began_42 : decode cX4_began 42 = .ok (.invokevirtual 141, 3) := by decide +kernel
theorem dX4_began_45 : decode cX4_began 45 = .ok (.aload_n 0, 1) := by decide +kernel
theorem dX4_began_46 : decode cX4_began 46 = .ok (.getfield 30, 3) := by decide +kernel
theorem dX4_began_49 : decode cX4_began 49 = .ok (.aload_n 0, 1) := by decide +kernel
theorem dX4_began_50 : decode cX4_began 50 = .ok (.getfield 10, 3) := by decide +kernel
theorem dX4_began_53 : decode cX4_began 53 = .ok (.aload_n 0, 1) := by decide +kernel
theorem dX4_began_54 : decode cX4_began 54 = .ok (.getfield 36, 3) := by decide +kernel
theorem dX4_began_57 : decode cX4_began 57 = .ok (.invokevirtual 145, 3) := by decide +kernel
theorem dX4_began_60 : decode cX4_began 60 = .ok (.aload_n 0, 1) := by decide +kernel
theorem dX4_began_61 : decode cX4_began 61 = .ok (.getfield 30, 3) := by decide +kernel
theorem dX4_began_64 : decode cX4_began 64 = .ok (.aload_n 0, 1) := by decide +kernel
theorem dX4_began_65 : decode cX4_began 65 = .ok (.getfield 10, 3) := by decide +kernel
theorem dX4_began_68 : decode cX4_began 68 = .ok (.invokevirtual 134, 3) := by decide +kernel
theorem dX4_began_71 : decode cX4_began 71 = .ok (.bipush (-6), 2) := by decide +kernel
theorem dX4_began_73 : decode cX4_began 73 = .ok (.if_icmp .ne 9, 3) := by decide +kernel
theorem dX4_began_76 : decode cX4_began 76 = .ok (.iload_n 1, 1) := by decide +kernel
theorem dX4_began_77 : decode cX4_began 77 = .ok (.iconst 1, 1) := by decide +kernel
theorem dX4_began_78 : decode cX4_began 78 = .ok (.iload_n 2, 1) := by decide +kernel
theorem dX4_began_79 : decode cX4_began 79 = .ok (.ishl, 1) := by decide +kernel
theorem dX4_began_80 : decode cX4_began 80 = .ok (.ior, 1) := by decide +kernel
theorem dX4_began_81 : decode cX4_began 81 = .ok (.istore_n 1, 1) := by decide +kernel
theorem dX4_began_82 : decode cX4_began 82 = .ok (.iinc 2 1, 3) := by decide +kernel
theorem dX4_began_85 : decode cX4_began 85 = .ok (.goto (-63), 3) := by decide +kernel
theorem dX4_began_88 : decode cX4_began 88 = .ok (.iload_n 1, 1) := by decide +kernel
theorem dX4_began_89 : decode cX4_began 89 = .ok (.ireturn, 1) := by decide +kernel
theorem dX4_spread_0 : decode cX4_spread 0 = .ok (.iload_n 1, 1) := by decide +kernel
theorem dX4_spread_1 : decode cX4_spread 1 = .ok (.invokestatic 43, 3) := by decide +kernel
theorem dX4_spread_4 : decode cX4_spread 4 = .ok (.ifCond .ne 5, 3) := by decide +kernel
theorem dX4_spread_7 : decode cX4_spread 7 = .ok (.iconst (-1), 1) := by decide +kernel
theorem dX4_spread_8 : decode cX4_spread 8 = .ok (.ireturn, 1) := by decide +kernel
theorem dX4_spread_9 : decode cX4_spread 9 = .ok (.aload_n 0, 1) := by decide +kernel
theorem dX4_spread_10 : decode cX4_spread 10 = .ok (.invokevirtual 95, 3) := by decide +kernel
theorem dX4_spread_13 : decode cX4_spread 13 = .ok (.aload_n 0, 1) := by decide +kernel
theorem dX4_spread_14 : decode cX4_spread 14 = .ok (.getfield 10, 3) := by decide +kernel
theorem dX4_spread_17 : decode cX4_spread 17 = .ok (.iload_n 1, 1) := by decide +kernel
theorem dX4_spread_18 : decode cX4_spread 18 = .ok (.invokevirtual 149, 3) := by decide +kernel
theorem dX4_spread_21 : decode cX4_spread 21 = .ok (.ireturn, 1) := by decide +kernel
theorem dX4_waited_0 : decode cX4_waited 0 = .ok (.iload_n 1, 1) := by decide +kernel
theorem dX4_waited_1 : decode cX4_waited 1 = .ok (.invokestatic 43, 3) := by decide +kernel
theorem dX4_waited_4 : decode cX4_waited 4 = .ok (.ifCond .ne 5, 3) := by decide +kernel
theorem dX4_waited_7 : decode cX4_waited 7 = .ok (.iconst (-1), 1) := by decide +kernel
theorem dX4_waited_8 : decode cX4_waited 8 = .ok (.ireturn, 1) := by decide +kernel
theorem dX4_waited_9 : decode cX4_waited 9 = .ok (.iload_n 2, 1) := by decide +kernel
theorem dX4_waited_10 : decode cX4_waited 10 = .ok (.ifCond .lt 8, 3) := by decide +kernel
theorem dX4_waited_13 : decode cX4_waited 13 = .ok (.iload_n 2, 1) := by decide +kernel
theorem dX4_waited_14 : decode cX4_waited 14 = .ok (.iconst 2, 1) := by decide +kernel
theorem dX4_waited_15 : decode cX4_waited 15 = .ok (.if_icmp .le 6, 3) := by decide +kernel
theorem dX4_waited_18 : decode cX4_waited 18 = .ok (.bipush (-2), 2) := by decide +kernel
theorem dX4_waited_20 : decode cX4_waited 20 = .ok (.ireturn, 1) := by decide +kernel
theorem dX4_waited_21 : decode cX4_waited 21 = .ok (.aload_n 0, 1) := by decide +kernel
theorem dX4_waited_22 : decode cX4_waited 22 = .ok (.invokevirtual 95, 3) := by decide +kernel
theorem dX4_waited_25 : decode cX4_waited 25 = .ok (.iload_n 1, 1) := by decide +kernel
theorem dX4_waited_26 : decode cX4_waited 26 = .ok (.iload_n 2, 1) := by decide +kernel
theorem dX4_waited_27 : decode cX4_waited 27 = .ok (.invokevirtual 152, 3) := by decide +kernel
theorem dX4_waited_30 : decode cX4_waited 30 = .ok (.ireturn, 1) := by decide +kernel
theorem dX4_mean_0 : decode cX4_mean 0 = .ok (.iload_n 1, 1) := by decide +kernel
theorem dX4_mean_1 : decode cX4_mean 1 = .ok (.invokestatic 43, 3) := by decide +kernel
theorem dX4_mean_4 : decode cX4_mean 4 = .ok (.ifCond .ne 7, 3) := by decide +kernel
theorem dX4_mean_7 : decode cX4_mean 7 = .ok (.ldc2_w 155, 3) := by decide +kernel
theorem dX4_mean_10 : decode cX4_mean 10 = .ok (.lreturn, 1) := by decide +kernel
theorem dX4_mean_11 : decode cX4_mean 11 = .ok (.iload_n 2, 1) := by decide +kernel
theorem dX4_mean_12 : decode cX4_mean 12 = .ok (.ifCond .lt 17, 3) := by decide +kernel
theorem dX4_mean_15 : decode cX4_mean 15 = .ok (.iload_n 2, 1) := by decide +kernel
theorem dX4_mean_16 : decode cX4_mean 16 = .ok (.iconst 1, 1) := by decide +kernel
theorem dX4_mean_17 : decode cX4_mean 17 = .ok (.if_icmp .gt 12, 3) := by decide +kernel
theorem dX4_mean_20 : decode cX4_mean 20 = .ok (.iload_n 3, 1) := by decide +kernel
theorem dX4_mean_21 : decode cX4_mean 21 = .ok (.ifCond .lt 8, 3) := by decide +kernel
theorem dX4_mean_24 : decode cX4_mean 24 = .ok (.iload_n 3, 1) := by decide +kernel
theorem dX4_mean_25 : decode cX4_mean 25 = .ok (.iconst 1, 1) := by decide +kernel
theorem dX4_mean_26 : decode cX4_mean 26 = .ok (.if_icmp .le 7, 3) := by decide +kernel
theorem dX4_mean_29 : decode cX4_mean 29 = .ok (.ldc2_w 157, 3) := by decide +kernel
theorem dX4_mean_32 : decode cX4_mean 32 = .ok (.lreturn, 1) := by decide +kernel
theorem dX4_mean_33 : decode cX4_mean 33 = .ok (.aload_n 0, 1) := by decide +kernel
theorem dX4_mean_34 : decode cX4_mean 34 = .ok (.invokevirtual 95, 3) := by decide +kernel
theorem dX4_mean_37 : decode cX4_mean 37 = .ok (.astore 4, 2) := by decide +kernel
theorem dX4_mean_39 : decode cX4_mean 39 = .ok (.iload_n 2, 1) := by decide +kernel
theorem dX4_mean_40 : decode cX4_mean 40 = .ok (.ifCond .ne 23, 3) := by decide +kernel
theorem dX4_mean_43 : decode cX4_mean 43 = .ok (.aload 4, 2) := by decide +kernel
theorem dX4_mean_45 : decode cX4_mean 45 = .ok (.getfield 159, 3) := by decide +kernel
theorem dX4_mean_48 : decode cX4_mean 48 = .ok (.iload_n 1, 1) := by decide +kernel
theorem dX4_mean_49 : decode cX4_mean 49 = .ok (.laload, 1) := by decide +kernel
theorem dX4_mean_50 : decode cX4_mean 50 = .ok (.aload 4, 2) := by decide +kernel
theorem dX4_mean_52 : decode cX4_mean 52 = .ok (.getfield 163, 3) := by decide +kernel
theorem dX4_mean_55 : decode cX4_mean 55 = .ok (.iload_n 1, 1) := by decide +kernel
theorem dX4_mean_56 : decode cX4_mean 56 = .ok (.iaload, 1) := by decide +kernel
theorem dX4_mean_57 : decode cX4_mean 57 = .ok (.i2l, 1) := by decide +kernel
theorem dX4_mean_58 : decode cX4_mean 58 = .ok (.iload_n 3, 1) := by decide +kernel
theorem dX4_mean_59 : decode cX4_mean 59 = .ok (.invokestatic 166, 3) := by decide +kernel
theorem dX4_mean_62 : decode cX4_mean 62 = .ok (.lreturn, 1) := by decide +kernel
theorem dX4_mean_63 : decode cX4_mean 63 = .ok (.aload 4, 2) := by decide +kernel
theorem dX4_mean_65 : decode cX4_mean 65 = .ok (.aload_n 0, 1) := by decide +kernel
theorem dX4_mean_66 : decode cX4_mean 66 = .ok (.getfield 10, 3) := by decide +kernel
theorem dX4_mean_69 : decode cX4_mean 69 = .ok (.iload_n 1, 1) := by decide +kernel
theorem dX4_mean_70 : decode cX4_mean 70 = .ok (.invokevirtual 122, 3) := by decide +kernel
theorem dX4_mean_73 : decode cX4_mean 73 = .ok (.istore 5, 2) := by decide +kernel
theorem dX4_mean_75 : decode cX4_mean 75 = .ok (.aload 4, 2) := by decide +kernel
theorem dX4_mean_77 : decode cX4_mean 77 = .ok (.iload_n 1, 1) := by decide +kernel
theorem dX4_mean_78 : decode cX4_mean 78 = .ok (.iload 5, 2) := by decide +kernel
theorem dX4_mean_80 : decode cX4_mean 80 = .ok (.invokevirtual 170, 3) := by decide +kernel
theorem dX4_mean_83 : decode cX4_mean 83 = .ok (.i2l, 1) := by decide +kernel
theorem dX4_mean_84 : decode cX4_mean 84 = .ok (.ldc2_w 173, 3) := by decide +kernel
theorem dX4_mean_87 : decode cX4_mean 87 = .ok (.iload 5, 2) := by decide +kernel
theorem dX4_mean_89 : decode cX4_mean 89 = .ok (.iconst 1, 1) := by decide +kernel
theorem dX4_mean_90 : decode cX4_mean 90 = .ok (.isub, 1) := by decide +kernel
theorem dX4_mean_91 : decode cX4_mean 91 = .ok (.i2l, 1) := by decide +kernel
theorem dX4_mean_92 : decode cX4_mean 92 = .ok (.lmul, 1) := by decide +kernel
theorem dX4_mean_93 : decode cX4_mean 93 = .ok (.iload_n 3, 1) := by decide +kernel
theorem dX4_mean_94 : decode cX4_mean 94 = .ok (.invokestatic 166, 3) := by decide +kernel
theorem dX4_mean_97 : decode cX4_mean 97 = .ok (.lreturn, 1) := by decide +kernel
theorem dX4_all_0 : decode cX4_all 0 = .ok (.iload_n 1, 1) := by decide +kernel
theorem dX4_all_1 : decode cX4_all 1 = .ok (.ifCond .lt 8, 3) := by decide +kernel
theorem dX4_all_4 : decode cX4_all 4 = .ok (.iload_n 1, 1) := by decide +kernel
theorem dX4_all_5 : decode cX4_all 5 = .ok (.iconst 2, 1) := by decide +kernel
theorem dX4_all_6 : decode cX4_all 6 = .ok (.if_icmp .le 6, 3) := by decide +kernel
theorem dX4_all_9 : decode cX4_all 9 = .ok (.bipush (-2), 2) := by decide +kernel
theorem dX4_all_11 : decode cX4_all 11 = .ok (.ireturn, 1) := by decide +kernel
theorem dX4_all_12 : decode cX4_all 12 = .ok (.aload_n 0, 1) := by decide +kernel
theorem dX4_all_13 : decode cX4_all 13 = .ok (.invokevirtual 95, 3) := by decide +kernel
theorem dX4_all_16 : decode cX4_all 16 = .ok (.astore_n 2, 1) := by decide +kernel
theorem dX4_all_17 : decode cX4_all 17 = .ok (.iload_n 1, 1) := by decide +kernel
theorem dX4_all_18 : decode cX4_all 18 = .ok (.lookupswitch 38 #[(0, 26), (1, 32)], 26) := by decide +kernel
theorem dX4_all_44 : decode cX4_all 44 = .ok (.aload_n 2, 1) := by decide +kernel
theorem dX4_all_45 : decode cX4_all 45 = .ok (.invokevirtual 175, 3) := by decide +kernel
theorem dX4_all_48 : decode cX4_all 48 = .ok (.l2i, 1) := by decide +kernel
theorem dX4_all_49 : decode cX4_all 49 = .ok (.ireturn, 1) := by decide +kernel
theorem dX4_all_50 : decode cX4_all 50 = .ok (.aload_n 2, 1) := by decide +kernel
theorem dX4_all_51 : decode cX4_all 51 = .ok (.getfield 179, 3) := by decide +kernel
theorem dX4_all_54 : decode cX4_all 54 = .ok (.l2i, 1) := by decide +kernel
theorem dX4_all_55 : decode cX4_all 55 = .ok (.ireturn, 1) := by decide +kernel
theorem dX4_all_56 : decode cX4_all 56 = .ok (.aload_n 2, 1) := by decide +kernel
theorem dX4_all_57 : decode cX4_all 57 = .ok (.getfield 183, 3) := by decide +kernel
theorem dX4_all_60 : decode cX4_all 60 = .ok (.ireturn, 1) := by decide +kernel
theorem dX4_held_0 : decode cX4_held 0 = .ok (.aload_n 0, 1) := by decide +kernel
theorem dX4_held_1 : decode cX4_held 1 = .ok (.getfield 10, 3) := by decide +kernel
theorem dX4_held_4 : decode cX4_held 4 = .ok (.iload_n 1, 1) := by decide +kernel
theorem dX4_held_5 : decode cX4_held 5 = .ok (.invokevirtual 77, 3) := by decide +kernel
theorem dX4_held_8 : decode cX4_held 8 = .ok (.ifCond .eq 22, 3) := by decide +kernel
theorem dX4_held_11 : decode cX4_held 11 = .ok (.iload_n 2, 1) := by decide +kernel
theorem dX4_held_12 : decode cX4_held 12 = .ok (.invokestatic 43, 3) := by decide +kernel
theorem dX4_held_15 : decode cX4_held 15 = .ok (.ifCond .eq 15, 3) := by decide +kernel
theorem dX4_held_18 : decode cX4_held 18 = .ok (.aload_n 0, 1) := by decide +kernel
theorem dX4_held_19 : decode cX4_held 19 = .ok (.getfield 10, 3) := by decide +kernel
theorem dX4_held_22 : decode cX4_held 22 = .ok (.iload_n 1, 1) := by decide +kernel
theorem dX4_held_23 : decode cX4_held 23 = .ok (.iload_n 2, 1) := by decide +kernel
theorem dX4_held_24 : decode cX4_held 24 = .ok (.invokevirtual 92, 3) := by decide +kernel
theorem dX4_held_27 : decode cX4_held 27 = .ok (.ifCond .ne 6, 3) := by decide +kernel
theorem dX4_held_30 : decode cX4_held 30 = .ok (.ldc 186, 2) := by decide +kernel
theorem dX4_held_32 : decode cX4_held 32 = .ok (.ireturn, 1) := by decide +kernel
theorem dX4_held_33 : decode cX4_held 33 = .ok (.iload_n 3, 1) := by decide +kernel
theorem dX4_held_34 : decode cX4_held 34 = .ok (.iconst 1, 1) := by decide +kernel
theorem dX4_held_35 : decode cX4_held 35 = .ok (.if_icmp .lt 10, 3) := by decide +kernel
theorem dX4_held_38 : decode cX4_held 38 = .ok (.iload_n 3, 1) := by decide +kernel
theorem dX4_held_39 : decode cX4_held 39 = .ok (.sipush 900, 3) := by decide +kernel
theorem dX4_held_42 : decode cX4_held 42 = .ok (.if_icmp .le 6, 3) := by decide +kernel
theorem dX4_held_45 : decode cX4_held 45 = .ok (.ldc 186, 2) := by decide +kernel
theorem dX4_held_47 : decode cX4_held 47 = .ok (.ireturn, 1) := by decide +kernel
theorem dX4_held_48 : decode cX4_held 48 = .ok (.aload_n 0, 1) := by decide +kernel
theorem dX4_held_49 : decode cX4_held 49 = .ok (.getfield 30, 3) := by decide +kernel
theorem dX4_held_52 : decode cX4_held 52 = .ok (.aload_n 0, 1) := by decide +kernel
theorem dX4_held_53 : decode cX4_held 53 = .ok (.getfield 10, 3) := by decide +kernel
theorem dX4_held_56 : decode cX4_held 56 = .ok (.bipush (-6), 2) := by decide +kernel
theorem dX4_held_58 : decode cX4_held 58 = .ok (.invokevirtual 141, 3) := by decide +kernel
theorem dX4_held_61 : decode cX4_held 61 = .ok (.aload_n 0, 1) := by decide +kernel
theorem dX4_held_62 : decode cX4_held 62 = .ok (.getfield 30, 3) := by decide +kernel
theorem dX4_held_65 : decode cX4_held 65 = .ok (.getfield 187, 3) := by decide +kernel
theorem dX4_held_68 : decode cX4_held 68 = .ok (.iload_n 1, 1) := by decide +kernel
theorem dX4_held_69 : decode cX4_held 69 = .ok (.iload_n 2, 1) := by decide +kernel
theorem dX4_held_70 : decode cX4_held 70 = .ok (.invokestatic 99, 3) := by decide +kernel
theorem dX4_held_73 : decode cX4_held 73 = .ok (.dup2, 1) := by decide +kernel
theorem dX4_held_74 : decode cX4_held 74 = .ok (.iaload, 1) := by decide +kernel
theorem dX4_held_75 : decode cX4_held 75 = .ok (.iload_n 3, 1) := by decide +kernel
theorem dX4_held_76 : decode cX4_held 76 = .ok (.iadd, 1) := by decide +kernel
theorem dX4_held_77 : decode cX4_held 77 = .ok (.iastore, 1) := by decide +kernel
theorem dX4_held_78 : decode cX4_held 78 = .ok (.aload_n 0, 1) := by decide +kernel
theorem dX4_held_79 : decode cX4_held 79 = .ok (.getfield 30, 3) := by decide +kernel
theorem dX4_held_82 : decode cX4_held 82 = .ok (.aload_n 0, 1) := by decide +kernel
theorem dX4_held_83 : decode cX4_held 83 = .ok (.getfield 10, 3) := by decide +kernel
theorem dX4_held_86 : decode cX4_held 86 = .ok (.aload_n 0, 1) := by decide +kernel
theorem dX4_held_87 : decode cX4_held 87 = .ok (.getfield 36, 3) := by decide +kernel
theorem dX4_held_90 : decode cX4_held 90 = .ok (.invokevirtual 145, 3) := by decide +kernel
theorem dX4_held_93 : decode cX4_held 93 = .ok (.aload_n 0, 1) := by decide +kernel
theorem dX4_held_94 : decode cX4_held 94 = .ok (.invokevirtual 95, 3) := by decide +kernel
theorem dX4_held_97 : decode cX4_held 97 = .ok (.astore 4, 2) := by decide +kernel
theorem dX4_held_99 : decode cX4_held 99 = .ok (.aload_n 0, 1) := by decide +kernel
theorem dX4_held_100 : decode cX4_held 100 = .ok (.getfield 30, 3) := by decide +kernel
theorem dX4_held_103 : decode cX4_held 103 = .ok (.invokevirtual 175, 3) := by decide +kernel
theorem dX4_held_106 : decode cX4_held 106 = .ok (.aload_n 0, 1) := by decide +kernel
theorem dX4_held_107 : decode cX4_held 107 = .ok (.getfield 30, 3) := by decide +kernel
theorem dX4_held_110 : decode cX4_held 110 = .ok (.getfield 179, 3) := by decide +kernel
theorem dX4_held_113 : decode cX4_held 113 = .ok (.ladd, 1) := by decide +kernel
theorem dX4_held_114 : decode cX4_held 114 = .ok (.aload 4, 2) := by decide +kernel
theorem dX4_held_116 : decode cX4_held 116 = .ok (.invokevirtual 175, 3) := by decide +kernel
theorem dX4_held_119 : decode cX4_held 119 = .ok (.lsub, 1) := by decide +kernel
theorem dX4_held_120 : decode cX4_held 120 = .ok (.aload 4, 2) := by decide +kernel
theorem dX4_held_122 : decode cX4_held 122 = .ok (.getfield 179, 3) := by decide +kernel
theorem dX4_held_125 : decode cX4_held 125 = .ok (.lsub, 1) := by decide +kernel
theorem dX4_held_126 : decode cX4_held 126 = .ok (.l2i, 1) := by decide +kernel
theorem dX4_held_127 : decode cX4_held 127 = .ok (.ireturn, 1) := by decide +kernel
theorem dX4_board_0 : decode cX4_board 0 = .ok (.iload_n 1, 1) := by decide +kernel
theorem dX4_board_1 : decode cX4_board 1 = .ok (.iconst 1, 1) := by decide +kernel
theorem dX4_board_2 : decode cX4_board 2 = .ok (.if_icmp .lt 9, 3) := by decide +kernel
theorem dX4_board_5 : decode cX4_board 5 = .ok (.iload_n 1, 1) := by decide +kernel
theorem dX4_board_6 : decode cX4_board 6 = .ok (.bipush 9, 2) := by decide +kernel
theorem dX4_board_8 : decode cX4_board 8 = .ok (.if_icmp .le 5, 3) := by decide +kernel
theorem dX4_board_11 : decode cX4_board 11 = .ok (.iconst (-1), 1) := by decide +kernel
theorem dX4_board_12 : decode cX4_board 12 = .ok (.ireturn, 1) := by decide +kernel
theorem dX4_board_13 : decode cX4_board 13 = .ok (.iload_n 2, 1) := by decide +kernel
theorem dX4_board_14 : decode cX4_board 14 = .ok (.ifCond .lt 19, 3) := by decide +kernel
theorem dX4_board_17 : decode cX4_board 17 = .ok (.iload_n 2, 1) := by decide +kernel
theorem dX4_board_18 : decode cX4_board 18 = .ok (.sipush 20000, 3) := by decide +kernel
theorem dX4_board_21 : decode cX4_board 21 = .ok (.if_icmp .gt 12, 3) := by decide +kernel
theorem dX4_board_24 : decode cX4_board 24 = .ok (.iload_n 3, 1) := by decide +kernel
theorem dX4_board_25 : decode cX4_board 25 = .ok (.ifCond .lt 8, 3) := by decide +kernel
theorem dX4_board_28 : decode cX4_board 28 = .ok (.iload_n 3, 1) := by decide +kernel
theorem dX4_board_29 : decode cX4_board 29 = .ok (.iconst 2, 1) := by decide +kernel
theorem dX4_board_30 : decode cX4_board 30 = .ok (.if_icmp .le 6, 3) := by decide +kernel
theorem dX4_board_33 : decode cX4_board 33 = .ok (.bipush (-2), 2) := by decide +kernel
theorem dX4_board_35 : decode cX4_board 35 = .ok (.ireturn, 1) := by decide +kernel
theorem dX4_board_36 : decode cX4_board 36 = .ok (.aload_n 0, 1) := by decide +kernel
theorem dX4_board_37 : decode cX4_board 37 = .ok (.invokevirtual 95, 3) := by decide +kernel
theorem dX4_board_40 : decode cX4_board 40 = .ok (.astore 4, 2) := by decide +kernel
theorem dX4_board_42 : decode cX4_board 42 = .ok (.aload 4, 2) := by decide +kernel
theorem dX4_board_44 : decode cX4_board 44 = .ok (.aload_n 0, 1) := by decide +kernel
theorem dX4_board_45 : decode cX4_board 45 = .ok (.getfield 10, 3) := by decide +kernel
theorem dX4_board_48 : decode cX4_board 48 = .ok (.iload_n 1, 1) := by decide +kernel
theorem dX4_board_49 : decode cX4_board 49 = .ok (.iload_n 2, 1) := by decide +kernel
theorem dX4_board_50 : decode cX4_board 50 = .ok (.invokevirtual 190, 3) := by decide +kernel
theorem dX4_board_53 : decode cX4_board 53 = .ok (.istore 5, 2) := by decide +kernel
theorem dX4_board_55 : decode cX4_board 55 = .ok (.iload 5, 2) := by decide +kernel
theorem dX4_board_57 : decode cX4_board 57 = .ok (.bipush (-6), 2) := by decide +kernel
theorem dX4_board_59 : decode cX4_board 59 = .ok (.if_icmp .ne 16, 3) := by decide +kernel
theorem dX4_board_62 : decode cX4_board 62 = .ok (.iload_n 3, 1) := by decide +kernel
theorem dX4_board_63 : decode cX4_board 63 = .ok (.iconst 2, 1) := by decide +kernel
theorem dX4_board_64 : decode cX4_board 64 = .ok (.if_icmp .ne 8, 3) := by decide +kernel
theorem dX4_board_67 : decode cX4_board 67 = .ok (.ldc 186, 2) := by decide +kernel
theorem dX4_board_69 : decode cX4_board 69 = .ok (.goto 5, 3) := by decide +kernel
theorem dX4_board_72 : decode cX4_board 72 = .ok (.bipush (-6), 2) := by decide +kernel
theorem dX4_board_74 : decode cX4_board 74 = .ok (.ireturn, 1) := by decide +kernel
theorem dX4_board_75 : decode cX4_board 75 = .ok (.iload_n 3, 1) := by decide +kernel
theorem dX4_board_76 : decode cX4_board 76 = .ok (.iconst 1, 1) := by decide +kernel
theorem dX4_board_77 : decode cX4_board 77 = .ok (.if_icmp .ne 6, 3) := by decide +kernel
theorem dX4_board_80 : decode cX4_board 80 = .ok (.iload 5, 2) := by decide +kernel
theorem dX4_board_82 : decode cX4_board 82 = .ok (.ireturn, 1) := by decide +kernel
theorem dX4_board_83 : decode cX4_board 83 = .ok (.aload 4, 2) := by decide +kernel
theorem dX4_board_85 : decode cX4_board 85 = .ok (.aload_n 0, 1) := by decide +kernel
theorem dX4_board_86 : decode cX4_board 86 = .ok (.getfield 10, 3) := by decide +kernel
theorem dX4_board_89 : decode cX4_board 89 = .ok (.iload 5, 2) := by decide +kernel
theorem dX4_board_91 : decode cX4_board 91 = .ok (.iload_n 1, 1) := by decide +kernel
theorem dX4_board_92 : decode cX4_board 92 = .ok (.iload_n 2, 1) := by decide +kernel
theorem dX4_board_93 : decode cX4_board 93 = .ok (.invokevirtual 194, 3) := by decide +kernel
theorem dX4_board_96 : decode cX4_board 96 = .ok (.istore 6, 2) := by decide +kernel
theorem dX4_board_98 : decode cX4_board 98 = .ok (.iload_n 3, 1) := by decide +kernel
theorem dX4_board_99 : decode cX4_board 99 = .ok (.ifCond .ne 8, 3) := by decide +kernel
theorem dX4_board_102 : decode cX4_board 102 = .ok (.iload 6, 2) := by decide +kernel
theorem dX4_board_104 : decode cX4_board 104 = .ok (.goto 20, 3) := by decide +kernel
theorem dX4_board_107 : decode cX4_board 107 = .ok (.aload 4, 2) := by decide +kernel
theorem dX4_board_109 : decode cX4_board 109 = .ok (.getfield 198, 3) := by decide +kernel
theorem dX4_board_112 : decode cX4_board 112 = .ok (.iload 5, 2) := by decide +kernel
theorem dX4_board_114 : decode cX4_board 114 = .ok (.iload_n 1, 1) := by decide +kernel
theorem dX4_board_115 : decode cX4_board 115 = .ok (.invokestatic 99, 3) := by decide +kernel
theorem dX4_board_118 : decode cX4_board 118 = .ok (.iaload, 1) := by decide +kernel
theorem dX4_board_119 : decode cX4_board 119 = .ok (.iload_n 2, 1) := by decide +kernel
theorem dX4_board_120 : decode cX4_board 120 = .ok (.isub, 1) := by decide +kernel
theorem dX4_board_121 : decode cX4_board 121 = .ok (.iload 6, 2) := by decide +kernel
theorem dX4_board_123 : decode cX4_board 123 = .ok (.isub, 1) := by decide +kernel
theorem dX4_board_124 : decode cX4_board 124 = .ok (.ireturn, 1) := by decide +kernel
theorem dX4_best_0 : decode cX4_best 0 = .ok (.iload_n 1, 1) := by decide +kernel
theorem dX4_best_1 : decode cX4_best 1 = .ok (.ifCond .lt 8, 3) := by decide +kernel
theorem dX4_best_4 : decode cX4_best 4 = .ok (.iload_n 1, 1) := by decide +kernel
theorem dX4_best_5 : decode cX4_best 5 = .ok (.iconst 1, 1) := by decide +kernel
theorem dX4_best_6 : decode cX4_best 6 = .ok (.if_icmp .le 6, 3) := by decide +kernel
theorem dX4_best_9 : decode cX4_best 9 = .ok (.bipush (-2), 2) := by decide +kernel
theorem dX4_best_11 : decode cX4_best 11 = .ok (.ireturn, 1) := by decide +kernel
theorem dX4_best_12 : decode cX4_best 12 = .ok (.aload_n 0, 1) := by decide +kernel
theorem dX4_best_13 : decode cX4_best 13 = .ok (.getfield 10, 3) := by decide +kernel
theorem dX4_best_16 : decode cX4_best 16 = .ok (.getfield 62, 3) := by decide +kernel
theorem dX4_best_19 : decode cX4_best 19 = .ok (.iconst 1, 1) := by decide +kernel
theorem dX4_best_20 : decode cX4_best 20 = .ok (.if_icmp .ge 6, 3) := by decide +kernel
theorem dX4_best_23 : decode cX4_best 23 = .ok (.bipush (-3), 2) := by decide +kernel
theorem dX4_best_25 : decode cX4_best 25 = .ok (.ireturn, 1) := by decide +kernel
theorem dX4_best_26 : decode cX4_best 26 = .ok (.aload_n 0, 1) := by decide +kernel
theorem dX4_best_27 : decode cX4_best 27 = .ok (.getfield 201, 3) := by decide +kernel
theorem dX4_best_30 : decode cX4_best 30 = .ok (.ifCond .ne 12, 3) := by decide +kernel
theorem dX4_best_33 : decode cX4_best 33 = .ok (.aload_n 0, 1) := by decide +kernel
theorem dX4_best_34 : decode cX4_best 34 = .ok (.invokevirtual 205, 3) := by decide +kernel
theorem dX4_best_37 : decode cX4_best 37 = .ok (.aload_n 0, 1) := by decide +kernel
theorem dX4_best_38 : decode cX4_best 38 = .ok (.iconst 1, 1) := by decide +kernel
theorem dX4_best_39 : decode cX4_best 39 = .ok (.putfield 201, 3) := by decide +kernel
theorem dX4_best_42 : decode cX4_best 42 = .ok (.iload_n 1, 1) := by decide +kernel
theorem dX4_best_43 : decode cX4_best 43 = .ok (.ifCond .ne 10, 3) := by decide +kernel
theorem dX4_best_46 : decode cX4_best 46 = .ok (.aload_n 0, 1) := by decide +kernel
theorem dX4_best_47 : decode cX4_best 47 = .ok (.getfield 208, 3) := by decide +kernel
theorem dX4_best_50 : decode cX4_best 50 = .ok (.goto 7, 3) := by decide +kernel
theorem dX4_best_53 : decode cX4_best 53 = .ok (.aload_n 0, 1) := by decide +kernel
theorem dX4_best_54 : decode cX4_best 54 = .ok (.getfield 211, 3) := by decide +kernel
theorem dX4_best_57 : decode cX4_best 57 = .ok (.ireturn, 1) := by decide +kernel
theorem dX4_told_0 : decode cX4_told 0 = .ok (.iload_n 1, 1) := by decide +kernel
theorem dX4_told_1 : decode cX4_told 1 = .ok (.tableswitch 63 0 3 #[31, 39, 47, 55], 31) := by decide +kernel
theorem dX4_told_32 : decode cX4_told 32 = .ok (.aload_n 0, 1) := by decide +kernel
theorem dX4_told_33 : decode cX4_told 33 = .ok (.getfield 10, 3) := by decide +kernel
theorem dX4_told_36 : decode cX4_told 36 = .ok (.getfield 62, 3) := by decide +kernel
theorem dX4_told_39 : decode cX4_told 39 = .ok (.ireturn, 1) := by decide +kernel
theorem dX4_told_40 : decode cX4_told 40 = .ok (.aload_n 0, 1) := by decide +kernel
theorem dX4_told_41 : decode cX4_told 41 = .ok (.getfield 10, 3) := by decide +kernel
theorem dX4_told_44 : decode cX4_told 44 = .ok (.getfield 80, 3) := by decide +kernel
theorem dX4_told_47 : decode cX4_told 47 = .ok (.ireturn, 1) := by decide +kernel
theorem dX4_told_48 : decode cX4_told 48 = .ok (.aload_n 0, 1) := by decide +kernel
theorem dX4_told_49 : decode cX4_told 49 = .ok (.getfield 19, 3) := by decide +kernel
theorem dX4_told_52 : decode cX4_told 52 = .ok (.getfield 105, 3) := by decide +kernel
theorem dX4_told_55 : decode cX4_told 55 = .ok (.ireturn, 1) := by decide +kernel
theorem dX4_told_56 : decode cX4_told 56 = .ok (.aload_n 0, 1) := by decide +kernel
theorem dX4_told_57 : decode cX4_told 57 = .ok (.getfield 36, 3) := by decide +kernel
theorem dX4_told_60 : decode cX4_told 60 = .ok (.getfield 116, 3) := by decide +kernel
theorem dX4_told_63 : decode cX4_told 63 = .ok (.ireturn, 1) := by decide +kernel
theorem dX4_told_64 : decode cX4_told 64 = .ok (.iload_n 1, 1) := by decide +kernel
theorem dX4_told_65 : decode cX4_told 65 = .ok (.iconst 4, 1) := by decide +kernel
theorem dX4_told_66 : decode cX4_told 66 = .ok (.if_icmp .lt 23, 3) := by decide +kernel
theorem dX4_told_69 : decode cX4_told 69 = .ok (.iload_n 1, 1) := by decide +kernel
theorem dX4_told_70 : decode cX4_told 70 = .ok (.bipush 9, 2) := by decide +kernel
theorem dX4_told_72 : decode cX4_told 72 = .ok (.if_icmp .ge 17, 3) := by decide +kernel
theorem dX4_told_75 : decode cX4_told 75 = .ok (.aload_n 0, 1) := by decide +kernel
theorem dX4_told_76 : decode cX4_told 76 = .ok (.getfield 10, 3) := by decide +kernel
theorem dX4_told_79 : decode cX4_told 79 = .ok (.getfield 74, 3) := by decide +kernel
theorem dX4_told_82 : decode cX4_told 82 = .ok (.iload_n 1, 1) := by decide +kernel
theorem dX4_told_83 : decode cX4_told 83 = .ok (.iconst 4, 1) := by decide +kernel
theorem dX4_told_84 : decode cX4_told 84 = .ok (.isub, 1) := by decide +kernel
theorem dX4_told_85 : decode cX4_told 85 = .ok (.iaload, 1) := by decide +kernel
theorem dX4_told_86 : decode cX4_told 86 = .ok (.goto 5, 3) := by decide +kernel
theorem dX4_told_89 : decode cX4_told 89 = .ok (.bipush (-2), 2) := by decide +kernel
theorem dX4_told_91 : decode cX4_told 91 = .ok (.ireturn, 1) := by decide +kernel
theorem dX4_isStop_0 : decode cX4_isStop 0 = .ok (.iload_n 0, 1) := by decide +kernel
theorem dX4_isStop_1 : decode cX4_isStop 1 = .ok (.ifCond .lt 13, 3) := by decide +kernel
theorem dX4_isStop_4 : decode cX4_isStop 4 = .ok (.iload_n 0, 1) := by decide +kernel
theorem dX4_isStop_5 : decode cX4_isStop 5 = .ok (.bipush 10, 2) := by decide +kernel
theorem dX4_isStop_7 : decode cX4_isStop 7 = .ok (.if_icmp .ge 7, 3) := by decide +kernel
theorem dX4_isStop_10 : decode cX4_isStop 10 = .ok (.iconst 1, 1) := by decide +kernel
theorem dX4_isStop_11 : decode cX4_isStop 11 = .ok (.goto 4, 3) := by decide +kernel
theorem dX4_isStop_14 : decode cX4_isStop 14 = .ok (.iconst 0, 1) := by decide +kernel
theorem dX4_isStop_15 : decode cX4_isStop 15 = .ok (.ireturn, 1) := by decide +kernel
theorem dX4_isGoingStop_0 : decode cX4_isGoingStop 0 = .ok (.iload_n 0, 1) := by decide +kernel
theorem dX4_isGoingStop_1 : decode cX4_isGoingStop 1 = .ok (.ifCond .lt 13, 3) := by decide +kernel
theorem dX4_isGoingStop_4 : decode cX4_isGoingStop 4 = .ok (.iload_n 0, 1) := by decide +kernel
theorem dX4_isGoingStop_5 : decode cX4_isGoingStop 5 = .ok (.bipush 9, 2) := by decide +kernel
theorem dX4_isGoingStop_7 : decode cX4_isGoingStop 7 = .ok (.if_icmp .ge 7, 3) := by decide +kernel
theorem dX4_isGoingStop_10 : decode cX4_isGoingStop 10 = .ok (.iconst 1, 1) := by decide +kernel
theorem dX4_isGoingStop_11 : decode cX4_isGoingStop 11 = .ok (.goto 4, 3) := by decide +kernel
theorem dX4_isGoingStop_14 : decode cX4_isGoingStop 14 = .ok (.iconst 0, 1) := by decide +kernel
theorem dX4_isGoingStop_15 : decode cX4_isGoingStop 15 = .ok (.ireturn, 1) := by decide +kernel
theorem dX4_cell_0 : decode cX4_cell 0 = .ok (.iload_n 0, 1) := by decide +kernel
theorem dX4_cell_1 : decode cX4_cell 1 = .ok (.bipush 10, 2) := by decide +kernel
theorem dX4_cell_3 : decode cX4_cell 3 = .ok (.imul, 1) := by decide +kernel
theorem dX4_cell_4 : decode cX4_cell 4 = .ok (.iload_n 1, 1) := by decide +kernel
theorem dX4_cell_5 : decode cX4_cell 5 = .ok (.iadd, 1) := by decide +kernel
theorem dX4_cell_6 : decode cX4_cell 6 = .ok (.ireturn, 1) := by decide +kernel
theorem dX4_forgetCourse_0 : decode cX4_forgetCourse 0 = .ok (.aload_n 0, 1) := by decide +kernel
theorem dX4_forgetCourse_1 : decode cX4_forgetCourse 1 = .ok (.iconst 0, 1) := by decide +kernel
theorem dX4_forgetCourse_2 : decode cX4_forgetCourse 2 = .ok (.putfield 214, 3) := by decide +kernel
theorem dX4_forgetCourse_5 : decode cX4_forgetCourse 5 = .ok (.aload_n 0, 1) := by decide +kernel
theorem dX4_forgetCourse_6 : decode cX4_forgetCourse 6 = .ok (.iconst 0, 1) := by decide +kernel
theorem dX4_forgetCourse_7 : decode cX4_forgetCourse 7 = .ok (.putfield 201, 3) := by decide +kernel
theorem dX4_forgetCourse_10 : decode cX4_forgetCourse 10 = .ok (.return_, 1) := by decide +kernel
theorem dX4_presentCourse_0 : decode cX4_presentCourse 0 = .ok (.aload_n 0, 1) := by decide +kernel
theorem dX4_presentCourse_1 : decode cX4_presentCourse 1 = .ok (.getfield 214, 3) := by decide +kernel
theorem dX4_presentCourse_4 : decode cX4_presentCourse 4 = .ok (.ifCond .ne 36, 3) := by decide +kernel
theorem dX4_presentCourse_7 : decode cX4_presentCourse 7 = .ok (.aload_n 0, 1) := by decide +kernel
theorem dX4_presentCourse_8 : decode cX4_presentCourse 8 = .ok (.getfield 26, 3) := by decide +kernel
theorem dX4_presentCourse_11 : decode cX4_presentCourse 11 = .ok (.aload_n 0, 1) := by decide +kernel
theorem dX4_presentCourse_12 : decode cX4_presentCourse 12 = .ok (.getfield 10, 3) := by decide +kernel
theorem dX4_presentCourse_15 : decode cX4_presentCourse 15 = .ok (.bipush (-6), 2) := by decide +kernel
theorem dX4_presentCourse_17 : decode cX4_presentCourse 17 = .ok (.invokevirtual 141, 3) := by decide +kernel
theorem dX4_presentCourse_20 : decode cX4_presentCourse 20 = .ok (.aload_n 0, 1) := by decide +kernel
theorem dX4_presentCourse_21 : decode cX4_presentCourse 21 = .ok (.getfield 26, 3) := by decide +kernel
theorem dX4_presentCourse_24 : decode cX4_presentCourse 24 = .ok (.aload_n 0, 1) := by decide +kernel
theorem dX4_presentCourse_25 : decode cX4_presentCourse 25 = .ok (.getfield 10, 3) := by decide +kernel
theorem dX4_presentCourse_28 : decode cX4_presentCourse 28 = .ok (.aload_n 0, 1) := by decide +kernel
theorem dX4_presentCourse_29 : decode cX4_presentCourse 29 = .ok (.getfield 36, 3) := by decide +kernel
theorem dX4_presentCourse_32 : decode cX4_presentCourse 32 = .ok (.invokevirtual 145, 3) := by decide +kernel
theorem dX4_presentCourse_35 : decode cX4_presentCourse 35 = .ok (.aload_n 0, 1) := by decide +kernel
theorem dX4_presentCourse_36 : decode cX4_presentCourse 36 = .ok (.iconst 1, 1) := by decide +kernel
theorem dX4_presentCourse_37 : decode cX4_presentCourse 37 = .ok (.putfield 214, 3) := by decide +kernel
theorem dX4_presentCourse_40 : decode cX4_presentCourse 40 = .ok (.aload_n 0, 1) := by decide +kernel
theorem dX4_presentCourse_41 : decode cX4_presentCourse 41 = .ok (.getfield 26, 3) := by decide +kernel
theorem dX4_presentCourse_44 : decode cX4_presentCourse 44 = .ok (.areturn, 1) := by decide +kernel
theorem dX4_findBest_0 : decode cX4_findBest 0 = .ok (.aload_n 0, 1) := by decide +kernel
theorem dX4_findBest_1 : decode cX4_findBest 1 = .ok (.getfield 30, 3) := by decide +kernel
theorem dX4_findBest_4 : decode cX4_findBest 4 = .ok (.aload_n 0, 1) := by decide +kernel
theorem dX4_findBest_5 : decode cX4_findBest 5 = .ok (.getfield 10, 3) := by decide +kernel
theorem dX4_findBest_8 : decode cX4_findBest 8 = .ok (.bipush (-6), 2) := by decide +kernel
theorem dX4_findBest_10 : decode cX4_findBest 10 = .ok (.invokevirtual 141, 3) := by decide +kernel
theorem dX4_findBest_13 : decode cX4_findBest 13 = .ok (.lconst 0, 1) := by decide +kernel
theorem dX4_findBest_14 : decode cX4_findBest 14 = .ok (.lstore_n 1, 1) := by decide +kernel
theorem dX4_findBest_15 : decode cX4_findBest 15 = .ok (.iconst 0, 1) := by decide +kernel
theorem dX4_findBest_16 : decode cX4_findBest 16 = .ok (.istore_n 3, 1) := by decide +kernel
theorem dX4_findBest_17 : decode cX4_findBest 17 = .ok (.iload_n 3, 1) := by decide +kernel
theorem dX4_findBest_18 : decode cX4_findBest 18 = .ok (.bipush 9, 2) := by decide +kernel
theorem dX4_findBest_20 : decode cX4_findBest 20 = .ok (.if_icmp .ge 123, 3) := by decide +kernel
theorem dX4_findBest_23 : decode cX4_findBest 23 = .ok (.iconst 0, 1) := by decide +kernel
theorem dX4_findBest_24 : decode cX4_findBest 24 = .ok (.istore 4, 2) := by decide +kernel
theorem dX4_findBest_26 : decode cX4_findBest 26 = .ok (.iload 4, 2) := by decide +kernel
theorem dX4_findBest_28 : decode cX4_findBest 28 = .ok (.sipush 600, 3) := by decide +kernel
theorem dX4_findBest_31 : decode cX4_findBest 31 = .ok (.if_icmp .gt 106, 3) := by decide +kernel
theorem dX4_findBest_34 : decode cX4_findBest 34 = .ok (.aload_n 0, 1) := by decide +kernel
theorem dX4_findBest_35 : decode cX4_findBest 35 = .ok (.getfield 40, 3) := by decide +kernel
theorem dX4_findBest_38 : decode cX4_findBest 38 = .ok (.iload_n 3, 1) := by decide +kernel
theorem dX4_findBest_39 : decode cX4_findBest 39 = .ok (.iload 4, 2) := by decide +kernel
theorem dX4_findBest_41 : decode cX4_findBest 41 = .ok (.invokevirtual 217, 3) := by decide +kernel
theorem dX4_findBest_44 : decode cX4_findBest 44 = .ok (.aload_n 0, 1) := by decide +kernel
theorem dX4_findBest_45 : decode cX4_findBest 45 = .ok (.getfield 30, 3) := by decide +kernel
theorem dX4_findBest_48 : decode cX4_findBest 48 = .ok (.aload_n 0, 1) := by decide +kernel
theorem dX4_findBest_49 : decode cX4_findBest 49 = .ok (.getfield 10, 3) := by decide +kernel
theorem dX4_findBest_52 : decode cX4_findBest 52 = .ok (.aload_n 0, 1) := by decide +kernel
theorem dX4_findBest_53 : decode cX4_findBest 53 = .ok (.getfield 40, 3) := by decide +kernel
theorem dX4_findBest_56 : decode cX4_findBest 56 = .ok (.invokevirtual 145, 3) := by decide +kernel
theorem dX4_findBest_59 : decode cX4_findBest 59 = .ok (.aload_n 0, 1) := by decide +kernel
theorem dX4_findBest_60 : decode cX4_findBest 60 = .ok (.getfield 30, 3) := by decide +kernel
theorem dX4_findBest_63 : decode cX4_findBest 63 = .ok (.invokevirtual 175, 3) := by decide +kernel
theorem dX4_findBest_66 : decode cX4_findBest 66 = .ok (.aload_n 0, 1) := by decide +kernel
theorem dX4_findBest_67 : decode cX4_findBest 67 = .ok (.getfield 30, 3) := by decide +kernel
theorem dX4_findBest_70 : decode cX4_findBest 70 = .ok (.getfield 179, 3) := by decide +kernel
theorem dX4_findBest_73 : decode cX4_findBest 73 = .ok (.ladd, 1) := by decide +kernel
