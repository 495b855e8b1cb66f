theorem dX5_now_64 : decode cX5_now 64 = .ok (.ireturn, 1) := by decide +kernel
theorem dX5_now_65 : decode cX5_now 65 = .ok (.aload_n 0, 1) := by decide +kernel
theorem dX5_now_66 : decode cX5_now 66 = .ok (.getfield 29, 3) := by decide +kernel
theorem dX5_now_69 : decode cX5_now 69 = .ok (.invokevirtual 126, 3) := by decide +kernel
theorem dX5_now_72 : decode cX5_now 72 = .ok (.ireturn, 1) := by decide +kernel
theorem dX5_now_73 : decode cX5_now 73 = .ok (.aload_n 0, 1) := by decide +kernel
theorem dX5_now_74 : decode cX5_now 74 = .ok (.getfield 29, 3) := by decide +kernel
theorem dX5_now_77 : decode cX5_now 77 = .ok (.invokevirtual 129, 3) := by decide +kernel
theorem dX5_now_80 : decode cX5_now 80 = .ok (.invokestatic 132, 3) := by decide +kernel
theorem dX5_now_83 : decode cX5_now 83 = .ok (.ireturn, 1) := by decide +kernel
theorem dX5_now_84 : decode cX5_now 84 = .ok (.aload_n 0, 1) := by decide +kernel
theorem dX5_now_85 : decode cX5_now 85 = .ok (.invokevirtual 138, 3) := by decide +kernel
theorem dX5_now_88 : decode cX5_now 88 = .ok (.ireturn, 1) := by decide +kernel
theorem dX5_now_89 : decode cX5_now 89 = .ok (.aload_n 0, 1) := by decide +kernel
theorem dX5_now_90 : decode cX5_now 90 = .ok (.getfield 39, 3) := by decide +kernel
theorem dX5_now_93 : decode cX5_now 93 = .ok (.getfield 85, 3) := by decide +kernel
theorem dX5_now_96 : decode cX5_now 96 = .ok (.ireturn, 1) := by decide +kernel
theorem dX5_now_97 : decode cX5_now 97 = .ok (.iconst (-1), 1) := by decide +kernel
theorem dX5_now_98 : decode cX5_now 98 = .ok (.ireturn, 1) := by decide +kernel
theorem dX5_order_0 : decode cX5_order 0 = .ok (.iload_n 1, 1) := by decide +kernel
theorem dX5_order_1 : decode cX5_order 1 = .ok (.ifCond .lt 9, 3) := by decide +kernel
theorem dX5_order_4 : decode cX5_order 4 = .ok (.iload_n 1, 1) := by decide +kernel
theorem dX5_order_5 : decode cX5_order 5 = .ok (.bipush 6, 2) := by decide +kernel
theorem dX5_order_7 : decode cX5_order 7 = .ok (.if_icmp .lt 5, 3) := by decide +kernel
theorem dX5_order_10 : decode cX5_order 10 = .ok (.iconst (-1), 1) := by decide +kernel
theorem dX5_order_11 : decode cX5_order 11 = .ok (.ireturn, 1) := by decide +kernel
theorem dX5_order_12 : decode cX5_order 12 = .ok (.iconst 0, 1) := by decide +kernel
theorem dX5_order_13 : decode cX5_order 13 = .ok (.istore_n 2, 1) := by decide +kernel
theorem dX5_order_14 : decode cX5_order 14 = .ok (.iload_n 2, 1) := by decide +kernel
theorem dX5_order_15 : decode cX5_order 15 = .ok (.bipush 6, 2) := by decide +kernel
theorem dX5_order_17 : decode cX5_order 17 = .ok (.if_icmp .ge 34, 3) := by decide +kernel
theorem dX5_order_20 : decode cX5_order 20 = .ok (.aload_n 0, 1) := by decide +kernel
theorem dX5_order_21 : decode cX5_order 21 = .ok (.getfield 29, 3) := by decide +kernel
theorem dX5_order_24 : decode cX5_order 24 = .ok (.iload_n 2, 1) := by decide +kernel
theorem dX5_order_25 : decode cX5_order 25 = .ok (.invokevirtual 141, 3) := by decide +kernel
theorem dX5_order_28 : decode cX5_order 28 = .ok (.ifCond .eq 17, 3) := by decide +kernel
theorem dX5_order_31 : decode cX5_order 31 = .ok (.aload_n 0, 1) := by decide +kernel
theorem dX5_order_32 : decode cX5_order 32 = .ok (.getfield 29, 3) := by decide +kernel
theorem dX5_order_35 : decode cX5_order 35 = .ok (.iload_n 2, 1) := by decide +kernel
theorem dX5_order_36 : decode cX5_order 36 = .ok (.invokevirtual 144, 3) := by decide +kernel
theorem dX5_order_39 : decode cX5_order 39 = .ok (.iload_n 1, 1) := by decide +kernel
theorem dX5_order_40 : decode cX5_order 40 = .ok (.if_icmp .ne 5, 3) := by decide +kernel
theorem dX5_order_43 : decode cX5_order 43 = .ok (.iload_n 2, 1) := by decide +kernel
theorem dX5_order_44 : decode cX5_order 44 = .ok (.ireturn, 1) := by decide +kernel
theorem dX5_order_45 : decode cX5_order 45 = .ok (.iinc 2 1, 3) := by decide +kernel
theorem dX5_order_48 : decode cX5_order 48 = .ok (.goto (-34), 3) := by decide +kernel
theorem dX5_order_51 : decode cX5_order 51 = .ok (.bipush (-9), 2) := by decide +kernel
theorem dX5_order_53 : decode cX5_order 53 = .ok (.ireturn, 1) := by decide +kernel
theorem dX5_drops_0 : decode cX5_drops 0 = .ok (.aload_n 0, 1) := by decide +kernel
theorem dX5_drops_1 : decode cX5_drops 1 = .ok (.iload_n 1, 1) := by decide +kernel
theorem dX5_drops_2 : decode cX5_drops 2 = .ok (.invokevirtual 92, 3) := by decide +kernel
theorem dX5_drops_5 : decode cX5_drops 5 = .ok (.ifCond .ne 5, 3) := by decide +kernel
theorem dX5_drops_8 : decode cX5_drops 8 = .ok (.iconst (-1), 1) := by decide +kernel
theorem dX5_drops_9 : decode cX5_drops 9 = .ok (.ireturn, 1) := by decide +kernel
theorem dX5_drops_10 : decode cX5_drops 10 = .ok (.aload_n 0, 1) := by decide +kernel
theorem dX5_drops_11 : decode cX5_drops 11 = .ok (.getfield 29, 3) := by decide +kernel
theorem dX5_drops_14 : decode cX5_drops 14 = .ok (.iload_n 1, 1) := by decide +kernel
theorem dX5_drops_15 : decode cX5_drops 15 = .ok (.invokevirtual 147, 3) := by decide +kernel
theorem dX5_drops_18 : decode cX5_drops 18 = .ok (.ifCond .ne 6, 3) := by decide +kernel
theorem dX5_drops_21 : decode cX5_drops 21 = .ok (.bipush (-2), 2) := by decide +kernel
theorem dX5_drops_23 : decode cX5_drops 23 = .ok (.ireturn, 1) := by decide +kernel
theorem dX5_drops_24 : decode cX5_drops 24 = .ok (.aload_n 0, 1) := by decide +kernel
theorem dX5_drops_25 : decode cX5_drops 25 = .ok (.getfield 39, 3) := by decide +kernel
theorem dX5_drops_28 : decode cX5_drops 28 = .ok (.aload_n 0, 1) := by decide +kernel
theorem dX5_drops_29 : decode cX5_drops 29 = .ok (.getfield 29, 3) := by decide +kernel
theorem dX5_drops_32 : decode cX5_drops 32 = .ok (.invokevirtual 150, 3) := by decide +kernel
theorem dX5_drops_35 : decode cX5_drops 35 = .ok (.aload_n 0, 1) := by decide +kernel
theorem dX5_drops_36 : decode cX5_drops 36 = .ok (.getfield 29, 3) := by decide +kernel
theorem dX5_drops_39 : decode cX5_drops 39 = .ok (.iload_n 1, 1) := by decide +kernel
theorem dX5_drops_40 : decode cX5_drops 40 = .ok (.invokevirtual 154, 3) := by decide +kernel
theorem dX5_drops_43 : decode cX5_drops 43 = .ok (.aload_n 0, 1) := by decide +kernel
theorem dX5_drops_44 : decode cX5_drops 44 = .ok (.getfield 29, 3) := by decide +kernel
theorem dX5_drops_47 : decode cX5_drops 47 = .ok (.invokevirtual 158, 3) := by decide +kernel
theorem dX5_drops_50 : decode cX5_drops 50 = .ok (.invokestatic 132, 3) := by decide +kernel
theorem dX5_drops_53 : decode cX5_drops 53 = .ok (.ireturn, 1) := by decide +kernel
theorem dX5_minute_0 : decode cX5_minute 0 = .ok (.aload_n 0, 1) := by decide +kernel
theorem dX5_minute_1 : decode cX5_minute 1 = .ok (.getfield 29, 3) := by decide +kernel
theorem dX5_minute_4 : decode cX5_minute 4 = .ok (.getfield 116, 3) := by decide +kernel
theorem dX5_minute_7 : decode cX5_minute 7 = .ok (.bipush 99, 2) := by decide +kernel
theorem dX5_minute_9 : decode cX5_minute 9 = .ok (.if_icmp .lt 6, 3) := by decide +kernel
theorem dX5_minute_12 : decode cX5_minute 12 = .ok (.bipush (-2), 2) := by decide +kernel
theorem dX5_minute_14 : decode cX5_minute 14 = .ok (.ireturn, 1) := by decide +kernel
theorem dX5_minute_15 : decode cX5_minute 15 = .ok (.aload_n 0, 1) := by decide +kernel
theorem dX5_minute_16 : decode cX5_minute 16 = .ok (.getfield 39, 3) := by decide +kernel
theorem dX5_minute_19 : decode cX5_minute 19 = .ok (.aload_n 0, 1) := by decide +kernel
theorem dX5_minute_20 : decode cX5_minute 20 = .ok (.getfield 29, 3) := by decide +kernel
theorem dX5_minute_23 : decode cX5_minute 23 = .ok (.invokevirtual 150, 3) := by decide +kernel
theorem dX5_minute_26 : decode cX5_minute 26 = .ok (.aload_n 0, 1) := by decide +kernel
theorem dX5_minute_27 : decode cX5_minute 27 = .ok (.getfield 29, 3) := by decide +kernel
theorem dX5_minute_30 : decode cX5_minute 30 = .ok (.aload_n 0, 1) := by decide +kernel
theorem dX5_minute_31 : decode cX5_minute 31 = .ok (.getfield 19, 3) := by decide +kernel
theorem dX5_minute_34 : decode cX5_minute 34 = .ok (.invokevirtual 161, 3) := by decide +kernel
theorem dX5_minute_37 : decode cX5_minute 37 = .ok (.aload_n 0, 1) := by decide +kernel
theorem dX5_minute_38 : decode cX5_minute 38 = .ok (.getfield 29, 3) := by decide +kernel
theorem dX5_minute_41 : decode cX5_minute 41 = .ok (.invokevirtual 126, 3) := by decide +kernel
theorem dX5_minute_44 : decode cX5_minute 44 = .ok (.invokestatic 132, 3) := by decide +kernel
theorem dX5_minute_47 : decode cX5_minute 47 = .ok (.ireturn, 1) := by decide +kernel
theorem dX5_heats_0 : decode cX5_heats 0 = .ok (.iload_n 1, 1) := by decide +kernel
theorem dX5_heats_1 : decode cX5_heats 1 = .ok (.ifCond .lt 9, 3) := by decide +kernel
theorem dX5_heats_4 : decode cX5_heats 4 = .ok (.iload_n 1, 1) := by decide +kernel
theorem dX5_heats_5 : decode cX5_heats 5 = .ok (.bipush 9, 2) := by decide +kernel
theorem dX5_heats_7 : decode cX5_heats 7 = .ok (.if_icmp .le 5, 3) := by decide +kernel
theorem dX5_heats_10 : decode cX5_heats 10 = .ok (.iconst (-1), 1) := by decide +kernel
theorem dX5_heats_11 : decode cX5_heats 11 = .ok (.ireturn, 1) := by decide +kernel
theorem dX5_heats_12 : decode cX5_heats 12 = .ok (.aload_n 0, 1) := by decide +kernel
theorem dX5_heats_13 : decode cX5_heats 13 = .ok (.getfield 29, 3) := by decide +kernel
theorem dX5_heats_16 : decode cX5_heats 16 = .ok (.getfield 119, 3) := by decide +kernel
theorem dX5_heats_19 : decode cX5_heats 19 = .ok (.iload_n 1, 1) := by decide +kernel
theorem dX5_heats_20 : decode cX5_heats 20 = .ok (.if_icmp .ne 6, 3) := by decide +kernel
theorem dX5_heats_23 : decode cX5_heats 23 = .ok (.bipush (-2), 2) := by decide +kernel
theorem dX5_heats_25 : decode cX5_heats 25 = .ok (.ireturn, 1) := by decide +kernel
theorem dX5_heats_26 : decode cX5_heats 26 = .ok (.aload_n 0, 1) := by decide +kernel
theorem dX5_heats_27 : decode cX5_heats 27 = .ok (.getfield 39, 3) := by decide +kernel
theorem dX5_heats_30 : decode cX5_heats 30 = .ok (.aload_n 0, 1) := by decide +kernel
theorem dX5_heats_31 : decode cX5_heats 31 = .ok (.getfield 29, 3) := by decide +kernel
theorem dX5_heats_34 : decode cX5_heats 34 = .ok (.invokevirtual 150, 3) := by decide +kernel
theorem dX5_heats_37 : decode cX5_heats 37 = .ok (.aload_n 0, 1) := by decide +kernel
theorem dX5_heats_38 : decode cX5_heats 38 = .ok (.getfield 29, 3) := by decide +kernel
theorem dX5_heats_41 : decode cX5_heats 41 = .ok (.getfield 119, 3) := by decide +kernel
theorem dX5_heats_44 : decode cX5_heats 44 = .ok (.istore_n 2, 1) := by decide +kernel
theorem dX5_heats_45 : decode cX5_heats 45 = .ok (.aload_n 0, 1) := by decide +kernel
theorem dX5_heats_46 : decode cX5_heats 46 = .ok (.getfield 29, 3) := by decide +kernel
theorem dX5_heats_49 : decode cX5_heats 49 = .ok (.iload_n 1, 1) := by decide +kernel
theorem dX5_heats_50 : decode cX5_heats 50 = .ok (.putfield 119, 3) := by decide +kernel
theorem dX5_heats_53 : decode cX5_heats 53 = .ok (.iload_n 2, 1) := by decide +kernel
theorem dX5_heats_54 : decode cX5_heats 54 = .ok (.ireturn, 1) := by decide +kernel
theorem dX5_skewers_0 : decode cX5_skewers 0 = .ok (.aload_n 0, 1) := by decide +kernel
theorem dX5_skewers_1 : decode cX5_skewers 1 = .ok (.iload_n 1, 1) := by decide +kernel
theorem dX5_skewers_2 : decode cX5_skewers 2 = .ok (.invokevirtual 92, 3) := by decide +kernel
theorem dX5_skewers_5 : decode cX5_skewers 5 = .ok (.ifCond .ne 5, 3) := by decide +kernel
theorem dX5_skewers_8 : decode cX5_skewers 8 = .ok (.iconst (-1), 1) := by decide +kernel
theorem dX5_skewers_9 : decode cX5_skewers 9 = .ok (.ireturn, 1) := by decide +kernel
theorem dX5_skewers_10 : decode cX5_skewers 10 = .ok (.aload_n 0, 1) := by decide +kernel
theorem dX5_skewers_11 : decode cX5_skewers 11 = .ok (.getfield 29, 3) := by decide +kernel
theorem dX5_skewers_14 : decode cX5_skewers 14 = .ok (.iload_n 1, 1) := by decide +kernel
theorem dX5_skewers_15 : decode cX5_skewers 15 = .ok (.invokevirtual 147, 3) := by decide +kernel
theorem dX5_skewers_18 : decode cX5_skewers 18 = .ok (.ifCond .eq 6, 3) := by decide +kernel
theorem dX5_skewers_21 : decode cX5_skewers 21 = .ok (.bipush (-2), 2) := by decide +kernel
theorem dX5_skewers_23 : decode cX5_skewers 23 = .ok (.ireturn, 1) := by decide +kernel
theorem dX5_skewers_24 : decode cX5_skewers 24 = .ok (.aload_n 0, 1) := by decide +kernel
theorem dX5_skewers_25 : decode cX5_skewers 25 = .ok (.getfield 39, 3) := by decide +kernel
theorem dX5_skewers_28 : decode cX5_skewers 28 = .ok (.aload_n 0, 1) := by decide +kernel
theorem dX5_skewers_29 : decode cX5_skewers 29 = .ok (.getfield 29, 3) := by decide +kernel
theorem dX5_skewers_32 : decode cX5_skewers 32 = .ok (.invokevirtual 150, 3) := by decide +kernel
theorem dX5_skewers_35 : decode cX5_skewers 35 = .ok (.aload_n 0, 1) := by decide +kernel
theorem dX5_skewers_36 : decode cX5_skewers 36 = .ok (.getfield 29, 3) := by decide +kernel
theorem dX5_skewers_39 : decode cX5_skewers 39 = .ok (.iload_n 1, 1) := by decide +kernel
theorem dX5_skewers_40 : decode cX5_skewers 40 = .ok (.invokevirtual 164, 3) := by decide +kernel
theorem dX5_skewers_43 : decode cX5_skewers 43 = .ok (.aload_n 0, 1) := by decide +kernel
theorem dX5_skewers_44 : decode cX5_skewers 44 = .ok (.getfield 29, 3) := by decide +kernel
theorem dX5_skewers_47 : decode cX5_skewers 47 = .ok (.getfield 98, 3) := by decide +kernel
theorem dX5_skewers_50 : decode cX5_skewers 50 = .ok (.iload_n 1, 1) := by decide +kernel
theorem dX5_skewers_51 : decode cX5_skewers 51 = .ok (.iaload, 1) := by decide +kernel
theorem dX5_skewers_52 : decode cX5_skewers 52 = .ok (.ireturn, 1) := by decide +kernel
theorem dX5_dips_0 : decode cX5_dips 0 = .ok (.aload_n 0, 1) := by decide +kernel
theorem dX5_dips_1 : decode cX5_dips 1 = .ok (.iload_n 1, 1) := by decide +kernel
theorem dX5_dips_2 : decode cX5_dips 2 = .ok (.invokevirtual 92, 3) := by decide +kernel
theorem dX5_dips_5 : decode cX5_dips 5 = .ok (.ifCond .ne 5, 3) := by decide +kernel
theorem dX5_dips_8 : decode cX5_dips 8 = .ok (.iconst (-1), 1) := by decide +kernel
theorem dX5_dips_9 : decode cX5_dips 9 = .ok (.ireturn, 1) := by decide +kernel
theorem dX5_dips_10 : decode cX5_dips 10 = .ok (.aload_n 0, 1) := by decide +kernel
theorem dX5_dips_11 : decode cX5_dips 11 = .ok (.getfield 29, 3) := by decide +kernel
theorem dX5_dips_14 : decode cX5_dips 14 = .ok (.getfield 107, 3) := by decide +kernel
theorem dX5_dips_17 : decode cX5_dips 17 = .ok (.iload_n 1, 1) := by decide +kernel
theorem dX5_dips_18 : decode cX5_dips 18 = .ok (.iaload, 1) := by decide +kernel
theorem dX5_dips_19 : decode cX5_dips 19 = .ok (.ifCond .eq 6, 3) := by decide +kernel
theorem dX5_dips_22 : decode cX5_dips 22 = .ok (.bipush (-2), 2) := by decide +kernel
theorem dX5_dips_24 : decode cX5_dips 24 = .ok (.ireturn, 1) := by decide +kernel
theorem dX5_dips_25 : decode cX5_dips 25 = .ok (.aload_n 0, 1) := by decide +kernel
theorem dX5_dips_26 : decode cX5_dips 26 = .ok (.getfield 39, 3) := by decide +kernel
theorem dX5_dips_29 : decode cX5_dips 29 = .ok (.aload_n 0, 1) := by decide +kernel
theorem dX5_dips_30 : decode cX5_dips 30 = .ok (.getfield 29, 3) := by decide +kernel
theorem dX5_dips_33 : decode cX5_dips 33 = .ok (.invokevirtual 150, 3) := by decide +kernel
theorem dX5_dips_36 : decode cX5_dips 36 = .ok (.aload_n 0, 1) := by decide +kernel
theorem dX5_dips_37 : decode cX5_dips 37 = .ok (.getfield 29, 3) := by decide +kernel
theorem dX5_dips_40 : decode cX5_dips 40 = .ok (.iload_n 1, 1) := by decide +kernel
theorem dX5_dips_41 : decode cX5_dips 41 = .ok (.invokevirtual 167, 3) := by decide +kernel
theorem dX5_dips_44 : decode cX5_dips 44 = .ok (.aload_n 0, 1) := by decide +kernel
theorem dX5_dips_45 : decode cX5_dips 45 = .ok (.invokevirtual 122, 3) := by decide +kernel
theorem dX5_dips_48 : decode cX5_dips 48 = .ok (.invokestatic 132, 3) := by decide +kernel
theorem dX5_dips_51 : decode cX5_dips 51 = .ok (.ireturn, 1) := by decide +kernel
theorem dX5_undo_0 : decode cX5_undo 0 = .ok (.aload_n 0, 1) := by decide +kernel
theorem dX5_undo_1 : decode cX5_undo 1 = .ok (.getfield 39, 3) := by decide +kernel
theorem dX5_undo_4 : decode cX5_undo 4 = .ok (.getfield 85, 3) := by decide +kernel
theorem dX5_undo_7 : decode cX5_undo 7 = .ok (.ifCond .ne 6, 3) := by decide +kernel
theorem dX5_undo_10 : decode cX5_undo 10 = .ok (.bipush (-2), 2) := by decide +kernel
theorem dX5_undo_12 : decode cX5_undo 12 = .ok (.ireturn, 1) := by decide +kernel
theorem dX5_undo_13 : decode cX5_undo 13 = .ok (.aload_n 0, 1) := by decide +kernel
theorem dX5_undo_14 : decode cX5_undo 14 = .ok (.getfield 39, 3) := by decide +kernel
theorem dX5_undo_17 : decode cX5_undo 17 = .ok (.aload_n 0, 1) := by decide +kernel
theorem dX5_undo_18 : decode cX5_undo 18 = .ok (.getfield 29, 3) := by decide +kernel
theorem dX5_undo_21 : decode cX5_undo 21 = .ok (.invokevirtual 170, 3) := by decide +kernel
theorem dX5_undo_24 : decode cX5_undo 24 = .ok (.aload_n 0, 1) := by decide +kernel
theorem dX5_undo_25 : decode cX5_undo 25 = .ok (.getfield 39, 3) := by decide +kernel
theorem dX5_undo_28 : decode cX5_undo 28 = .ok (.getfield 85, 3) := by decide +kernel
theorem dX5_undo_31 : decode cX5_undo 31 = .ok (.ireturn, 1) := by decide +kernel
theorem dX5_deep_0 : decode cX5_deep 0 = .ok (.aload_n 0, 1) := by decide +kernel
theorem dX5_deep_1 : decode cX5_deep 1 = .ok (.iload_n 1, 1) := by decide +kernel
theorem dX5_deep_2 : decode cX5_deep 2 = .ok (.invokevirtual 92, 3) := by decide +kernel
theorem dX5_deep_5 : decode cX5_deep 5 = .ok (.ifCond .eq 13, 3) := by decide +kernel
theorem dX5_deep_8 : decode cX5_deep 8 = .ok (.iload_n 2, 1) := by decide +kernel
theorem dX5_deep_9 : decode cX5_deep 9 = .ok (.ifCond .lt 9, 3) := by decide +kernel
theorem dX5_deep_12 : decode cX5_deep 12 = .ok (.iload_n 2, 1) := by decide +kernel
theorem dX5_deep_13 : decode cX5_deep 13 = .ok (.bipush 40, 2) := by decide +kernel
theorem dX5_deep_15 : decode cX5_deep 15 = .ok (.if_icmp .le 5, 3) := by decide +kernel
theorem dX5_deep_18 : decode cX5_deep 18 = .ok (.iconst (-1), 1) := by decide +kernel
theorem dX5_deep_19 : decode cX5_deep 19 = .ok (.ireturn, 1) := by decide +kernel
theorem dX5_deep_20 : decode cX5_deep 20 = .ok (.aload_n 0, 1) := by decide +kernel
theorem dX5_deep_21 : decode cX5_deep 21 = .ok (.getfield 33, 3) := by decide +kernel
theorem dX5_deep_24 : decode cX5_deep 24 = .ok (.aload_n 0, 1) := by decide +kernel
theorem dX5_deep_25 : decode cX5_deep 25 = .ok (.getfield 29, 3) := by decide +kernel
theorem dX5_deep_28 : decode cX5_deep 28 = .ok (.invokevirtual 173, 3) := by decide +kernel
theorem dX5_deep_31 : decode cX5_deep 31 = .ok (.iconst 0, 1) := by decide +kernel
theorem dX5_deep_32 : decode cX5_deep 32 = .ok (.istore_n 3, 1) := by decide +kernel
theorem dX5_deep_33 : decode cX5_deep 33 = .ok (.iload_n 3, 1) := by decide +kernel
theorem dX5_deep_34 : decode cX5_deep 34 = .ok (.iload_n 2, 1) := by decide +kernel
theorem dX5_deep_35 : decode cX5_deep 35 = .ok (.if_icmp .ge 20, 3) := by decide +kernel
theorem dX5_deep_38 : decode cX5_deep 38 = .ok (.aload_n 0, 1) := by decide +kernel
theorem dX5_deep_39 : decode cX5_deep 39 = .ok (.getfield 33, 3) := by decide +kernel
theorem dX5_deep_42 : decode cX5_deep 42 = .ok (.aload_n 0, 1) := by decide +kernel
theorem dX5_deep_43 : decode cX5_deep 43 = .ok (.getfield 19, 3) := by decide +kernel
theorem dX5_deep_46 : decode cX5_deep 46 = .ok (.invokevirtual 161, 3) := by decide +kernel
theorem dX5_deep_49 : decode cX5_deep 49 = .ok (.iinc 3 1, 3) := by decide +kernel
theorem dX5_deep_52 : decode cX5_deep 52 = .ok (.goto (-19), 3) := by decide +kernel
theorem dX5_deep_55 : decode cX5_deep 55 = .ok (.aload_n 0, 1) := by decide +kernel
theorem dX5_deep_56 : decode cX5_deep 56 = .ok (.getfield 33, 3) := by decide +kernel
theorem dX5_deep_59 : decode cX5_deep 59 = .ok (.getfield 107, 3) := by decide +kernel
theorem dX5_deep_62 : decode cX5_deep 62 = .ok (.iload_n 1, 1) := by decide +kernel
theorem dX5_deep_63 : decode cX5_deep 63 = .ok (.iaload, 1) := by decide +kernel
theorem dX5_deep_64 : decode cX5_deep 64 = .ok (.ireturn, 1) := by decide +kernel
theorem dX5_when_0 : decode cX5_when 0 = .ok (.aload_n 0, 1) := by decide +kernel
theorem dX5_when_1 : decode cX5_when 1 = .ok (.iload_n 1, 1) := by decide +kernel
theorem dX5_when_2 : decode cX5_when 2 = .ok (.invokevirtual 92, 3) := by decide +kernel
theorem dX5_when_5 : decode cX5_when 5 = .ok (.ifCond .ne 5, 3) := by decide +kernel
theorem dX5_when_8 : decode cX5_when 8 = .ok (.iconst (-1), 1) := by decide +kernel
theorem dX5_when_9 : decode cX5_when 9 = .ok (.ireturn, 1) := by decide +kernel
theorem dX5_when_10 : decode cX5_when 10 = .ok (.aload_n 0, 1) := by decide +kernel
theorem dX5_when_11 : decode cX5_when 11 = .ok (.getfield 29, 3) := by decide +kernel
theorem dX5_when_14 : decode cX5_when 14 = .ok (.iload_n 1, 1) := by decide +kernel
theorem dX5_when_15 : decode cX5_when 15 = .ok (.invokevirtual 147, 3) := by decide +kernel
theorem dX5_when_18 : decode cX5_when 18 = .ok (.ifCond .eq 6, 3) := by decide +kernel
theorem dX5_when_21 : decode cX5_when 21 = .ok (.bipush (-2), 2) := by decide +kernel
theorem dX5_when_23 : decode cX5_when 23 = .ok (.ireturn, 1) := by decide +kernel
theorem dX5_when_24 : decode cX5_when 24 = .ok (.aload_n 0, 1) := by decide +kernel
theorem dX5_when_25 : decode cX5_when 25 = .ok (.iload_n 1, 1) := by decide +kernel
theorem dX5_when_26 : decode cX5_when 26 = .ok (.bipush 40, 2) := by decide +kernel
theorem dX5_when_28 : decode cX5_when 28 = .ok (.aload_n 0, 1) := by decide +kernel
theorem dX5_when_29 : decode cX5_when 29 = .ok (.getfield 29, 3) := by decide +kernel
theorem dX5_when_32 : decode cX5_when 32 = .ok (.getfield 119, 3) := by decide +kernel
theorem dX5_when_35 : decode cX5_when 35 = .ok (.invokevirtual 175, 3) := by decide +kernel
theorem dX5_when_38 : decode cX5_when 38 = .ok (.ireturn, 1) := by decide +kernel
theorem dX5_warm_0 : decode cX5_warm 0 = .ok (.aload_n 0, 1) := by decide +kernel
theorem dX5_warm_1 : decode cX5_warm 1 = .ok (.iload_n 1, 1) := by decide +kernel
theorem dX5_warm_2 : decode cX5_warm 2 = .ok (.invokevirtual 92, 3) := by decide +kernel
theorem dX5_warm_5 : decode cX5_warm 5 = .ok (.ifCond .eq 14, 3) := by decide +kernel
theorem dX5_warm_8 : decode cX5_warm 8 = .ok (.iload_n 2, 1) := by decide +kernel
theorem dX5_warm_9 : decode cX5_warm 9 = .ok (.iconst 1, 1) := by decide +kernel
theorem dX5_warm_10 : decode cX5_warm 10 = .ok (.if_icmp .lt 9, 3) := by decide +kernel
theorem dX5_warm_13 : decode cX5_warm 13 = .ok (.iload_n 2, 1) := by decide +kernel
theorem dX5_warm_14 : decode cX5_warm 14 = .ok (.bipush 40, 2) := by decide +kernel
theorem dX5_warm_16 : decode cX5_warm 16 = .ok (.if_icmp .le 5, 3) := by decide +kernel
theorem dX5_warm_19 : decode cX5_warm 19 = .ok (.iconst (-1), 1) := by decide +kernel
theorem dX5_warm_20 : decode cX5_warm 20 = .ok (.ireturn, 1) := by decide +kernel
theorem dX5_warm_21 : decode cX5_warm 21 = .ok (.aload_n 0, 1) := by decide +kernel
theorem dX5_warm_22 : decode cX5_warm 22 = .ok (.getfield 29, 3) := by decide +kernel
theorem dX5_warm_25 : decode cX5_warm 25 = .ok (.iload_n 1, 1) := by decide +kernel
theorem dX5_warm_26 : decode cX5_warm 26 = .ok (.invokevirtual 147, 3) := by decide +kernel
theorem dX5_warm_29 : decode cX5_warm 29 = .ok (.ifCond .eq 6, 3) := by decide +kernel
theorem dX5_warm_32 : decode cX5_warm 32 = .ok (.bipush (-2), 2) := by decide +kernel
theorem dX5_warm_34 : decode cX5_warm 34 = .ok (.ireturn, 1) := by decide +kernel
theorem dX5_warm_35 : decode cX5_warm 35 = .ok (.iconst 0, 1) := by decide +kernel
theorem dX5_warm_36 : decode cX5_warm 36 = .ok (.istore_n 3, 1) := by decide +kernel
theorem dX5_warm_37 : decode cX5_warm 37 = .ok (.iload_n 3, 1) := by decide +kernel
theorem dX5_warm_38 : decode cX5_warm 38 = .ok (.bipush 9, 2) := by decide +kernel
theorem dX5_warm_40 : decode cX5_warm 40 = .ok (.if_icmp .gt 23, 3) := by decide +kernel
theorem dX5_warm_43 : decode cX5_warm 43 = .ok (.aload_n 0, 1) := by decide +kernel
theorem dX5_warm_44 : decode cX5_warm 44 = .ok (.iload_n 1, 1) := by decide +kernel
theorem dX5_warm_45 : decode cX5_warm 45 = .ok (.iload_n 2, 1) := by decide +kernel
theorem dX5_warm_46 : decode cX5_warm 46 = .ok (.iload_n 3, 1) := by decide +kernel
theorem dX5_warm_47 : decode cX5_warm 47 = .ok (.invokevirtual 175, 3) := by decide +kernel
theorem dX5_warm_50 : decode cX5_warm 50 = .ok (.bipush (-9), 2) := by decide +kernel
theorem dX5_warm_52 : decode cX5_warm 52 = .ok (.if_icmp .eq 5, 3) := by decide +kernel
theorem dX5_warm_55 : decode cX5_warm 55 = .ok (.iload_n 3, 1) := by decide +kernel
theorem dX5_warm_56 : decode cX5_warm 56 = .ok (.ireturn, 1) := by decide +kernel
theorem dX5_warm_57 : decode cX5_warm 57 = .ok (.iinc 3 1, 3) := by decide +kernel
theorem dX5_warm_60 : decode cX5_warm 60 = .ok (.goto (-23), 3) := by decide +kernel
theorem dX5_warm_63 : decode cX5_warm 63 = .ok (.bipush (-9), 2) := by decide +kernel
theorem dX5_warm_65 : decode cX5_warm 65 = .ok (.ireturn, 1) := by decide +kernel
theorem dX5_kept_0 : decode cX5_kept 0 = .ok (.aload_n 0, 1) := by decide +kernel
theorem dX5_kept_1 : decode cX5_kept 1 = .ok (.iload_n 1, 1) := by decide +kernel
theorem dX5_kept_2 : decode cX5_kept 2 = .ok (.invokevirtual 92, 3) := by decide +kernel
theorem dX5_kept_5 : decode cX5_kept 5 = .ok (.ifCond .eq 14, 3) := by decide +kernel
theorem dX5_kept_8 : decode cX5_kept 8 = .ok (.iload_n 2, 1) := by decide +kernel
theorem dX5_kept_9 : decode cX5_kept 9 = .ok (.iconst 1, 1) := by decide +kernel
theorem dX5_kept_10 : decode cX5_kept 10 = .ok (.if_icmp .lt 9, 3) := by decide +kernel
theorem dX5_kept_13 : decode cX5_kept 13 = .ok (.iload_n 2, 1) := by decide +kernel
theorem dX5_kept_14 : decode cX5_kept 14 = .ok (.bipush 40, 2) := by decide +kernel
theorem dX5_kept_16 : decode cX5_kept 16 = .ok (.if_icmp .le 5, 3) := by decide +kernel
theorem dX5_kept_19 : decode cX5_kept 19 = .ok (.iconst (-1), 1) := by decide +kernel
theorem dX5_kept_20 : decode cX5_kept 20 = .ok (.ireturn, 1) := by decide +kernel
theorem dX5_kept_21 : decode cX5_kept 21 = .ok (.aload_n 0, 1) := by decide +kernel
theorem dX5_kept_22 : decode cX5_kept 22 = .ok (.getfield 29, 3) := by decide +kernel
theorem dX5_kept_25 : decode cX5_kept 25 = .ok (.iload_n 1, 1) := by decide +kernel
theorem dX5_kept_26 : decode cX5_kept 26 = .ok (.invokevirtual 147, 3) := by decide +kernel
theorem dX5_kept_29 : decode cX5_kept 29 = .ok (.ifCond .eq 14, 3) := by decide +kernel
theorem dX5_kept_32 : decode cX5_kept 32 = .ok (.aload_n 0, 1) := by decide +kernel
theorem dX5_kept_33 : decode cX5_kept 33 = .ok (.getfield 29, 3) := by decide +kernel
theorem dX5_kept_36 : decode cX5_kept 36 = .ok (.iload_n 1, 1) := by decide +kernel
theorem dX5_kept_37 : decode cX5_kept 37 = .ok (.invokevirtual 141, 3) := by decide +kernel
theorem dX5_kept_40 : decode cX5_kept 40 = .ok (.ifCond .eq 6, 3) := by decide +kernel
theorem dX5_kept_43 : decode cX5_kept 43 = .ok (.bipush (-2), 2) := by decide +kernel
theorem dX5_kept_45 : decode cX5_kept 45 = .ok (.ireturn, 1) := by decide +kernel
theorem dX5_kept_46 : decode cX5_kept 46 = .ok (.aload_n 0, 1) := by decide +kernel
theorem dX5_kept_47 : decode cX5_kept 47 = .ok (.invokevirtual 122, 3) := by decide +kernel
theorem dX5_kept_50 : decode cX5_kept 50 = .ok (.istore_n 3, 1) := by decide +kernel
theorem dX5_kept_51 : decode cX5_kept 51 = .ok (.iload_n 3, 1) := by decide +kernel
theorem dX5_kept_52 : decode cX5_kept 52 = .ok (.iconst 1, 1) := by decide +kernel
theorem dX5_kept_53 : decode cX5_kept 53 = .ok (.iload_n 1, 1) := by decide +kernel
theorem dX5_kept_54 : decode cX5_kept 54 = .ok (.ishl, 1) := by decide +kernel
theorem dX5_kept_55 : decode cX5_kept 55 = .ok (.iconst (-1), 1) := by decide +kernel
theorem dX5_kept_56 : decode cX5_kept 56 = .ok (.ixor, 1) := by decide +kernel
theorem dX5_kept_57 : decode cX5_kept 57 = .ok (.iand, 1) := by decide +kernel
theorem dX5_kept_58 : decode cX5_kept 58 = .ok (.istore 4, 2) := by decide +kernel
theorem dX5_kept_60 : decode cX5_kept 60 = .ok (.bipush (-9), 2) := by decide +kernel
theorem dX5_kept_62 : decode cX5_kept 62 = .ok (.istore 5, 2) := by decide +kernel
theorem dX5_kept_64 : decode cX5_kept 64 = .ok (.iconst 0, 1) := by decide +kernel
theorem dX5_kept_65 : decode cX5_kept 65 = .ok (.istore 6, 2) := by decide +kernel
theorem dX5_kept_67 : decode cX5_kept 67 = .ok (.iload 6, 2) := by decide +kernel
theorem dX5_kept_69 : decode cX5_kept 69 = .ok (.bipush 64, 2) := by decide +kernel
theorem dX5_kept_71 : decode cX5_kept 71 = .ok (.if_icmp .ge 60, 3) := by decide +kernel
theorem dX5_kept_74 : decode cX5_kept 74 = .ok (.iload 6, 2) := by decide +kernel
theorem dX5_kept_76 : decode cX5_kept 76 = .ok (.iload 4, 2) := by decide +kernel
theorem dX5_kept_78 : decode cX5_kept 78 = .ok (.iconst (-1), 1) := by decide +kernel
theorem dX5_kept_79 : decode cX5_kept 79 = .ok (.ixor, 1) := by decide +kernel
theorem dX5_kept_80 : decode cX5_kept 80 = .ok (.iand, 1) := by decide +kernel
theorem dX5_kept_81 : decode cX5_kept 81 = .ok (.ifCond .ne 17, 3) := by decide +kernel
theorem dX5_kept_84 : decode cX5_kept 84 = .ok (.iload 6, 2) := by decide +kernel
theorem dX5_kept_86 : decode cX5_kept 86 = .ok (.iload 5, 2) := by decide +kernel
theorem dX5_kept_88 : decode cX5_kept 88 = .ok (.invokestatic 179, 3) := by decide +kernel
theorem dX5_kept_91 : decode cX5_kept 91 = .ok (.ifCond .eq 7, 3) := by decide +kernel
theorem dX5_kept_94 : decode cX5_kept 94 = .ok (.iconst 1, 1) := by decide +kernel
theorem dX5_kept_95 : decode cX5_kept 95 = .ok (.goto 4, 3) := by decide +kernel
theorem dX5_kept_98 : decode cX5_kept 98 = .ok (.iconst 0, 1) := by decide +kernel
theorem dX5_kept_99 : decode cX5_kept 99 = .ok (.istore 7, 2) := by decide +kernel
theorem dX5_kept_101 : decode cX5_kept 101 = .ok (.iload 7, 2) := by decide +kernel
theorem dX5_kept_103 : decode cX5_kept 103 = .ok (.ifCond .eq 22, 3) := by decide +kernel
theorem dX5_kept_106 : decode cX5_kept 106 = .ok (.aload_n 0, 1) := by decide +kernel
theorem dX5_kept_107 : decode cX5_kept 107 = .ok (.iload_n 1, 1) := by decide +kernel
theorem dX5_kept_108 : decode cX5_kept 108 = .ok (.iload_n 2, 1) := by decide +kernel
theorem dX5_kept_109 : decode cX5_kept 109 = .ok (.iload_n 3, 1) := by decide +kernel
theorem dX5_kept_110 : decode cX5_kept 110 = .ok (.iload 6, 2) := by decide +kernel
theorem dX5_kept_112 : decode cX5_kept 112 = .ok (.iconst (-1), 1) := by decide +kernel
theorem dX5_kept_113 : decode cX5_kept 113 = .ok (.ixor, 1) := by decide +kernel
theorem dX5_kept_114 : decode cX5_kept 114 = .ok (.iand, 1) := by decide +kernel
theorem dX5_kept_115 : decode cX5_kept 115 = .ok (.invokevirtual 183, 3) := by decide +kernel
theorem dX5_kept_118 : decode cX5_kept 118 = .ok (.ifCond .eq 7, 3) := by decide +kernel
theorem dX5_kept_121 : decode cX5_kept 121 = .ok (.iload 6, 2) := by decide +kernel
theorem dX5_kept_123 : decode cX5_kept 123 = .ok (.istore 5, 2) := by decide +kernel
theorem dX5_kept_125 : decode cX5_kept 125 = .ok (.iinc 6 1, 3) := by decide +kernel
theorem dX5_kept_128 : decode cX5_kept 128 = .ok (.goto (-61), 3) := by decide +kernel
theorem dX5_kept_131 : decode cX5_kept 131 = .ok (.iload 5, 2) := by decide +kernel
theorem dX5_kept_133 : decode cX5_kept 133 = .ok (.ireturn, 1) := by decide +kernel
theorem dX5_party_0 : decode cX5_party 0 = .ok (.iload_n 1, 1) := by decide +kernel
theorem dX5_party_1 : decode cX5_party 1 = .ok (.iconst 1, 1) := by decide +kernel
theorem dX5_party_2 : decode cX5_party 2 = .ok (.if_icmp .lt 9, 3) := by decide +kernel
theorem dX5_party_5 : decode cX5_party 5 = .ok (.iload_n 1, 1) := by decide +kernel
theorem dX5_party_6 : decode cX5_party 6 = .ok (.bipush 54, 2) := by decide +kernel
theorem dX5_party_8 : decode cX5_party 8 = .ok (.if_icmp .le 5, 3) := by decide +kernel
theorem dX5_party_11 : decode cX5_party 11 = .ok (.iconst (-1), 1) := by decide +kernel
theorem dX5_party_12 : decode cX5_party 12 = .ok (.ireturn, 1) := by decide +kernel
theorem dX5_party_13 : decode cX5_party 13 = .ok (.aload_n 0, 1) := by decide +kernel
theorem dX5_party_14 : decode cX5_party 14 = .ok (.getfield 19, 3) := by decide +kernel
theorem dX5_party_17 : decode cX5_party 17 = .ok (.invokevirtual 187, 3) := by decide +kernel
theorem dX5_party_20 : decode cX5_party 20 = .ok (.istore_n 2, 1) := by decide +kernel
theorem dX5_party_21 : decode cX5_party 21 = .ok (.bipush (-9), 2) := by decide +kernel
theorem dX5_party_23 : decode cX5_party 23 = .ok (.istore_n 3, 1) := by decide +kernel
theorem dX5_party_24 : decode cX5_party 24 = .ok (.iconst 0, 1) := by decide +kernel
theorem dX5_party_25 : decode cX5_party 25 = .ok (.istore 4, 2) := by decide +kernel
theorem dX5_party_27 : decode cX5_party 27 = .ok (.iload 4, 2) := by decide +kernel
theorem dX5_party_29 : decode cX5_party 29 = .ok (.iload_n 2, 1) := by decide +kernel
theorem dX5_party_30 : decode cX5_party 30 = .ok (.if_icmp .gt 34, 3) := by decide +kernel
theorem dX5_party_33 : decode cX5_party 33 = .ok (.iload 4, 2) := by decide +kernel
theorem dX5_party_35 : decode cX5_party 35 = .ok (.iload_n 3, 1) := by decide +kernel
theorem dX5_party_36 : decode cX5_party 36 = .ok (.invokestatic 179, 3) := by decide +kernel
theorem dX5_party_39 : decode cX5_party 39 = .ok (.ifCond .eq 19, 3) := by decide +kernel
theorem dX5_party_42 : decode cX5_party 42 = .ok (.aload_n 0, 1) := by decide +kernel
theorem dX5_party_43 : decode cX5_party 43 = .ok (.getfield 19, 3) := by decide +kernel
theorem dX5_party_46 : decode cX5_party 46 = .ok (.iload 4, 2) := by decide +kernel
theorem dX5_party_48 : decode cX5_party 48 = .ok (.invokevirtual 190, 3) := by decide +kernel
theorem dX5_party_51 : decode cX5_party 51 = .ok (.iload_n 1, 1) := by decide +kernel
theorem dX5_party_52 : decode cX5_party 52 = .ok (.if_icmp .lt 6, 3) := by decide +kernel
theorem dX5_party_55 : decode cX5_party 55 = .ok (.iload 4, 2) := by decide +kernel
theorem dX5_party_57 : decode cX5_party 57 = .ok (.istore_n 3, 1) := by decide +kernel
theorem dX5_party_58 : decode cX5_party 58 = .ok (.iinc 4 1, 3) := by decide +kernel
theorem dX5_party_61 : decode cX5_party 61 = .ok (.goto (-34), 3) := by decide +kernel
theorem dX5_party_64 : decode cX5_party 64 = .ok (.iload_n 3, 1) := by decide +kernel
theorem dX5_party_65 : decode cX5_party 65 = .ok (.ireturn, 1) := by decide +kernel
theorem dX5_power_0 : decode cX5_power 0 = .ok (.aload_n 0, 1) := by decide +kernel
theorem dX5_power_1 : decode cX5_power 1 = .ok (.iload_n 1, 1) := by decide +kernel
theorem dX5_power_2 : decode cX5_power 2 = .ok (.invokevirtual 92, 3) := by decide +kernel
theorem dX5_power_5 : decode cX5_power 5 = .ok (.ifCond .eq 14, 3) := by decide +kernel
theorem dX5_power_8 : decode cX5_power 8 = .ok (.iload_n 2, 1) := by decide +kernel
theorem dX5_power_9 : decode cX5_power 9 = .ok (.iconst 1, 1) := by decide +kernel
theorem dX5_power_10 : decode cX5_power 10 = .ok (.if_icmp .lt 9, 3) := by decide +kernel
theorem dX5_power_13 : decode cX5_power 13 = .ok (.iload_n 2, 1) := by decide +kernel
theorem dX5_power_14 : decode cX5_power 14 = .ok (.bipush 54, 2) := by decide +kernel
theorem dX5_power_16 : decode cX5_power 16 = .ok (.if_icmp .le 5, 3) := by decide +kernel
theorem dX5_power_19 : decode cX5_power 19 = .ok (.iconst (-1), 1) := by decide +kernel
theorem dX5_power_20 : decode cX5_power 20 = .ok (.ireturn, 1) := by decide +kernel
theorem dX5_power_21 : decode cX5_power 21 = .ok (.aload_n 0, 1) := by decide +kernel
theorem dX5_power_22 : decode cX5_power 22 = .ok (.getfield 19, 3) := by decide +kernel
theorem dX5_power_25 : decode cX5_power 25 = .ok (.invokevirtual 187, 3) := by decide +kernel
theorem dX5_power_28 : decode cX5_power 28 = .ok (.istore_n 3, 1) := by decide +kernel
theorem dX5_power_29 : decode cX5_power 29 = .ok (.aload_n 0, 1) := by decide +kernel
theorem dX5_power_30 : decode cX5_power 30 = .ok (.getfield 19, 3) := by decide +kernel
theorem dX5_power_33 : decode cX5_power 33 = .ok (.getfield 104, 3) := by decide +kernel
theorem dX5_power_36 : decode cX5_power 36 = .ok (.iload_n 1, 1) := by decide +kernel
theorem dX5_power_37 : decode cX5_power 37 = .ok (.iaload, 1) := by decide +kernel
theorem dX5_power_38 : decode cX5_power 38 = .ok (.istore 4, 2) := by decide +kernel
theorem dX5_power_40 : decode cX5_power 40 = .ok (.iconst 0, 1) := by decide +kernel
theorem dX5_power_41 : decode cX5_power 41 = .ok (.istore 5, 2) := by decide +kernel
theorem dX5_power_43 : decode cX5_power 43 = .ok (.iconst 0, 1) := by decide +kernel
theorem dX5_power_44 : decode cX5_power 44 = .ok (.istore 6, 2) := by decide +kernel
theorem dX5_power_46 : decode cX5_power 46 = .ok (.iload 6, 2) := by decide +kernel
theorem dX5_power_48 : decode cX5_power 48 = .ok (.iload_n 3, 1) := by decide +kernel
theorem dX5_power_49 : decode cX5_power 49 = .ok (.if_icmp .gt 47, 3) := by decide +kernel
theorem dX5_power_52 : decode cX5_power 52 = .ok (.aload_n 0, 1) := by decide +kernel
theorem dX5_power_53 : decode cX5_power 53 = .ok (.getfield 19, 3) := by decide +kernel
theorem dX5_power_56 : decode cX5_power 56 = .ok (.iload 6, 2) := by decide +kernel
theorem dX5_power_58 : decode cX5_power 58 = .ok (.invokevirtual 190, 3) := by decide +kernel
theorem dX5_power_61 : decode cX5_power 61 = .ok (.istore 7, 2) := by decide +kernel
theorem dX5_power_63 : decode cX5_power 63 = .ok (.iload 6, 2) := by decide +kernel
theorem dX5_power_65 : decode cX5_power 65 = .ok (.iload_n 1, 1) := by decide +kernel
theorem dX5_power_66 : decode cX5_power 66 = .ok (.ishr, 1) := by decide +kernel
theorem dX5_power_67 : decode cX5_power 67 = .ok (.iconst 1, 1) := by decide +kernel
theorem dX5_power_68 : decode cX5_power 68 = .ok (.iand, 1) := by decide +kernel
theorem dX5_power_69 : decode cX5_power 69 = .ok (.ifCond .ne 21, 3) := by decide +kernel
theorem dX5_power_72 : decode cX5_power 72 = .ok (.iload 7, 2) := by decide +kernel
theorem dX5_power_74 : decode cX5_power 74 = .ok (.iload_n 2, 1) := by decide +kernel
theorem dX5_power_75 : decode cX5_power 75 = .ok (.if_icmp .ge 15, 3) := by decide +kernel
theorem dX5_power_78 : decode cX5_power 78 = .ok (.iload 7, 2) := by decide +kernel
theorem dX5_power_80 : decode cX5_power 80 = .ok (.iload 4, 2) := by decide +kernel
theorem dX5_power_82 : decode cX5_power 82 = .ok (.iadd, 1) := by decide +kernel
theorem dX5_power_83 : decode cX5_power 83 = .ok (.iload_n 2, 1) := by decide +kernel
theorem dX5_power_84 : decode cX5_power 84 = .ok (.if_icmp .lt 6, 3) := by decide +kernel
theorem dX5_power_87 : decode cX5_power 87 = .ok (.iinc 5 1, 3) := by decide +kernel
theorem dX5_power_90 : decode cX5_power 90 = .ok (.iinc 6 1, 3) := by decide +kernel
theorem dX5_power_93 : decode cX5_power 93 = .ok (.goto (-47), 3) := by decide +kernel
theorem dX5_power_96 : decode cX5_power 96 = .ok (.iload 5, 2) := by decide +kernel
theorem dX5_power_98 : decode cX5_power 98 = .ok (.ireturn, 1) := by decide +kernel
theorem dX5_odds_0 : decode cX5_odds 0 = .ok (.iload_n 1, 1) := by decide +kernel
theorem dX5_odds_1 : decode cX5_odds 1 = .ok (.ifCond .lt 28, 3) := by decide +kernel
theorem dX5_odds_4 : decode cX5_odds 4 = .ok (.iload_n 1, 1) := by decide +kernel
theorem dX5_odds_5 : decode cX5_odds 5 = .ok (.bipush 10, 2) := by decide +kernel
theorem dX5_odds_7 : decode cX5_odds 7 = .ok (.if_icmp .gt 22, 3) := by decide +kernel
theorem dX5_odds_10 : decode cX5_odds 10 = .ok (.iload_n 2, 1) := by decide +kernel
theorem dX5_odds_11 : decode cX5_odds 11 = .ok (.ifCond .lt 18, 3) := by decide +kernel
theorem dX5_odds_14 : decode cX5_odds 14 = .ok (.iload_n 2, 1) := by decide +kernel
theorem dX5_odds_15 : decode cX5_odds 15 = .ok (.bipush 6, 2) := by decide +kernel
theorem dX5_odds_17 : decode cX5_odds 17 = .ok (.if_icmp .gt 12, 3) := by decide +kernel
theorem dX5_odds_20 : decode cX5_odds 20 = .ok (.iload_n 3, 1) := by decide +kernel
theorem dX5_odds_21 : decode cX5_odds 21 = .ok (.ifCond .lt 8, 3) := by decide +kernel
theorem dX5_odds_24 : decode cX5_odds 24 = .ok (.iload_n 3, 1) := by decide +kernel
theorem dX5_odds_25 : decode cX5_odds 25 = .ok (.iconst 1, 1) := by decide +kernel
theorem dX5_odds_26 : decode cX5_odds 26 = .ok (.if_icmp .le 5, 3) := by decide +kernel
theorem dX5_odds_29 : decode cX5_odds 29 = .ok (.iconst (-1), 1) := by decide +kernel
theorem dX5_odds_30 : decode cX5_odds 30 = .ok (.ireturn, 1) := by decide +kernel
theorem dX5_odds_31 : decode cX5_odds 31 = .ok (.aload_n 0, 1) := by decide +kernel
theorem dX5_odds_32 : decode cX5_odds 32 = .ok (.getfield 29, 3) := by decide +kernel
theorem dX5_odds_35 : decode cX5_odds 35 = .ok (.invokevirtual 158, 3) := by decide +kernel
theorem dX5_odds_38 : decode cX5_odds 38 = .ok (.invokestatic 132, 3) := by decide +kernel
theorem dX5_odds_41 : decode cX5_odds 41 = .ok (.istore 4, 2) := by decide +kernel
theorem dX5_odds_43 : decode cX5_odds 43 = .ok (.iconst 0, 1) := by decide +kernel
theorem dX5_odds_44 : decode cX5_odds 44 = .ok (.istore 5, 2) := by decide +kernel
theorem dX5_odds_46 : decode cX5_odds 46 = .ok (.iconst 0, 1) := by decide +kernel
theorem dX5_odds_47 : decode cX5_odds 47 = .ok (.istore 6, 2) := by decide +kernel
theorem dX5_odds_49 : decode cX5_odds 49 = .ok (.iload 6, 2) := by decide +kernel
theorem dX5_odds_51 : decode cX5_odds 51 = .ok (.iconst 1, 1) := by decide +kernel
theorem dX5_odds_52 : decode cX5_odds 52 = .ok (.iload 4, 2) := by decide +kernel
theorem dX5_odds_54 : decode cX5_odds 54 = .ok (.ishl, 1) := by decide +kernel
theorem dX5_odds_55 : decode cX5_odds 55 = .ok (.if_icmp .ge 46, 3) := by decide +kernel
theorem dX5_odds_58 : decode cX5_odds 58 = .ok (.iload 6, 2) := by decide +kernel
theorem dX5_odds_60 : decode cX5_odds 60 = .ok (.invokestatic 132, 3) := by decide +kernel
theorem dX5_odds_63 : decode cX5_odds 63 = .ok (.istore 7, 2) := by decide +kernel
theorem dX5_odds_65 : decode cX5_odds 65 = .ok (.iload 7, 2) := by decide +kernel
theorem dX5_odds_67 : decode cX5_odds 67 = .ok (.iload_n 2, 1) := by decide +kernel
theorem dX5_odds_68 : decode cX5_odds 68 = .ok (.if_icmp .gt 27, 3) := by decide +kernel
theorem dX5_odds_71 : decode cX5_odds 71 = .ok (.iload 5, 2) := by decide +kernel
theorem dX5_odds_73 : decode cX5_odds 73 = .ok (.iload_n 1, 1) := by decide +kernel
theorem dX5_odds_74 : decode cX5_odds 74 = .ok (.iload 7, 2) := by decide +kernel
theorem dX5_odds_76 : decode cX5_odds 76 = .ok (.invokestatic 193, 3) := by decide +kernel
theorem dX5_odds_79 : decode cX5_odds 79 = .ok (.bipush 10, 2) := by decide +kernel
theorem dX5_odds_81 : decode cX5_odds 81 = .ok (.iload_n 1, 1) := by decide +kernel
theorem dX5_odds_82 : decode cX5_odds 82 = .ok (.isub, 1) := by decide +kernel
theorem dX5_odds_83 : decode cX5_odds 83 = .ok (.iload 4, 2) := by decide +kernel
theorem dX5_odds_85 : decode cX5_odds 85 = .ok (.iload 7, 2) := by decide +kernel
theorem dX5_odds_87 : decode cX5_odds 87 = .ok (.isub, 1) := by decide +kernel
theorem dX5_odds_88 : decode cX5_odds 88 = .ok (.invokestatic 193, 3) := by decide +kernel
theorem dX5_odds_91 : decode cX5_odds 91 = .ok (.imul, 1) := by decide +kernel
theorem dX5_odds_92 : decode cX5_odds 92 = .ok (.iadd, 1) := by decide +kernel
theorem dX5_odds_93 : decode cX5_odds 93 = .ok (.istore 5, 2) := by decide +kernel
theorem dX5_odds_95 : decode cX5_odds 95 = .ok (.iinc 6 1, 3) := by decide +kernel
theorem dX5_odds_98 : decode cX5_odds 98 = .ok (.goto (-49), 3) := by decide +kernel
theorem dX5_odds_101 : decode cX5_odds 101 = .ok (.bipush 10, 2) := by decide +kernel
theorem dX5_odds_103 : decode cX5_odds 103 = .ok (.iload 4, 2) := by decide +kernel
theorem dX5_odds_105 : decode cX5_odds 105 = .ok (.invokestatic 193, 3) := by decide +kernel
theorem dX5_odds_108 : decode cX5_odds 108 = .ok (.istore 6, 2) := by decide +kernel
theorem dX5_odds_110 : decode cX5_odds 110 = .ok (.iload 5, 2) := by decide +kernel
theorem dX5_odds_112 : decode cX5_odds 112 = .ok (.iload 6, 2) := by decide +kernel
theorem dX5_odds_114 : decode cX5_odds 114 = .ok (.invokestatic 197, 3) := by decide +kernel
theorem dX5_odds_117 : decode cX5_odds 117 = .ok (.istore 7, 2) := by decide +kernel
theorem dX5_odds_119 : decode cX5_odds 119 = .ok (.iload_n 3, 1) := by decide +kernel
theorem dX5_odds_120 : decode cX5_odds 120 = .ok (.ifCond .ne 8, 3) := by decide +kernel
theorem dX5_odds_123 : decode cX5_odds 123 = .ok (.iload 5, 2) := by decide +kernel
theorem dX5_odds_125 : decode cX5_odds 125 = .ok (.goto 5, 3) := by decide +kernel
theorem dX5_odds_128 : decode cX5_odds 128 = .ok (.iload 6, 2) := by decide +kernel
theorem dX5_odds_130 : decode cX5_odds 130 = .ok (.istore 8, 2) := by decide +kernel
theorem dX5_odds_132 : decode cX5_odds 132 = .ok (.iload 7, 2) := by decide +kernel
theorem dX5_odds_134 : decode cX5_odds 134 = .ok (.ifCond .le 11, 3) := by decide +kernel
theorem dX5_odds_137 : decode cX5_odds 137 = .ok (.iload 8, 2) := by decide +kernel
theorem dX5_odds_139 : decode cX5_odds 139 = .ok (.iload 7, 2) := by decide +kernel
theorem dX5_odds_141 : decode cX5_odds 141 = .ok (.idiv, 1) := by decide +kernel
theorem dX5_odds_142 : decode cX5_odds 142 = .ok (.goto 5, 3) := by decide +kernel
theorem dX5_odds_145 : decode cX5_odds 145 = .ok (.iload 8, 2) := by decide +kernel
theorem dX5_odds_147 : decode cX5_odds 147 = .ok (.ireturn, 1) := by decide +kernel
theorem dX5_sees_0 : decode cX5_sees 0 = .ok (.aload_n 0, 1) := by decide +kernel
theorem dX5_sees_1 : decode cX5_sees 1 = .ok (.iload_n 1, 1) := by decide +kernel
theorem dX5_sees_2 : decode cX5_sees 2 = .ok (.invokevirtual 92, 3) := by decide +kernel
theorem dX5_sees_5 : decode cX5_sees 5 = .ok (.ifCond .eq 24, 3) := by decide +kernel
theorem dX5_sees_8 : decode cX5_sees 8 = .ok (.iload_n 2, 1) := by decide +kernel
theorem dX5_sees_9 : decode cX5_sees 9 = .ok (.iconst 1, 1) := by decide +kernel
theorem dX5_sees_10 : decode cX5_sees 10 = .ok (.if_icmp .lt 19, 3) := by decide +kernel
theorem dX5_sees_13 : decode cX5_sees 13 = .ok (.iload_n 2, 1) := by decide +kernel
theorem dX5_sees_14 : decode cX5_sees 14 = .ok (.bipush 20, 2) := by decide +kernel
theorem dX5_sees_16 : decode cX5_sees 16 = .ok (.if_icmp .gt 13, 3) := by decide +kernel
theorem dX5_sees_19 : decode cX5_sees 19 = .ok (.iload_n 3, 1) := by decide +kernel
theorem dX5_sees_20 : decode cX5_sees 20 = .ok (.ifCond .lt 9, 3) := by decide +kernel
theorem dX5_sees_23 : decode cX5_sees 23 = .ok (.iload_n 3, 1) := by decide +kernel
theorem dX5_sees_24 : decode cX5_sees 24 = .ok (.bipush 10, 2) := by decide +kernel
theorem dX5_sees_26 : decode cX5_sees 26 = .ok (.if_icmp .le 5, 3) := by decide +kernel
theorem dX5_sees_29 : decode cX5_sees 29 = .ok (.iconst (-1), 1) := by decide +kernel
theorem dX5_sees_30 : decode cX5_sees 30 = .ok (.ireturn, 1) := by decide +kernel
theorem dX5_sees_31 : decode cX5_sees 31 = .ok (.aload_n 0, 1) := by decide +kernel
theorem dX5_sees_32 : decode cX5_sees 32 = .ok (.getfield 52, 3) := by decide +kernel
theorem dX5_sees_35 : decode cX5_sees 35 = .ok (.iload_n 1, 1) := by decide +kernel
theorem dX5_sees_36 : decode cX5_sees 36 = .ok (.iload_n 2, 1) := by decide +kernel
theorem dX5_sees_37 : decode cX5_sees 37 = .ok (.iload_n 3, 1) := by decide +kernel
theorem dX5_sees_38 : decode cX5_sees 38 = .ok (.invokevirtual 200, 3) := by decide +kernel
theorem dX5_sees_41 : decode cX5_sees 41 = .ok (.ifCond .eq 13, 3) := by decide +kernel
theorem dX5_sees_44 : decode cX5_sees 44 = .ok (.aload_n 0, 1) := by decide +kernel
theorem dX5_sees_45 : decode cX5_sees 45 = .ok (.getfield 52, 3) := by decide +kernel
theorem dX5_sees_48 : decode cX5_sees 48 = .ok (.getfield 91, 3) := by decide +kernel
theorem dX5_sees_51 : decode cX5_sees 51 = .ok (.goto 5, 3) := by decide +kernel
theorem dX5_sees_54 : decode cX5_sees 54 = .ok (.bipush (-3), 2) := by decide +kernel
theorem dX5_sees_56 : decode cX5_sees 56 = .ok (.ireturn, 1) := by decide +kernel
theorem dX5_forget_0 : decode cX5_forget 0 = .ok (.aload_n 0, 1) := by decide +kernel
theorem dX5_forget_1 : decode cX5_forget 1 = .ok (.getfield 52, 3) := by decide +kernel
theorem dX5_forget_4 : decode cX5_forget 4 = .ok (.getfield 91, 3) := by decide +kernel
theorem dX5_forget_7 : decode cX5_forget 7 = .ok (.istore_n 1, 1) := by decide +kernel
theorem dX5_forget_8 : decode cX5_forget 8 = .ok (.aload_n 0, 1) := by decide +kernel
theorem dX5_forget_9 : decode cX5_forget 9 = .ok (.getfield 52, 3) := by decide +kernel
theorem dX5_forget_12 : decode cX5_forget 12 = .ok (.iconst 0, 1) := by decide +kernel
theorem dX5_forget_13 : decode cX5_forget 13 = .ok (.putfield 91, 3) := by decide +kernel
theorem dX5_forget_16 : decode cX5_forget 16 = .ok (.iload_n 1, 1) := by decide +kernel
theorem dX5_forget_17 : decode cX5_forget 17 = .ok (.ireturn, 1) := by decide +kernel
theorem dX5_weights_0 : decode cX5_weights 0 = .ok (.aload_n 0, 1) := by decide +kernel
theorem dX5_weights_1 : decode cX5_weights 1 = .ok (.iload_n 1, 1) := by decide +kernel
theorem dX5_weights_2 : decode cX5_weights 2 = .ok (.invokevirtual 92, 3) := by decide +kernel
theorem dX5_weights_5 : decode cX5_weights 5 = .ok (.ifCond .eq 12, 3) := by decide +kernel
theorem dX5_weights_8 : decode cX5_weights 8 = .ok (.iload_n 2, 1) := by decide +kernel
theorem dX5_weights_9 : decode cX5_weights 9 = .ok (.ifCond .lt 8, 3) := by decide +kernel
theorem dX5_weights_12 : decode cX5_weights 12 = .ok (.iload_n 2, 1) := by decide +kernel
theorem dX5_weights_13 : decode cX5_weights 13 = .ok (.iconst 2, 1) := by decide +kernel
theorem dX5_weights_14 : decode cX5_weights 14 = .ok (.if_icmp .le 5, 3) := by decide +kernel
theorem dX5_weights_17 : decode cX5_weights 17 = .ok (.iconst (-1), 1) := by decide +kernel
theorem dX5_weights_18 : decode cX5_weights 18 = .ok (.ireturn, 1) := by decide +kernel
theorem dX5_weights_19 : decode cX5_weights 19 = .ok (.aload_n 0, 1) := by decide +kernel
theorem dX5_weights_20 : decode cX5_weights 20 = .ok (.iload_n 1, 1) := by decide +kernel
theorem dX5_weights_21 : decode cX5_weights 21 = .ok (.invokevirtual 202, 3) := by decide +kernel
theorem dX5_weights_24 : decode cX5_weights 24 = .ok (.lstore_n 3, 1) := by decide +kernel
theorem dX5_weights_25 : decode cX5_weights 25 = .ok (.iload_n 2, 1) := by decide +kernel
theorem dX5_weights_26 : decode cX5_weights 26 = .ok (.ifCond .ne 8, 3) := by decide +kernel
theorem dX5_weights_29 : decode cX5_weights 29 = .ok (.lload_n 3, 1) := by decide +kernel
theorem dX5_weights_30 : decode cX5_weights 30 = .ok (.invokestatic 206, 3) := by decide +kernel
theorem dX5_weights_33 : decode cX5_weights 33 = .ok (.ireturn, 1) := by decide +kernel
theorem dX5_weights_34 : decode cX5_weights 34 = .ok (.iload_n 2, 1) := by decide +kernel
theorem dX5_weights_35 : decode cX5_weights 35 = .ok (.iconst 1, 1) := by decide +kernel
theorem dX5_weights_36 : decode cX5_weights 36 = .ok (.if_icmp .ne 10, 3) := by decide +kernel
theorem dX5_weights_39 : decode cX5_weights 39 = .ok (.lload_n 3, 1) := by decide +kernel
theorem dX5_weights_40 : decode cX5_weights 40 = .ok (.invokestatic 211, 3) := by decide +kernel
theorem dX5_weights_43 : decode cX5_weights 43 = .ok (.goto 7, 3) := by decide +kernel
theorem dX5_weights_46 : decode cX5_weights 46 = .ok (.lload_n 3, 1) := by decide +kernel
theorem dX5_weights_47 : decode cX5_weights 47 = .ok (.invokestatic 214, 3) := by decide +kernel
theorem dX5_weights_50 : decode cX5_weights 50 = .ok (.ireturn, 1) := by decide +kernel
theorem dX5_look_0 : decode cX5_look 0 = .ok (.aload_n 0, 1) := by decide +kernel
theorem dX5_look_1 : decode cX5_look 1 = .ok (.iload_n 1, 1) := by decide +kernel
theorem dX5_look_2 : decode cX5_look 2 = .ok (.invokevirtual 92, 3) := by decide +kernel
theorem dX5_look_5 : decode cX5_look 5 = .ok (.ifCond .ne 5, 3) := by decide +kernel
theorem dX5_look_8 : decode cX5_look 8 = .ok (.iconst (-1), 1) := by decide +kernel
theorem dX5_look_9 : decode cX5_look 9 = .ok (.ireturn, 1) := by decide +kernel
theorem dX5_look_10 : decode cX5_look 10 = .ok (.aload_n 0, 1) := by decide +kernel
theorem dX5_look_11 : decode cX5_look 11 = .ok (.iload_n 1, 1) := by decide +kernel
theorem dX5_look_12 : decode cX5_look 12 = .ok (.invokevirtual 202, 3) := by decide +kernel
theorem dX5_look_15 : decode cX5_look 15 = .ok (.lstore_n 2, 1) := by decide +kernel
theorem dX5_look_16 : decode cX5_look 16 = .ok (.lload_n 2, 1) := by decide +kernel
theorem dX5_look_17 : decode cX5_look 17 = .ok (.invokestatic 206, 3) := by decide +kernel
theorem dX5_look_20 : decode cX5_look 20 = .ok (.iconst 1, 1) := by decide +kernel
theorem dX5_look_21 : decode cX5_look 21 = .ok (.if_icmp .gt 6, 3) := by decide +kernel
theorem dX5_look_24 : decode cX5_look 24 = .ok (.bipush (-9), 2) := by decide +kernel
theorem dX5_look_26 : decode cX5_look 26 = .ok (.ireturn, 1) := by decide +kernel
theorem dX5_look_27 : decode cX5_look 27 = .ok (.bipush (-9), 2) := by decide +kernel
theorem dX5_look_29 : decode cX5_look 29 = .ok (.istore 4, 2) := by decide +kernel
theorem dX5_look_31 : decode cX5_look 31 = .ok (.bipush 42, 2) := by decide +kernel
theorem dX5_look_33 : decode cX5_look 33 = .ok (.istore 5, 2) := by decide +kernel
theorem dX5_look_35 : decode cX5_look 35 = .ok (.iconst 1, 1) := by decide +kernel
theorem dX5_look_36 : decode cX5_look 36 = .ok (.istore 6, 2) := by decide +kernel
theorem dX5_look_38 : decode cX5_look 38 = .ok (.iload 6, 2) := by decide +kernel
theorem dX5_look_40 : decode cX5_look 40 = .ok (.bipush 20, 2) := by decide +kernel
theorem dX5_look_42 : decode cX5_look 42 = .ok (.if_icmp .gt 34, 3) := by decide +kernel
theorem dX5_look_45 : decode cX5_look 45 = .ok (.aload_n 0, 1) := by decide +kernel
theorem dX5_look_46 : decode cX5_look 46 = .ok (.iload_n 1, 1) := by decide +kernel
theorem dX5_look_47 : decode cX5_look 47 = .ok (.iload 6, 2) := by decide +kernel
theorem dX5_look_49 : decode cX5_look 49 = .ok (.lload_n 2, 1) := by decide +kernel
theorem dX5_look_50 : decode cX5_look 50 = .ok (.invokevirtual 217, 3) := by decide +kernel
theorem dX5_look_53 : decode cX5_look 53 = .ok (.istore 7, 2) := by decide +kernel
theorem dX5_look_55 : decode cX5_look 55 = .ok (.iload 7, 2) := by decide +kernel
theorem dX5_look_57 : decode cX5_look 57 = .ok (.iload 5, 2) := by decide +kernel
theorem dX5_look_59 : decode cX5_look 59 = .ok (.if_icmp .ge 11, 3) := by decide +kernel
theorem dX5_look_62 : decode cX5_look 62 = .ok (.iload 7, 2) := by decide +kernel
theorem dX5_look_64 : decode cX5_look 64 = .ok (.istore 5, 2) := by decide +kernel
theorem dX5_look_66 : decode cX5_look 66 = .ok (.iload 6, 2) := by decide +kernel
theorem dX5_look_68 : decode cX5_look 68 = .ok (.istore 4, 2) := by decide +kernel
theorem dX5_look_70 : decode cX5_look 70 = .ok (.iinc 6 1, 3) := by decide +kernel
theorem dX5_look_73 : decode cX5_look 73 = .ok (.goto (-35), 3) := by decide +kernel
theorem dX5_look_76 : decode cX5_look 76 = .ok (.iload 4, 2) := by decide +kernel
theorem dX5_look_78 : decode cX5_look 78 = .ok (.ireturn, 1) := by decide +kernel
theorem dX5_rate_0 : decode cX5_rate 0 = .ok (.aload_n 0, 1) := by decide +kernel
theorem dX5_rate_1 : decode cX5_rate 1 = .ok (.iload_n 2, 1) := by decide +kernel
theorem dX5_rate_2 : decode cX5_rate 2 = .ok (.invokevirtual 92, 3) := by decide +kernel
theorem dX5_rate_5 : decode cX5_rate 5 = .ok (.ifCond .ne 6, 3) := by decide +kernel
theorem dX5_rate_8 : decode cX5_rate 8 = .ok (.ldc 221, 2) := by decide +kernel
theorem dX5_rate_10 : decode cX5_rate 10 = .ok (.ireturn, 1) := by decide +kernel
theorem dX5_rate_11 : decode cX5_rate 11 = .ok (.iload_n 1, 1) := by decide +kernel
theorem dX5_rate_12 : decode cX5_rate 12 = .ok (.tableswitch 76 0 5 #[40, 46, 52, 58, 64, 70], 40) := by decide +kernel
theorem dX5_rate_52 : decode cX5_rate 52 = .ok (.aload_n 0, 1) := by decide +kernel
theorem dX5_rate_53 : decode cX5_rate 53 = .ok (.iload_n 2, 1) := by decide +kernel
theorem dX5_rate_54 : decode cX5_rate 54 = .ok (.invokevirtual 222, 3) := by decide +kernel
theorem dX5_rate_57 : decode cX5_rate 57 = .ok (.ireturn, 1) := by decide +kernel
theorem dX5_rate_58 : decode cX5_rate 58 = .ok (.aload_n 0, 1) := by decide +kernel
theorem dX5_rate_59 : decode cX5_rate 59 = .ok (.iload_n 2, 1) := by decide +kernel
theorem dX5_rate_60 : decode cX5_rate 60 = .ok (.invokevirtual 225, 3) := by decide +kernel
theorem dX5_rate_63 : decode cX5_rate 63 = .ok (.ireturn, 1) := by decide +kernel
theorem dX5_rate_64 : decode cX5_rate 64 = .ok (.aload_n 0, 1) := by decide +kernel
theorem dX5_rate_65 : decode cX5_rate 65 = .ok (.iload_n 2, 1) := by decide +kernel
theorem dX5_rate_66 : decode cX5_rate 66 = .ok (.invokevirtual 228, 3) := by decide +kernel
theorem dX5_rate_69 : decode cX5_rate 69 = .ok (.ireturn, 1) := by decide +kernel
theorem dX5_rate_70 : decode cX5_rate 70 = .ok (.aload_n 0, 1) := by decide +kernel
theorem dX5_rate_71 : decode cX5_rate 71 = .ok (.iload_n 2, 1) := by decide +kernel
theorem dX5_rate_72 : decode cX5_rate 72 = .ok (.invokevirtual 231, 3) := by decide +kernel
theorem dX5_rate_75 : decode cX5_rate 75 = .ok (.ireturn, 1) := by decide +kernel
theorem dX5_rate_76 : decode cX5_rate 76 = .ok (.aload_n 0, 1) := by decide +kernel
theorem dX5_rate_77 : decode cX5_rate 77 = .ok (.iload_n 2, 1) := by decide +kernel
theorem dX5_rate_78 : decode cX5_rate 78 = .ok (.invokevirtual 234, 3) := by decide +kernel
theorem dX5_rate_81 : decode cX5_rate 81 = .ok (.ireturn, 1) := by decide +kernel
theorem dX5_rate_82 : decode cX5_rate 82 = .ok (.aload_n 0, 1) := by decide +kernel
theorem dX5_rate_83 : decode cX5_rate 83 = .ok (.iload_n 2, 1) := by decide +kernel
theorem dX5_rate_84 : decode cX5_rate 84 = .ok (.invokevirtual 237, 3) := by decide +kernel
theorem dX5_rate_87 : decode cX5_rate 87 = .ok (.ireturn, 1) := by decide +kernel
theorem dX5_rate_88 : decode cX5_rate 88 = .ok (.ldc 221, 2) := by decide +kernel
theorem dX5_rate_90 : decode cX5_rate 90 = .ok (.ireturn, 1) := by decide +kernel
theorem dX5_keep_0 : decode cX5_keep 0 = .ok (.iload_n 1, 1) := by decide +kernel
theorem dX5_keep_1 : decode cX5_keep 1 = .ok (.ifCond .lt 8, 3) := by decide +kernel
theorem dX5_keep_4 : decode cX5_keep 4 = .ok (.iload_n 1, 1) := by decide +kernel
theorem dX5_keep_5 : decode cX5_keep 5 = .ok (.iconst 1, 1) := by decide +kernel
theorem dX5_keep_6 : decode cX5_keep 6 = .ok (.if_icmp .le 5, 3) := by decide +kernel
theorem dX5_keep_9 : decode cX5_keep 9 = .ok (.iconst (-1), 1) := by decide +kernel
theorem dX5_keep_10 : decode cX5_keep 10 = .ok (.ireturn, 1) := by decide +kernel
theorem dX5_keep_11 : decode cX5_keep 11 = .ok (.aload_n 0, 1) := by decide +kernel
theorem dX5_keep_12 : decode cX5_keep 12 = .ok (.iload_n 1, 1) := by decide +kernel
theorem dX5_keep_13 : decode cX5_keep 13 = .ok (.invokevirtual 240, 3) := by decide +kernel
theorem dX5_keep_16 : decode cX5_keep 16 = .ok (.aload_n 0, 1) := by decide +kernel
theorem dX5_keep_17 : decode cX5_keep 17 = .ok (.getfield 29, 3) := by decide +kernel
theorem dX5_keep_20 : decode cX5_keep 20 = .ok (.invokevirtual 173, 3) := by decide +kernel
theorem dX5_keep_23 : decode cX5_keep 23 = .ok (.aload_n 0, 1) := by decide +kernel
theorem dX5_keep_24 : decode cX5_keep 24 = .ok (.dup, 1) := by decide +kernel
theorem dX5_keep_25 : decode cX5_keep 25 = .ok (.getfield 88, 3) := by decide +kernel
theorem dX5_keep_28 : decode cX5_keep 28 = .ok (.iconst 1, 1) := by decide +kernel
theorem dX5_keep_29 : decode cX5_keep 29 = .ok (.iload_n 1, 1) := by decide +kernel
theorem dX5_keep_30 : decode cX5_keep 30 = .ok (.ishl, 1) := by decide +kernel
theorem dX5_keep_31 : decode cX5_keep 31 = .ok (.ior, 1) := by decide +kernel
theorem dX5_keep_32 : decode cX5_keep 32 = .ok (.putfield 88, 3) := by decide +kernel
theorem dX5_keep_35 : decode cX5_keep 35 = .ok (.aload_n 0, 1) := by decide +kernel
theorem dX5_keep_36 : decode cX5_keep 36 = .ok (.getfield 29, 3) := by decide +kernel
theorem dX5_keep_39 : decode cX5_keep 39 = .ok (.getfield 116, 3) := by decide +kernel
theorem dX5_keep_42 : decode cX5_keep 42 = .ok (.ireturn, 1) := by decide +kernel
theorem dX5_back_0 : decode cX5_back 0 = .ok (.iload_n 1, 1) := by decide +kernel
theorem dX5_back_1 : decode cX5_back 1 = .ok (.ifCond .lt 8, 3) := by decide +kernel
theorem dX5_back_4 : decode cX5_back 4 = .ok (.iload_n 1, 1) := by decide +kernel
theorem dX5_back_5 : decode cX5_back 5 = .ok (.iconst 1, 1) := by decide +kernel
theorem dX5_back_6 : decode cX5_back 6 = .ok (.if_icmp .le 5, 3) := by decide +kernel
theorem dX5_back_9 : decode cX5_back 9 = .ok (.iconst (-1), 1) := by decide +kernel
theorem dX5_back_10 : decode cX5_back 10 = .ok (.ireturn, 1) := by decide +kernel
theorem dX5_back_11 : decode cX5_back 11 = .ok (.aload_n 0, 1) := by decide +kernel
theorem dX5_back_12 : decode cX5_back 12 = .ok (.getfield 88, 3) := by decide +kernel
theorem dX5_back_15 : decode cX5_back 15 = .ok (.iload_n 1, 1) := by decide +kernel
theorem dX5_back_16 : decode cX5_back 16 = .ok (.ishr, 1) := by decide +kernel
theorem dX5_back_17 : decode cX5_back 17 = .ok (.iconst 1, 1) := by decide +kernel
theorem dX5_back_18 : decode cX5_back 18 = .ok (.iand, 1) := by decide +kernel
theorem dX5_back_19 : decode cX5_back 19 = .ok (.ifCond .ne 6, 3) := by decide +kernel
theorem dX5_back_22 : decode cX5_back 22 = .ok (.bipush (-2), 2) := by decide +kernel
theorem dX5_back_24 : decode cX5_back 24 = .ok (.ireturn, 1) := by decide +kernel
theorem dX5_back_25 : decode cX5_back 25 = .ok (.aload_n 0, 1) := by decide +kernel
theorem dX5_back_26 : decode cX5_back 26 = .ok (.getfield 29, 3) := by decide +kernel
theorem dX5_back_29 : decode cX5_back 29 = .ok (.aload_n 0, 1) := by decide +kernel
theorem dX5_back_30 : decode cX5_back 30 = .ok (.iload_n 1, 1) := by decide +kernel
theorem dX5_back_31 : decode cX5_back 31 = .ok (.invokevirtual 240, 3) := by decide +kernel
theorem dX5_back_34 : decode cX5_back 34 = .ok (.invokevirtual 173, 3) := by decide +kernel
theorem dX5_back_37 : decode cX5_back 37 = .ok (.aload_n 0, 1) := by decide +kernel
theorem dX5_back_38 : decode cX5_back 38 = .ok (.getfield 39, 3) := by decide +kernel
theorem dX5_back_41 : decode cX5_back 41 = .ok (.iconst 0, 1) := by decide +kernel
theorem dX5_back_42 : decode cX5_back 42 = .ok (.putfield 85, 3) := by decide +kernel
theorem dX5_back_45 : decode cX5_back 45 = .ok (.aload_n 0, 1) := by decide +kernel
theorem dX5_back_46 : decode cX5_back 46 = .ok (.getfield 29, 3) := by decide +kernel
theorem dX5_back_49 : decode cX5_back 49 = .ok (.getfield 116, 3) := by decide +kernel
theorem dX5_back_52 : decode cX5_back 52 = .ok (.ireturn, 1) := by decide +kernel
theorem dX5_count_0 : decode cX5_count 0 = .ok (.iload_n 1, 1) := by decide +kernel
theorem dX5_count_1 : decode cX5_count 1 = .ok (.tableswitch 87 0 5 #[39, 47, 55, 63, 71, 79], 39) := by decide +kernel
theorem dX5_count_40 : decode cX5_count 40 = .ok (.aload_n 0, 1) := by decide +kernel
theorem dX5_count_41 : decode cX5_count 41 = .ok (.getfield 19, 3) := by decide +kernel
theorem dX5_count_44 : decode cX5_count 44 = .ok (.getfield 244, 3) := by decide +kernel
theorem dX5_count_47 : decode cX5_count 47 = .ok (.ireturn, 1) := by decide +kernel
theorem dX5_count_48 : decode cX5_count 48 = .ok (.aload_n 0, 1) := by decide +kernel
theorem dX5_count_49 : decode cX5_count 49 = .ok (.getfield 19, 3) := by decide +kernel
theorem dX5_count_52 : decode cX5_count 52 = .ok (.getfield 247, 3) := by decide +kernel
theorem dX5_count_55 : decode cX5_count 55 = .ok (.ireturn, 1) := by decide +kernel
theorem dX5_count_56 : decode cX5_count 56 = .ok (.aload_n 0, 1) := by decide +kernel
theorem dX5_count_57 : decode cX5_count 57 = .ok (.getfield 19, 3) := by decide +kernel
theorem dX5_count_60 : decode cX5_count 60 = .ok (.getfield 248, 3) := by decide +kernel
theorem dX5_count_63 : decode cX5_count 63 = .ok (.ireturn, 1) := by decide +kernel
theorem dX5_count_64 : decode cX5_count 64 = .ok (.aload_n 0, 1) := by decide +kernel
theorem dX5_count_65 : decode cX5_count 65 = .ok (.getfield 19, 3) := by decide +kernel
theorem dX5_count_68 : decode cX5_count 68 = .ok (.getfield 251, 3) := by decide +kernel
theorem dX5_count_71 : decode cX5_count 71 = .ok (.ireturn, 1) := by decide +kernel
theorem dX5_count_72 : decode cX5_count 72 = .ok (.aload_n 0, 1) := by decide +kernel
theorem dX5_count_73 : decode cX5_count 73 = .ok (.getfield 52, 3) := by decide +kernel
theorem dX5_count_76 : decode cX5_count 76 = .ok (.getfield 91, 3) := by decide +kernel
theorem dX5_count_79 : decode cX5_count 79 = .ok (.ireturn, 1) := by decide +kernel
theorem dX5_count_80 : decode cX5_count 80 = .ok (.aload_n 0, 1) := by decide +kernel
theorem dX5_count_81 : decode cX5_count 81 = .ok (.getfield 12, 3) := by decide +kernel
theorem dX5_count_84 : decode cX5_count 84 = .ok (.getfield 74, 3) := by decide +kernel
theorem dX5_count_87 : decode cX5_count 87 = .ok (.ireturn, 1) := by decide +kernel
theorem dX5_count_88 : decode cX5_count 88 = .ok (.iconst (-1), 1) := by decide +kernel
theorem dX5_count_89 : decode cX5_count 89 = .ok (.ireturn, 1) := by decide +kernel
theorem dX5_trace_0 : decode cX5_trace 0 = .ok (.aload_n 0, 1) := by decide +kernel
theorem dX5_trace_1 : decode cX5_trace 1 = .ok (.getfield 254, 3) := by decide +kernel
theorem dX5_trace_4 : decode cX5_trace 4 = .ok (.lreturn, 1) := by decide +kernel
theorem dX5_isTold_0 : decode cX5_isTold 0 = .ok (.iload_n 1, 1) := by decide +kernel
theorem dX5_isTold_1 : decode cX5_isTold 1 = .ok (.ifCond .lt 24, 3) := by decide +kernel
theorem dX5_isTold_4 : decode cX5_isTold 4 = .ok (.iload_n 1, 1) := by decide +kernel
theorem dX5_isTold_5 : decode cX5_isTold 5 = .ok (.bipush 6, 2) := by decide +kernel
theorem dX5_isTold_7 : decode cX5_isTold 7 = .ok (.if_icmp .ge 18, 3) := by decide +kernel
theorem dX5_isTold_10 : decode cX5_isTold 10 = .ok (.iload_n 1, 1) := by decide +kernel
theorem dX5_isTold_11 : decode cX5_isTold 11 = .ok (.aload_n 0, 1) := by decide +kernel
theorem dX5_isTold_12 : decode cX5_isTold 12 = .ok (.getfield 19, 3) := by decide +kernel
theorem dX5_isTold_15 : decode cX5_isTold 15 = .ok (.getfield 244, 3) := by decide +kernel
theorem dX5_isTold_18 : decode cX5_isTold 18 = .ok (.if_icmp .ge 7, 3) := by decide +kernel
theorem dX5_isTold_21 : decode cX5_isTold 21 = .ok (.iconst 1, 1) := by decide +kernel
theorem dX5_isTold_22 : decode cX5_isTold 22 = .ok (.goto 4, 3) := by decide +kernel
theorem dX5_isTold_25 : decode cX5_isTold 25 = .ok (.iconst 0, 1) := by decide +kernel
theorem dX5_isTold_26 : decode cX5_isTold 26 = .ok (.ireturn, 1) := by decide +kernel
theorem dX5_dryOnes_0 : decode cX5_dryOnes 0 = .ok (.aload_n 0, 1) := by decide +kernel
theorem dX5_dryOnes_1 : decode cX5_dryOnes 1 = .ok (.getfield 19, 3) := by decide +kernel
theorem dX5_dryOnes_4 : decode cX5_dryOnes 4 = .ok (.invokevirtual 187, 3) := by decide +kernel
theorem dX5_dryOnes_7 : decode cX5_dryOnes 7 = .ok (.aload_n 0, 1) := by decide +kernel
theorem dX5_dryOnes_8 : decode cX5_dryOnes 8 = .ok (.getfield 29, 3) := by decide +kernel
theorem dX5_dryOnes_11 : decode cX5_dryOnes 11 = .ok (.invokevirtual 158, 3) := by decide +kernel
theorem dX5_dryOnes_14 : decode cX5_dryOnes 14 = .ok (.iconst (-1), 1) := by decide +kernel
theorem dX5_dryOnes_15 : decode cX5_dryOnes 15 = .ok (.ixor, 1) := by decide +kernel
theorem dX5_dryOnes_16 : decode cX5_dryOnes 16 = .ok (.iand, 1) := by decide +kernel
theorem dX5_dryOnes_17 : decode cX5_dryOnes 17 = .ok (.ireturn, 1) := by decide +kernel
theorem dX5_imageOf_0 : decode cX5_imageOf 0 = .ok (.iload_n 1, 1) := by decide +kernel
theorem dX5_imageOf_1 : decode cX5_imageOf 1 = .ok (.ifCond .ne 10, 3) := by decide +kernel
theorem dX5_imageOf_4 : decode cX5_imageOf 4 = .ok (.aload_n 0, 1) := by decide +kernel
theorem dX5_imageOf_5 : decode cX5_imageOf 5 = .ok (.getfield 43, 3) := by decide +kernel
theorem dX5_imageOf_8 : decode cX5_imageOf 8 = .ok (.goto 7, 3) := by decide +kernel
theorem dX5_imageOf_11 : decode cX5_imageOf 11 = .ok (.aload_n 0, 1) := by decide +kernel
theorem dX5_imageOf_12 : decode cX5_imageOf 12 = .ok (.getfield 46, 3) := by decide +kernel
theorem dX5_imageOf_15 : decode cX5_imageOf 15 = .ok (.areturn, 1) := by decide +kernel
theorem dX5_isFewer_0 : decode cX5_isFewer 0 = .ok (.iload_n 1, 1) := by decide +kernel
theorem dX5_isFewer_1 : decode cX5_isFewer 1 = .ok (.bipush (-9), 2) := by decide +kernel
theorem dX5_isFewer_3 : decode cX5_isFewer 3 = .ok (.if_icmp .eq 14, 3) := by decide +kernel
theorem dX5_isFewer_6 : decode cX5_isFewer 6 = .ok (.iload_n 0, 1) := by decide +kernel
theorem dX5_isFewer_7 : decode cX5_isFewer 7 = .ok (.invokestatic 132, 3) := by decide +kernel
theorem dX5_isFewer_10 : decode cX5_isFewer 10 = .ok (.iload_n 1, 1) := by decide +kernel
theorem dX5_isFewer_11 : decode cX5_isFewer 11 = .ok (.invokestatic 132, 3) := by decide +kernel
theorem dX5_isFewer_14 : decode cX5_isFewer 14 = .ok (.if_icmp .ge 7, 3) := by decide +kernel
theorem dX5_isFewer_17 : decode cX5_isFewer 17 = .ok (.iconst 1, 1) := by decide +kernel
theorem dX5_isFewer_18 : decode cX5_isFewer 18 = .ok (.goto 4, 3) := by decide +kernel
theorem dX5_isFewer_21 : decode cX5_isFewer 21 = .ok (.iconst 0, 1) := by decide +kernel
theorem dX5_isFewer_22 : decode cX5_isFewer 22 = .ok (.ireturn, 1) := by decide +kernel
theorem dX5_fewestPots_0 : decode cX5_fewestPots 0 = .ok (.aload_n 0, 1) := by decide +kernel
theorem dX5_fewestPots_1 : decode cX5_fewestPots 1 = .ok (.getfield 19, 3) := by decide +kernel
theorem dX5_fewestPots_4 : decode cX5_fewestPots 4 = .ok (.invokevirtual 187, 3) := by decide +kernel
theorem dX5_fewestPots_7 : decode cX5_fewestPots 7 = .ok (.istore_n 1, 1) := by decide +kernel
theorem dX5_fewestPots_8 : decode cX5_fewestPots 8 = .ok (.iconst 0, 1) := by decide +kernel
theorem dX5_fewestPots_9 : decode cX5_fewestPots 9 = .ok (.istore_n 2, 1) := by decide +kernel
theorem dX5_fewestPots_10 : decode cX5_fewestPots 10 = .ok (.iload_n 2, 1) := by decide +kernel
theorem dX5_fewestPots_11 : decode cX5_fewestPots 11 = .ok (.bipush 6, 2) := by decide +kernel
theorem dX5_fewestPots_13 : decode cX5_fewestPots 13 = .ok (.if_icmp .ge 39, 3) := by decide +kernel
theorem dX5_fewestPots_16 : decode cX5_fewestPots 16 = .ok (.iload_n 1, 1) := by decide +kernel
theorem dX5_fewestPots_17 : decode cX5_fewestPots 17 = .ok (.iload_n 2, 1) := by decide +kernel
theorem dX5_fewestPots_18 : decode cX5_fewestPots 18 = .ok (.ishr, 1) := by decide +kernel
theorem dX5_fewestPots_19 : decode cX5_fewestPots 19 = .ok (.iconst 1, 1) := by decide +kernel
theorem dX5_fewestPots_20 : decode cX5_fewestPots 20 = .ok (.iand, 1) := by decide +kernel
theorem dX5_fewestPots_21 : decode cX5_fewestPots 21 = .ok (.ifCond .eq 25, 3) := by decide +kernel
theorem dX5_fewestPots_24 : decode cX5_fewestPots 24 = .ok (.aload_n 0, 1) := by decide +kernel
theorem dX5_fewestPots_25 : decode cX5_fewestPots 25 = .ok (.getfield 29, 3) := by decide +kernel
theorem dX5_fewestPots_28 : decode cX5_fewestPots 28 = .ok (.getfield 98, 3) := by decide +kernel
theorem dX5_fewestPots_31 : decode cX5_fewestPots 31 = .ok (.iload_n 2, 1) := by decide +kernel
theorem dX5_fewestPots_32 : decode cX5_fewestPots 32 = .ok (.iaload, 1) := by decide +kernel
theorem dX5_fewestPots_33 : decode cX5_fewestPots 33 = .ok (.aload_n 0, 1) := by decide +kernel
theorem dX5_fewestPots_34 : decode cX5_fewestPots 34 = .ok (.getfield 19, 3) := by decide +kernel
theorem dX5_fewestPots_37 : decode cX5_fewestPots 37 = .ok (.getfield 251, 3) := by decide +kernel
theorem dX5_fewestPots_40 : decode cX5_fewestPots 40 = .ok (.if_icmp .le 6, 3) := by decide +kernel
theorem dX5_fewestPots_43 : decode cX5_fewestPots 43 = .ok (.bipush (-9), 2) := by decide +kernel
theorem dX5_fewestPots_45 : decode cX5_fewestPots 45 = .ok (.ireturn, 1) := by decide +kernel
theorem dX5_fewestPots_46 : decode cX5_fewestPots 46 = .ok (.iinc 2 1, 3) := by decide +kernel
theorem dX5_fewestPots_49 : decode cX5_fewestPots 49 = .ok (.goto (-39), 3) := by decide +kernel
theorem dX5_fewestPots_52 : decode cX5_fewestPots 52 = .ok (.iconst 0, 1) := by decide +kernel
theorem dX5_fewestPots_53 : decode cX5_fewestPots 53 = .ok (.istore_n 2, 1) := by decide +kernel
theorem dX5_fewestPots_54 : decode cX5_fewestPots 54 = .ok (.iconst 1, 1) := by decide +kernel
theorem dX5_fewestPots_55 : decode cX5_fewestPots 55 = .ok (.istore_n 3, 1) := by decide +kernel
theorem dX5_fewestPots_56 : decode cX5_fewestPots 56 = .ok (.iload_n 3, 1) := by decide +kernel
theorem dX5_fewestPots_57 : decode cX5_fewestPots 57 = .ok (.bipush 64, 2) := by decide +kernel
theorem dX5_fewestPots_59 : decode cX5_fewestPots 59 = .ok (.if_icmp .ge 27, 3) := by decide +kernel
theorem dX5_fewestPots_62 : decode cX5_fewestPots 62 = .ok (.iload_n 3, 1) := by decide +kernel
theorem dX5_fewestPots_63 : decode cX5_fewestPots 63 = .ok (.iload_n 1, 1) := by decide +kernel
theorem dX5_fewestPots_64 : decode cX5_fewestPots 64 = .ok (.if_icmp .gt 22, 3) := by decide +kernel
theorem dX5_fewestPots_67 : decode cX5_fewestPots 67 = .ok (.aload_n 0, 1) := by decide +kernel
theorem dX5_fewestPots_68 : decode cX5_fewestPots 68 = .ok (.iload_n 3, 1) := by decide +kernel
theorem dX5_fewestPots_69 : decode cX5_fewestPots 69 = .ok (.invokevirtual 258, 3) := by decide +kernel
theorem dX5_fewestPots_72 : decode cX5_fewestPots 72 = .ok (.istore_n 2, 1) := by decide +kernel
theorem dX5_fewestPots_73 : decode cX5_fewestPots 73 = .ok (.aload_n 0, 1) := by decide +kernel
theorem dX5_fewestPots_74 : decode cX5_fewestPots 74 = .ok (.getfield 56, 3) := by decide +kernel
theorem dX5_fewestPots_77 : decode cX5_fewestPots 77 = .ok (.iload_n 3, 1) := by decide +kernel
theorem dX5_fewestPots_78 : decode cX5_fewestPots 78 = .ok (.iload_n 2, 1) := by decide +kernel
theorem dX5_fewestPots_79 : decode cX5_fewestPots 79 = .ok (.iastore, 1) := by decide +kernel
theorem dX5_fewestPots_80 : decode cX5_fewestPots 80 = .ok (.iinc 3 1, 3) := by decide +kernel
theorem dX5_fewestPots_83 : decode cX5_fewestPots 83 = .ok (.goto (-27), 3) := by decide +kernel
theorem dX5_fewestPots_86 : decode cX5_fewestPots 86 = .ok (.iload_n 2, 1) := by decide +kernel
theorem dX5_fewestPots_87 : decode cX5_fewestPots 87 = .ok (.ireturn, 1) := by decide +kernel
theorem dX5_fewestPotsOf_0 : decode cX5_fewestPotsOf 0 = .ok (.bipush 6, 2) := by decide +kernel
theorem dX5_fewestPotsOf_2 : decode cX5_fewestPotsOf 2 = .ok (.istore_n 2, 1) := by decide +kernel
theorem dX5_fewestPotsOf_3 : decode cX5_fewestPotsOf 3 = .ok (.iconst 1, 1) := by decide +kernel
theorem dX5_fewestPotsOf_4 : decode cX5_fewestPotsOf 4 = .ok (.istore_n 3, 1) := by decide +kernel
theorem dX5_fewestPotsOf_5 : decode cX5_fewestPotsOf 5 = .ok (.iload_n 3, 1) := by decide +kernel
theorem dX5_fewestPotsOf_6 : decode cX5_fewestPotsOf 6 = .ok (.iload_n 1, 1) := by decide +kernel
theorem dX5_fewestPotsOf_7 : decode cX5_fewestPotsOf 7 = .ok (.if_icmp .gt 52, 3) := by decide +kernel
theorem dX5_fewestPotsOf_10 : decode cX5_fewestPotsOf 10 = .ok (.iload_n 3, 1) := by decide +kernel
theorem dX5_fewestPotsOf_11 : decode cX5_fewestPotsOf 11 = .ok (.iload_n 1, 1) := by decide +kernel
theorem dX5_fewestPotsOf_12 : decode cX5_fewestPotsOf 12 = .ok (.iconst (-1), 1) := by decide +kernel
theorem dX5_fewestPotsOf_13 : decode cX5_fewestPotsOf 13 = .ok (.ixor, 1) := by decide +kernel
theorem dX5_fewestPotsOf_14 : decode cX5_fewestPotsOf 14 = .ok (.iand, 1) := by decide +kernel
theorem dX5_fewestPotsOf_15 : decode cX5_fewestPotsOf 15 = .ok (.ifCond .ne 38, 3) := by decide +kernel
theorem dX5_fewestPotsOf_18 : decode cX5_fewestPotsOf 18 = .ok (.aload_n 0, 1) := by decide +kernel
theorem dX5_fewestPotsOf_19 : decode cX5_fewestPotsOf 19 = .ok (.getfield 29, 3) := by decide +kernel
theorem dX5_fewestPotsOf_22 : decode cX5_fewestPotsOf 22 = .ok (.iload_n 3, 1) := by decide +kernel
theorem dX5_fewestPotsOf_23 : decode cX5_fewestPotsOf 23 = .ok (.invokevirtual 261, 3) := by decide +kernel
theorem dX5_fewestPotsOf_26 : decode cX5_fewestPotsOf 26 = .ok (.aload_n 0, 1) := by decide +kernel
theorem dX5_fewestPotsOf_27 : decode cX5_fewestPotsOf 27 = .ok (.getfield 19, 3) := by decide +kernel
theorem dX5_fewestPotsOf_30 : decode cX5_fewestPotsOf 30 = .ok (.getfield 251, 3) := by decide +kernel
theorem dX5_fewestPotsOf_33 : decode cX5_fewestPotsOf 33 = .ok (.if_icmp .gt 20, 3) := by decide +kernel
theorem dX5_fewestPotsOf_36 : decode cX5_fewestPotsOf 36 = .ok (.iload_n 2, 1) := by decide +kernel
theorem dX5_fewestPotsOf_37 : decode cX5_fewestPotsOf 37 = .ok (.iconst 1, 1) := by decide +kernel
theorem dX5_fewestPotsOf_38 : decode cX5_fewestPotsOf 38 = .ok (.aload_n 0, 1) := by decide +kernel
theorem dX5_fewestPotsOf_39 : decode cX5_fewestPotsOf 39 = .ok (.getfield 56, 3) := by decide +kernel
theorem dX5_fewestPotsOf_42 : decode cX5_fewestPotsOf 42 = .ok (.iload_n 1, 1) := by decide +kernel
theorem dX5_fewestPotsOf_43 : decode cX5_fewestPotsOf 43 = .ok (.iload_n 3, 1) := by decide +kernel
theorem dX5_fewestPotsOf_44 : decode cX5_fewestPotsOf 44 = .ok (.iconst (-1), 1) := by decide +kernel
theorem dX5_fewestPotsOf_45 : decode cX5_fewestPotsOf 45 = .ok (.ixor, 1) := by decide +kernel
theorem dX5_fewestPotsOf_46 : decode cX5_fewestPotsOf 46 = .ok (.iand, 1) := by decide +kernel
theorem dX5_fewestPotsOf_47 : decode cX5_fewestPotsOf 47 = .ok (.iaload, 1) := by decide +kernel
theorem dX5_fewestPotsOf_48 : decode cX5_fewestPotsOf 48 = .ok (.iadd, 1) := by decide +kernel
theorem dX5_fewestPotsOf_49 : decode cX5_fewestPotsOf 49 = .ok (.invokestatic 264, 3) := by decide +kernel
theorem dX5_fewestPotsOf_52 : decode cX5_fewestPotsOf 52 = .ok (.istore_n 2, 1) := by decide +kernel
theorem dX5_fewestPotsOf_53 : decode cX5_fewestPotsOf 53 = .ok (.iinc 3 1, 3) := by decide +kernel
theorem dX5_fewestPotsOf_56 : decode cX5_fewestPotsOf 56 = .ok (.goto (-51), 3) := by decide +kernel
theorem dX5_fewestPotsOf_59 : decode cX5_fewestPotsOf 59 = .ok (.iload_n 2, 1) := by decide +kernel
theorem dX5_fewestPotsOf_60 : decode cX5_fewestPotsOf 60 = .ok (.ireturn, 1) := by decide +kernel
theorem dX5_minutesTillUp_0 : decode cX5_minutesTillUp 0 = .ok (.aload_n 0, 1) := by decide +kernel
theorem dX5_minutesTillUp_1 : decode cX5_minutesTillUp 1 = .ok (.getfield 33, 3) := by decide +kernel
theorem dX5_minutesTillUp_4 : decode cX5_minutesTillUp 4 = .ok (.aload_n 0, 1) := by decide +kernel
theorem dX5_minutesTillUp_5 : decode cX5_minutesTillUp 5 = .ok (.getfield 29, 3) := by decide +kernel
theorem dX5_minutesTillUp_8 : decode cX5_minutesTillUp 8 = .ok (.invokevirtual 173, 3) := by decide +kernel
theorem dX5_minutesTillUp_11 : decode cX5_minutesTillUp 11 = .ok (.aload_n 0, 1) := by decide +kernel
theorem dX5_minutesTillUp_12 : decode cX5_minutesTillUp 12 = .ok (.getfield 33, 3) := by decide +kernel
theorem dX5_minutesTillUp_15 : decode cX5_minutesTillUp 15 = .ok (.iload_n 3, 1) := by decide +kernel
theorem dX5_minutesTillUp_16 : decode cX5_minutesTillUp 16 = .ok (.putfield 119, 3) := by decide +kernel
theorem dX5_minutesTillUp_19 : decode cX5_minutesTillUp 19 = .ok (.iconst 0, 1) := by decide +kernel
theorem dX5_minutesTillUp_20 : decode cX5_minutesTillUp 20 = .ok (.istore 4, 2) := by decide +kernel
theorem dX5_minutesTillUp_22 : decode cX5_minutesTillUp 22 = .ok (.iload 4, 2) := by decide +kernel
theorem dX5_minutesTillUp_24 : decode cX5_minutesTillUp 24 = .ok (.iload_n 2, 1) := by decide +kernel
theorem dX5_minutesTillUp_25 : decode cX5_minutesTillUp 25 = .ok (.if_icmp .gt 35, 3) := by decide +kernel
theorem dX5_minutesTillUp_28 : decode cX5_minutesTillUp 28 = .ok (.aload_n 0, 1) := by decide +kernel
theorem dX5_minutesTillUp_29 : decode cX5_minutesTillUp 29 = .ok (.getfield 33, 3) := by decide +kernel
theorem dX5_minutesTillUp_32 : decode cX5_minutesTillUp 32 = .ok (.getfield 107, 3) := by decide +kernel
theorem dX5_minutesTillUp_35 : decode cX5_minutesTillUp 35 = .ok (.iload_n 1, 1) := by decide +kernel
theorem dX5_minutesTillUp_36 : decode cX5_minutesTillUp 36 = .ok (.iaload, 1) := by decide +kernel
theorem dX5_minutesTillUp_37 : decode cX5_minutesTillUp 37 = .ok (.ifCond .ne 6, 3) := by decide +kernel
theorem dX5_minutesTillUp_40 : decode cX5_minutesTillUp 40 = .ok (.iload 4, 2) := by decide +kernel
theorem dX5_minutesTillUp_42 : decode cX5_minutesTillUp 42 = .ok (.ireturn, 1) := by decide +kernel
theorem dX5_minutesTillUp_43 : decode cX5_minutesTillUp 43 = .ok (.aload_n 0, 1) := by decide +kernel
theorem dX5_minutesTillUp_44 : decode cX5_minutesTillUp 44 = .ok (.getfield 33, 3) := by decide +kernel
theorem dX5_minutesTillUp_47 : decode cX5_minutesTillUp 47 = .ok (.aload_n 0, 1) := by decide +kernel
theorem dX5_minutesTillUp_48 : decode cX5_minutesTillUp 48 = .ok (.getfield 19, 3) := by decide +kernel
theorem dX5_minutesTillUp_51 : decode cX5_minutesTillUp 51 = .ok (.invokevirtual 161, 3) := by decide +kernel
theorem dX5_minutesTillUp_54 : decode cX5_minutesTillUp 54 = .ok (.iinc 4 1, 3) := by decide +kernel
theorem dX5_minutesTillUp_57 : decode cX5_minutesTillUp 57 = .ok (.goto (-35), 3) := by decide +kernel
theorem dX5_minutesTillUp_60 : decode cX5_minutesTillUp 60 = .ok (.bipush (-9), 2) := by decide +kernel
theorem dX5_minutesTillUp_62 : decode cX5_minutesTillUp 62 = .ok (.ireturn, 1) := by decide +kernel
theorem dX5_risesFirst_0 : decode cX5_risesFirst 0 = .ok (.aload_n 0, 1) := by decide +kernel
theorem dX5_risesFirst_1 : decode cX5_risesFirst 1 = .ok (.getfield 33, 3) := by decide +kernel
theorem dX5_risesFirst_4 : decode cX5_risesFirst 4 = .ok (.aload_n 0, 1) := by decide +kernel
theorem dX5_risesFirst_5 : decode cX5_risesFirst 5 = .ok (.getfield 29, 3) := by decide +kernel
theorem dX5_risesFirst_8 : decode cX5_risesFirst 8 = .ok (.invokevirtual 173, 3) := by decide +kernel
theorem dX5_risesFirst_11 : decode cX5_risesFirst 11 = .ok (.iconst 0, 1) := by decide +kernel
theorem dX5_risesFirst_12 : decode cX5_risesFirst 12 = .ok (.istore 4, 2) := by decide +kernel
theorem dX5_risesFirst_14 : decode cX5_risesFirst 14 = .ok (.iload 4, 2) := by decide +kernel
theorem dX5_risesFirst_16 : decode cX5_risesFirst 16 = .ok (.bipush 6, 2) := by decide +kernel
theorem dX5_risesFirst_18 : decode cX5_risesFirst 18 = .ok (.if_icmp .ge 27, 3) := by decide +kernel
theorem dX5_risesFirst_21 : decode cX5_risesFirst 21 = .ok (.iload_n 3, 1) := by decide +kernel
theorem dX5_risesFirst_22 : decode cX5_risesFirst 22 = .ok (.iload 4, 2) := by decide +kernel
theorem dX5_risesFirst_24 : decode cX5_risesFirst 24 = .ok (.ishr, 1) := by decide +kernel
theorem dX5_risesFirst_25 : decode cX5_risesFirst 25 = .ok (.iconst 1, 1) := by decide +kernel
theorem dX5_risesFirst_26 : decode cX5_risesFirst 26 = .ok (.iand, 1) := by decide +kernel
theorem dX5_risesFirst_27 : decode cX5_risesFirst 27 = .ok (.ifCond .eq 12, 3) := by decide +kernel
theorem dX5_risesFirst_30 : decode cX5_risesFirst 30 = .ok (.aload_n 0, 1) := by decide +kernel
theorem dX5_risesFirst_31 : decode cX5_risesFirst 31 = .ok (.getfield 33, 3) := by decide +kernel
theorem dX5_risesFirst_34 : decode cX5_risesFirst 34 = .ok (.iload 4, 2) := by decide +kernel
theorem dX5_risesFirst_36 : decode cX5_risesFirst 36 = .ok (.invokevirtual 154, 3) := by decide +kernel
theorem dX5_risesFirst_39 : decode cX5_risesFirst 39 = .ok (.iinc 4 1, 3) := by decide +kernel
theorem dX5_risesFirst_42 : decode cX5_risesFirst 42 = .ok (.goto (-28), 3) := by decide +kernel
theorem dX5_risesFirst_45 : decode cX5_risesFirst 45 = .ok (.iconst 0, 1) := by decide +kernel
theorem dX5_risesFirst_46 : decode cX5_risesFirst 46 = .ok (.istore 4, 2) := by decide +kernel
theorem dX5_risesFirst_48 : decode cX5_risesFirst 48 = .ok (.iload 4, 2) := by decide +kernel
theorem dX5_risesFirst_50 : decode cX5_risesFirst 50 = .ok (.iload_n 2, 1) := by decide +kernel
theorem dX5_risesFirst_51 : decode cX5_risesFirst 51 = .ok (.if_icmp .ge 48, 3) := by decide +kernel
theorem dX5_risesFirst_54 : decode cX5_risesFirst 54 = .ok (.aload_n 0, 1) := by decide +kernel
theorem dX5_risesFirst_55 : decode cX5_risesFirst 55 = .ok (.getfield 33, 3) := by decide +kernel
theorem dX5_risesFirst_58 : decode cX5_risesFirst 58 = .ok (.aload_n 0, 1) := by decide +kernel
theorem dX5_risesFirst_59 : decode cX5_risesFirst 59 = .ok (.getfield 19, 3) := by decide +kernel
theorem dX5_risesFirst_62 : decode cX5_risesFirst 62 = .ok (.invokevirtual 161, 3) := by decide +kernel
theorem dX5_risesFirst_65 : decode cX5_risesFirst 65 = .ok (.aload_n 0, 1) := by decide +kernel
theorem dX5_risesFirst_66 : decode cX5_risesFirst 66 = .ok (.getfield 33, 3) := by decide +kernel
theorem dX5_risesFirst_69 : decode cX5_risesFirst 69 = .ok (.invokevirtual 269, 3) := by decide +kernel
theorem dX5_risesFirst_72 : decode cX5_risesFirst 72 = .ok (.istore 5, 2) := by decide +kernel
theorem dX5_risesFirst_74 : decode cX5_risesFirst 74 = .ok (.iload 5, 2) := by decide +kernel
theorem dX5_risesFirst_76 : decode cX5_risesFirst 76 = .ok (.bipush (-9), 2) := by decide +kernel
theorem dX5_risesFirst_78 : decode cX5_risesFirst 78 = .ok (.if_icmp .eq 15, 3) := by decide +kernel
theorem dX5_risesFirst_81 : decode cX5_risesFirst 81 = .ok (.iload 5, 2) := by decide +kernel
theorem dX5_risesFirst_83 : decode cX5_risesFirst 83 = .ok (.iload_n 1, 1) := by decide +kernel
theorem dX5_risesFirst_84 : decode cX5_risesFirst 84 = .ok (.if_icmp .ne 7, 3) := by decide +kernel
theorem dX5_risesFirst_87 : decode cX5_risesFirst 87 = .ok (.iconst 1, 1) := by decide +kernel
theorem dX5_risesFirst_88 : decode cX5_risesFirst 88 = .ok (.goto 4, 3) := by decide +kernel
theorem dX5_risesFirst_91 : decode cX5_risesFirst 91 = .ok (.iconst 0, 1) := by decide +kernel
theorem dX5_risesFirst_92 : decode cX5_risesFirst 92 = .ok (.ireturn, 1) := by decide +kernel
theorem dX5_risesFirst_93 : decode cX5_risesFirst 93 = .ok (.iinc 4 1, 3) := by decide +kernel
theorem dX5_risesFirst_96 : decode cX5_risesFirst 96 = .ok (.goto (-48), 3) := by decide +kernel
theorem dX5_risesFirst_99 : decode cX5_risesFirst 99 = .ok (.iconst 0, 1) := by decide +kernel
theorem dX5_risesFirst_100 : decode cX5_risesFirst 100 = .ok (.ireturn, 1) := by decide +kernel
theorem dX5_raised_0 : decode cX5_raised 0 = .ok (.iconst 1, 1) := by decide +kernel
theorem dX5_raised_1 : decode cX5_raised 1 = .ok (.istore_n 2, 1) := by decide +kernel
theorem dX5_raised_2 : decode cX5_raised 2 = .ok (.iconst 0, 1) := by decide +kernel
theorem dX5_raised_3 : decode cX5_raised 3 = .ok (.istore_n 3, 1) := by decide +kernel
theorem dX5_raised_4 : decode cX5_raised 4 = .ok (.iload_n 3, 1) := by decide +kernel
theorem dX5_raised_5 : decode cX5_raised 5 = .ok (.iload_n 1, 1) := by decide +kernel
theorem dX5_raised_6 : decode cX5_raised 6 = .ok (.if_icmp .ge 13, 3) := by decide +kernel
theorem dX5_raised_9 : decode cX5_raised 9 = .ok (.iload_n 2, 1) := by decide +kernel
theorem dX5_raised_10 : decode cX5_raised 10 = .ok (.iload_n 0, 1) := by decide +kernel
theorem dX5_raised_11 : decode cX5_raised 11 = .ok (.imul, 1) := by decide +kernel
theorem dX5_raised_12 : decode cX5_raised 12 = .ok (.istore_n 2, 1) := by decide +kernel
theorem dX5_raised_13 : decode cX5_raised 13 = .ok (.iinc 3 1, 3) := by decide +kernel
theorem dX5_raised_16 : decode cX5_raised 16 = .ok (.goto (-12), 3) := by decide +kernel
theorem dX5_raised_19 : decode cX5_raised 19 = .ok (.iload_n 2, 1) := by decide +kernel
theorem dX5_raised_20 : decode cX5_raised 20 = .ok (.ireturn, 1) := by decide +kernel
theorem dX5_greatestCommon_0 : decode cX5_greatestCommon 0 = .ok (.iload_n 0, 1) := by decide +kernel
theorem dX5_greatestCommon_1 : decode cX5_greatestCommon 1 = .ok (.istore_n 2, 1) := by decide +kernel
theorem dX5_greatestCommon_2 : decode cX5_greatestCommon 2 = .ok (.iload_n 1, 1) := by decide +kernel
theorem dX5_greatestCommon_3 : decode cX5_greatestCommon 3 = .ok (.istore_n 3, 1) := by decide +kernel
theorem dX5_greatestCommon_4 : decode cX5_greatestCommon 4 = .ok (.iconst 0, 1) := by decide +kernel
theorem dX5_greatestCommon_5 : decode cX5_greatestCommon 5 = .ok (.istore 4, 2) := by decide +kernel
theorem dX5_greatestCommon_7 : decode cX5_greatestCommon 7 = .ok (.iload 4, 2) := by decide +kernel
theorem dX5_greatestCommon_9 : decode cX5_greatestCommon 9 = .ok (.bipush 64, 2) := by decide +kernel
theorem dX5_greatestCommon_11 : decode cX5_greatestCommon 11 = .ok (.if_icmp .ge 23, 3) := by decide +kernel
theorem dX5_greatestCommon_14 : decode cX5_greatestCommon 14 = .ok (.iload_n 3, 1) := by decide +kernel
theorem dX5_greatestCommon_15 : decode cX5_greatestCommon 15 = .ok (.ifCond .eq 19, 3) := by decide +kernel
theorem dX5_greatestCommon_18 : decode cX5_greatestCommon 18 = .ok (.iload_n 2, 1) := by decide +kernel
theorem dX5_greatestCommon_19 : decode cX5_greatestCommon 19 = .ok (.iload_n 3, 1) := by decide +kernel
theorem dX5_greatestCommon_20 : decode cX5_greatestCommon 20 = .ok (.irem, 1) := by decide +kernel
theorem dX5_greatestCommon_21 : decode cX5_greatestCommon 21 = .ok (.istore 5, 2) := by decide +kernel
theorem dX5_greatestCommon_23 : decode cX5_greatestCommon 23 = .ok (.iload_n 3, 1) := by decide +kernel
theorem dX5_greatestCommon_24 : decode cX5_greatestCommon 24 = .ok (.istore_n 2, 1) := by decide +kernel
theorem dX5_greatestCommon_25 : decode cX5_greatestCommon 25 = .ok (.iload 5, 2) := by decide +kernel
theorem dX5_greatestCommon_27 : decode cX5_greatestCommon 27 = .ok (.istore_n 3, 1) := by decide +kernel
theorem dX5_greatestCommon_28 : decode cX5_greatestCommon 28 = .ok (.iinc 4 1, 3) := by decide +kernel
theorem dX5_greatestCommon_31 : decode cX5_greatestCommon 31 = .ok (.goto (-24), 3) := by decide +kernel
theorem dX5_greatestCommon_34 : decode cX5_greatestCommon 34 = .ok (.iload_n 2, 1) := by decide +kernel
theorem dX5_greatestCommon_35 : decode cX5_greatestCommon 35 = .ok (.ireturn, 1) := by decide +kernel
theorem dX5_fittingWeights_0 : decode cX5_fittingWeights 0 = .ok (.lconst 0, 1) := by decide +kernel
theorem dX5_fittingWeights_1 : decode cX5_fittingWeights 1 = .ok (.lstore_n 2, 1) := by decide +kernel
theorem dX5_fittingWeights_2 : decode cX5_fittingWeights 2 = .ok (.iconst 0, 1) := by decide +kernel
theorem dX5_fittingWeights_3 : decode cX5_fittingWeights 3 = .ok (.istore 4, 2) := by decide +kernel
theorem dX5_fittingWeights_5 : decode cX5_fittingWeights 5 = .ok (.iload 4, 2) := by decide +kernel
theorem dX5_fittingWeights_7 : decode cX5_fittingWeights 7 = .ok (.bipush 40, 2) := by decide +kernel
theorem dX5_fittingWeights_9 : decode cX5_fittingWeights 9 = .ok (.if_icmp .gt 26, 3) := by decide +kernel
theorem dX5_fittingWeights_12 : decode cX5_fittingWeights 12 = .ok (.aload_n 0, 1) := by decide +kernel
theorem dX5_fittingWeights_13 : decode cX5_fittingWeights 13 = .ok (.iload_n 1, 1) := by decide +kernel
theorem dX5_fittingWeights_14 : decode cX5_fittingWeights 14 = .ok (.iload 4, 2) := by decide +kernel
theorem dX5_fittingWeights_16 : decode cX5_fittingWeights 16 = .ok (.invokevirtual 272, 3) := by decide +kernel
theorem dX5_fittingWeights_19 : decode cX5_fittingWeights 19 = .ok (.ifCond .eq 10, 3) := by decide +kernel
theorem dX5_fittingWeights_22 : decode cX5_fittingWeights 22 = .ok (.lload_n 2, 1) := by decide +kernel
theorem dX5_fittingWeights_23 : decode cX5_fittingWeights 23 = .ok (.lconst 1, 1) := by decide +kernel
theorem dX5_fittingWeights_24 : decode cX5_fittingWeights 24 = .ok (.iload 4, 2) := by decide +kernel
theorem dX5_fittingWeights_26 : decode cX5_fittingWeights 26 = .ok (.lshl, 1) := by decide +kernel
theorem dX5_fittingWeights_27 : decode cX5_fittingWeights 27 = .ok (.lor, 1) := by decide +kernel
theorem dX5_fittingWeights_28 : decode cX5_fittingWeights 28 = .ok (.lstore_n 2, 1) := by decide +kernel
theorem dX5_fittingWeights_29 : decode cX5_fittingWeights 29 = .ok (.iinc 4 1, 3) := by decide +kernel
theorem dX5_fittingWeights_32 : decode cX5_fittingWeights 32 = .ok (.goto (-27), 3) := by decide +kernel
theorem dX5_fittingWeights_35 : decode cX5_fittingWeights 35 = .ok (.lload_n 2, 1) := by decide +kernel
theorem dX5_fittingWeights_36 : decode cX5_fittingWeights 36 = .ok (.lreturn, 1) := by decide +kernel
theorem dX5_fitsWhatIsSeen_0 : decode cX5_fitsWhatIsSeen 0 = .ok (.iconst 0, 1) := by decide +kernel
theorem dX5_fitsWhatIsSeen_1 : decode cX5_fitsWhatIsSeen 1 = .ok (.istore_n 3, 1) := by decide +kernel
theorem dX5_fitsWhatIsSeen_2 : decode cX5_fitsWhatIsSeen 2 = .ok (.iload_n 3, 1) := by decide +kernel
theorem dX5_fitsWhatIsSeen_3 : decode cX5_fitsWhatIsSeen 3 = .ok (.bipush 6, 2) := by decide +kernel
theorem dX5_fitsWhatIsSeen_5 : decode cX5_fitsWhatIsSeen 5 = .ok (.if_icmp .ge 62, 3) := by decide +kernel
theorem dX5_fitsWhatIsSeen_8 : decode cX5_fitsWhatIsSeen 8 = .ok (.iload_n 3, 1) := by decide +kernel
theorem dX5_fitsWhatIsSeen_9 : decode cX5_fitsWhatIsSeen 9 = .ok (.aload_n 0, 1) := by decide +kernel
theorem dX5_fitsWhatIsSeen_10 : decode cX5_fitsWhatIsSeen 10 = .ok (.getfield 52, 3) := by decide +kernel
theorem dX5_fitsWhatIsSeen_13 : decode cX5_fitsWhatIsSeen 13 = .ok (.getfield 91, 3) := by decide +kernel
theorem dX5_fitsWhatIsSeen_16 : decode cX5_fitsWhatIsSeen 16 = .ok (.if_icmp .ge 51, 3) := by decide +kernel
theorem dX5_fitsWhatIsSeen_19 : decode cX5_fitsWhatIsSeen 19 = .ok (.aload_n 0, 1) := by decide +kernel
theorem dX5_fitsWhatIsSeen_20 : decode cX5_fitsWhatIsSeen 20 = .ok (.getfield 52, 3) := by decide +kernel
theorem dX5_fitsWhatIsSeen_23 : decode cX5_fitsWhatIsSeen 23 = .ok (.getfield 275, 3) := by decide +kernel
theorem dX5_fitsWhatIsSeen_26 : decode cX5_fitsWhatIsSeen 26 = .ok (.iload_n 3, 1) := by decide +kernel
theorem dX5_fitsWhatIsSeen_27 : decode cX5_fitsWhatIsSeen 27 = .ok (.iaload, 1) := by decide +kernel
theorem dX5_fitsWhatIsSeen_28 : decode cX5_fitsWhatIsSeen 28 = .ok (.iload_n 1, 1) := by decide +kernel
theorem dX5_fitsWhatIsSeen_29 : decode cX5_fitsWhatIsSeen 29 = .ok (.if_icmp .ne 32, 3) := by decide +kernel
theorem dX5_fitsWhatIsSeen_32 : decode cX5_fitsWhatIsSeen 32 = .ok (.aload_n 0, 1) := by decide +kernel
theorem dX5_fitsWhatIsSeen_33 : decode cX5_fitsWhatIsSeen 33 = .ok (.iload_n 1, 1) := by decide +kernel
theorem dX5_fitsWhatIsSeen_34 : decode cX5_fitsWhatIsSeen 34 = .ok (.iload_n 2, 1) := by decide +kernel
theorem dX5_fitsWhatIsSeen_35 : decode cX5_fitsWhatIsSeen 35 = .ok (.aload_n 0, 1) := by decide +kernel
theorem dX5_fitsWhatIsSeen_36 : decode cX5_fitsWhatIsSeen 36 = .ok (.getfield 52, 3) := by decide +kernel
theorem dX5_fitsWhatIsSeen_39 : decode cX5_fitsWhatIsSeen 39 = .ok (.getfield 278, 3) := by decide +kernel
theorem dX5_fitsWhatIsSeen_42 : decode cX5_fitsWhatIsSeen 42 = .ok (.iload_n 3, 1) := by decide +kernel
theorem dX5_fitsWhatIsSeen_43 : decode cX5_fitsWhatIsSeen 43 = .ok (.iaload, 1) := by decide +kernel
theorem dX5_fitsWhatIsSeen_44 : decode cX5_fitsWhatIsSeen 44 = .ok (.invokevirtual 281, 3) := by decide +kernel
theorem dX5_fitsWhatIsSeen_47 : decode cX5_fitsWhatIsSeen 47 = .ok (.aload_n 0, 1) := by decide +kernel
theorem dX5_fitsWhatIsSeen_48 : decode cX5_fitsWhatIsSeen 48 = .ok (.getfield 52, 3) := by decide +kernel
theorem dX5_fitsWhatIsSeen_51 : decode cX5_fitsWhatIsSeen 51 = .ok (.getfield 284, 3) := by decide +kernel
theorem dX5_fitsWhatIsSeen_54 : decode cX5_fitsWhatIsSeen 54 = .ok (.iload_n 3, 1) := by decide +kernel
theorem dX5_fitsWhatIsSeen_55 : decode cX5_fitsWhatIsSeen 55 = .ok (.iaload, 1) := by decide +kernel
theorem dX5_fitsWhatIsSeen_56 : decode cX5_fitsWhatIsSeen 56 = .ok (.if_icmp .eq 5, 3) := by decide +kernel
theorem dX5_fitsWhatIsSeen_59 : decode cX5_fitsWhatIsSeen 59 = .ok (.iconst 0, 1) := by decide +kernel
theorem dX5_fitsWhatIsSeen_60 : decode cX5_fitsWhatIsSeen 60 = .ok (.ireturn, 1) := by decide +kernel
theorem dX5_fitsWhatIsSeen_61 : decode cX5_fitsWhatIsSeen 61 = .ok (.iinc 3 1, 3) := by decide +kernel
theorem dX5_fitsWhatIsSeen_64 : decode cX5_fitsWhatIsSeen 64 = .ok (.goto (-62), 3) := by decide +kernel
theorem dX5_fitsWhatIsSeen_67 : decode cX5_fitsWhatIsSeen 67 = .ok (.iconst 1, 1) := by decide +kernel
theorem dX5_fitsWhatIsSeen_68 : decode cX5_fitsWhatIsSeen 68 = .ok (.ireturn, 1) := by decide +kernel
theorem dX5_depthAlone_0 : decode cX5_depthAlone 0 = .ok (.bipush 10, 2) := by decide +kernel
theorem dX5_depthAlone_2 : decode cX5_depthAlone 2 = .ok (.istore 4, 2) := by decide +kernel
theorem dX5_depthAlone_4 : decode cX5_depthAlone 4 = .ok (.aload_n 0, 1) := by decide +kernel
theorem dX5_depthAlone_5 : decode cX5_depthAlone 5 = .ok (.getfield 29, 3) := by decide +kernel
theorem dX5_depthAlone_8 : decode cX5_depthAlone 8 = .ok (.getfield 98, 3) := by decide +kernel
theorem dX5_depthAlone_11 : decode cX5_depthAlone 11 = .ok (.iload_n 1, 1) := by decide +kernel
theorem dX5_depthAlone_12 : decode cX5_depthAlone 12 = .ok (.iaload, 1) := by decide +kernel
theorem dX5_depthAlone_13 : decode cX5_depthAlone 13 = .ok (.istore 5, 2) := by decide +kernel
theorem dX5_depthAlone_15 : decode cX5_depthAlone 15 = .ok (.iconst 0, 1) := by decide +kernel
theorem dX5_depthAlone_16 : decode cX5_depthAlone 16 = .ok (.istore 6, 2) := by decide +kernel
theorem dX5_depthAlone_18 : decode cX5_depthAlone 18 = .ok (.iload 6, 2) := by decide +kernel
theorem dX5_depthAlone_20 : decode cX5_depthAlone 20 = .ok (.iload_n 3, 1) := by decide +kernel
theorem dX5_depthAlone_21 : decode cX5_depthAlone 21 = .ok (.if_icmp .ge 47, 3) := by decide +kernel
theorem dX5_depthAlone_24 : decode cX5_depthAlone 24 = .ok (.bipush 30, 2) := by decide +kernel
theorem dX5_depthAlone_26 : decode cX5_depthAlone 26 = .ok (.iload 5, 2) := by decide +kernel
theorem dX5_depthAlone_28 : decode cX5_depthAlone 28 = .ok (.aload_n 0, 1) := by decide +kernel
theorem dX5_depthAlone_29 : decode cX5_depthAlone 29 = .ok (.getfield 19, 3) := by decide +kernel
theorem dX5_depthAlone_32 : decode cX5_depthAlone 32 = .ok (.getfield 101, 3) := by decide +kernel
theorem dX5_depthAlone_35 : decode cX5_depthAlone 35 = .ok (.iload_n 1, 1) := by decide +kernel
theorem dX5_depthAlone_36 : decode cX5_depthAlone 36 = .ok (.iaload, 1) := by decide +kernel
theorem dX5_depthAlone_37 : decode cX5_depthAlone 37 = .ok (.iadd, 1) := by decide +kernel
theorem dX5_depthAlone_38 : decode cX5_depthAlone 38 = .ok (.invokestatic 264, 3) := by decide +kernel
theorem dX5_depthAlone_41 : decode cX5_depthAlone 41 = .ok (.istore 5, 2) := by decide +kernel
theorem dX5_depthAlone_43 : decode cX5_depthAlone 43 = .ok (.iload 4, 2) := by decide +kernel
theorem dX5_depthAlone_45 : decode cX5_depthAlone 45 = .ok (.iload 5, 2) := by decide +kernel
theorem dX5_depthAlone_47 : decode cX5_depthAlone 47 = .ok (.aload_n 0, 1) := by decide +kernel
theorem dX5_depthAlone_48 : decode cX5_depthAlone 48 = .ok (.getfield 29, 3) := by decide +kernel
theorem dX5_depthAlone_51 : decode cX5_depthAlone 51 = .ok (.getfield 119, 3) := by decide +kernel
theorem dX5_depthAlone_54 : decode cX5_depthAlone 54 = .ok (.iadd, 1) := by decide +kernel
theorem dX5_depthAlone_55 : decode cX5_depthAlone 55 = .ok (.iload_n 2, 1) := by decide +kernel
theorem dX5_depthAlone_56 : decode cX5_depthAlone 56 = .ok (.isub, 1) := by decide +kernel
theorem dX5_depthAlone_57 : decode cX5_depthAlone 57 = .ok (.invokestatic 285, 3) := by decide +kernel
theorem dX5_depthAlone_60 : decode cX5_depthAlone 60 = .ok (.istore 4, 2) := by decide +kernel
theorem dX5_depthAlone_62 : decode cX5_depthAlone 62 = .ok (.iinc 6 1, 3) := by decide +kernel
theorem dX5_depthAlone_65 : decode cX5_depthAlone 65 = .ok (.goto (-47), 3) := by decide +kernel
theorem dX5_depthAlone_68 : decode cX5_depthAlone 68 = .ok (.iload 4, 2) := by decide +kernel
theorem dX5_depthAlone_70 : decode cX5_depthAlone 70 = .ok (.ireturn, 1) := by decide +kernel
theorem dX5_moved_0 : decode cX5_moved 0 = .ok (.iload_n 1, 1) := by decide +kernel
theorem dX5_moved_1 : decode cX5_moved 1 = .ok (.ifCond .le 11, 3) := by decide +kernel
theorem dX5_moved_4 : decode cX5_moved 4 = .ok (.iconst 0, 1) := by decide +kernel
theorem dX5_moved_5 : decode cX5_moved 5 = .ok (.iload_n 0, 1) := by decide +kernel
theorem dX5_moved_6 : decode cX5_moved 6 = .ok (.iconst 1, 1) := by decide +kernel
theorem dX5_moved_7 : decode cX5_moved 7 = .ok (.isub, 1) := by decide +kernel
theorem dX5_moved_8 : decode cX5_moved 8 = .ok (.invokestatic 288, 3) := by decide +kernel
theorem dX5_moved_11 : decode cX5_moved 11 = .ok (.ireturn, 1) := by decide +kernel
theorem dX5_moved_12 : decode cX5_moved 12 = .ok (.iload_n 1, 1) := by decide +kernel
theorem dX5_moved_13 : decode cX5_moved 13 = .ok (.ifCond .ge 14, 3) := by decide +kernel
theorem dX5_moved_16 : decode cX5_moved 16 = .ok (.bipush 10, 2) := by decide +kernel
theorem dX5_moved_18 : decode cX5_moved 18 = .ok (.iload_n 0, 1) := by decide +kernel
theorem dX5_moved_19 : decode cX5_moved 19 = .ok (.iconst 1, 1) := by decide +kernel
theorem dX5_moved_20 : decode cX5_moved 20 = .ok (.iadd, 1) := by decide +kernel
theorem dX5_moved_21 : decode cX5_moved 21 = .ok (.invokestatic 264, 3) := by decide +kernel
theorem dX5_moved_24 : decode cX5_moved 24 = .ok (.goto 4, 3) := by decide +kernel
theorem dX5_moved_27 : decode cX5_moved 27 = .ok (.iload_n 0, 1) := by decide +kernel
theorem dX5_moved_28 : decode cX5_moved 28 = .ok (.ireturn, 1) := by decide +kernel
theorem dX5_least_0 : decode cX5_least 0 = .ok (.iconst 0, 1) := by decide +kernel
theorem dX5_least_1 : decode cX5_least 1 = .ok (.istore_n 2, 1) := by decide +kernel
theorem dX5_least_2 : decode cX5_least 2 = .ok (.iload_n 2, 1) := by decide +kernel
theorem dX5_least_3 : decode cX5_least 3 = .ok (.bipush 40, 2) := by decide +kernel
theorem dX5_least_5 : decode cX5_least 5 = .ok (.if_icmp .gt 21, 3) := by decide +kernel
theorem dX5_least_8 : decode cX5_least 8 = .ok (.lload_n 0, 1) := by decide +kernel
theorem dX5_least_9 : decode cX5_least 9 = .ok (.iload_n 2, 1) := by decide +kernel
theorem dX5_least_10 : decode cX5_least 10 = .ok (.lshr, 1) := by decide +kernel
theorem dX5_least_11 : decode cX5_least 11 = .ok (.lconst 1, 1) := by decide +kernel
theorem dX5_least_12 : decode cX5_least 12 = .ok (.land, 1) := by decide +kernel
theorem dX5_least_13 : decode cX5_least 13 = .ok (.lconst 0, 1) := by decide +kernel
theorem dX5_least_14 : decode cX5_least 14 = .ok (.lcmp, 1) := by decide +kernel
theorem dX5_least_15 : decode cX5_least 15 = .ok (.ifCond .eq 5, 3) := by decide +kernel
theorem dX5_least_18 : decode cX5_least 18 = .ok (.iload_n 2, 1) := by decide +kernel
theorem dX5_least_19 : decode cX5_least 19 = .ok (.ireturn, 1) := by decide +kernel
theorem dX5_least_20 : decode cX5_least 20 = .ok (.iinc 2 1, 3) := by decide +kernel
theorem dX5_least_23 : decode cX5_least 23 = .ok (.goto (-21), 3) := by decide +kernel
theorem dX5_least_26 : decode cX5_least 26 = .ok (.bipush (-9), 2) := by decide +kernel
theorem dX5_least_28 : decode cX5_least 28 = .ok (.ireturn, 1) := by decide +kernel
theorem dX5_greatest_0 : decode cX5_greatest 0 = .ok (.bipush 40, 2) := by decide +kernel
theorem dX5_greatest_2 : decode cX5_greatest 2 = .ok (.istore_n 2, 1) := by decide +kernel
theorem dX5_greatest_3 : decode cX5_greatest 3 = .ok (.iload_n 2, 1) := by decide +kernel
theorem dX5_greatest_4 : decode cX5_greatest 4 = .ok (.ifCond .lt 21, 3) := by decide +kernel
theorem dX5_greatest_7 : decode cX5_greatest 7 = .ok (.lload_n 0, 1) := by decide +kernel
theorem dX5_greatest_8 : decode cX5_greatest 8 = .ok (.iload_n 2, 1) := by decide +kernel
theorem dX5_greatest_9 : decode cX5_greatest 9 = .ok (.lshr, 1) := by decide +kernel
theorem dX5_greatest_10 : decode cX5_greatest 10 = .ok (.lconst 1, 1) := by decide +kernel
theorem dX5_greatest_11 : decode cX5_greatest 11 = .ok (.land, 1) := by decide +kernel
theorem dX5_greatest_12 : decode cX5_greatest 12 = .ok (.lconst 0, 1) := by decide +kernel
theorem dX5_greatest_13 : decode cX5_greatest 13 = .ok (.lcmp, 1) := by decide +kernel
theorem dX5_greatest_14 : decode cX5_greatest 14 = .ok (.ifCond .eq 5, 3) := by decide +kernel
theorem dX5_greatest_17 : decode cX5_greatest 17 = .ok (.iload_n 2, 1) := by decide +kernel
theorem dX5_greatest_18 : decode cX5_greatest 18 = .ok (.ireturn, 1) := by decide +kernel
theorem dX5_greatest_19 : decode cX5_greatest 19 = .ok (.iinc 2 (-1), 3) := by decide +kernel
theorem dX5_greatest_22 : decode cX5_greatest 22 = .ok (.goto (-19), 3) := by decide +kernel
theorem dX5_greatest_25 : decode cX5_greatest 25 = .ok (.bipush (-9), 2) := by decide +kernel
theorem dX5_greatest_27 : decode cX5_greatest 27 = .ok (.ireturn, 1) := by decide +kernel
theorem dX5_mostAlike_0 : decode cX5_mostAlike 0 = .ok (.iconst 0, 1) := by decide +kernel
theorem dX5_mostAlike_1 : decode cX5_mostAlike 1 = .ok (.istore 5, 2) := by decide +kernel
theorem dX5_mostAlike_3 : decode cX5_mostAlike 3 = .ok (.iload 5, 2) := by decide +kernel
theorem dX5_mostAlike_5 : decode cX5_mostAlike 5 = .ok (.bipush 10, 2) := by decide +kernel
theorem dX5_mostAlike_7 : decode cX5_mostAlike 7 = .ok (.if_icmp .gt 17, 3) := by decide +kernel
theorem dX5_mostAlike_10 : decode cX5_mostAlike 10 = .ok (.aload_n 0, 1) := by decide +kernel
theorem dX5_mostAlike_11 : decode cX5_mostAlike 11 = .ok (.getfield 60, 3) := by decide +kernel
theorem dX5_mostAlike_14 : decode cX5_mostAlike 14 = .ok (.iload 5, 2) := by decide +kernel
theorem dX5_mostAlike_16 : decode cX5_mostAlike 16 = .ok (.iconst 0, 1) := by decide +kernel
theorem dX5_mostAlike_17 : decode cX5_mostAlike 17 = .ok (.iastore, 1) := by decide +kernel
theorem dX5_mostAlike_18 : decode cX5_mostAlike 18 = .ok (.iinc 5 1, 3) := by decide +kernel
theorem dX5_mostAlike_21 : decode cX5_mostAlike 21 = .ok (.goto (-18), 3) := by decide +kernel
theorem dX5_mostAlike_24 : decode cX5_mostAlike 24 = .ok (.iconst 0, 1) := by decide +kernel
theorem dX5_mostAlike_25 : decode cX5_mostAlike 25 = .ok (.istore 5, 2) := by decide +kernel
theorem dX5_mostAlike_27 : decode cX5_mostAlike 27 = .ok (.iconst 0, 1) := by decide +kernel
theorem dX5_mostAlike_28 : decode cX5_mostAlike 28 = .ok (.istore 6, 2) := by decide +kernel
theorem dX5_mostAlike_30 : decode cX5_mostAlike 30 = .ok (.iload 6, 2) := by decide +kernel
theorem dX5_mostAlike_32 : decode cX5_mostAlike 32 = .ok (.bipush 40, 2) := by decide +kernel
theorem dX5_mostAlike_34 : decode cX5_mostAlike 34 = .ok (.if_icmp .gt 39, 3) := by decide +kernel
theorem dX5_mostAlike_37 : decode cX5_mostAlike 37 = .ok (.lload_n 3, 1) := by decide +kernel
theorem dX5_mostAlike_38 : decode cX5_mostAlike 38 = .ok (.iload 6, 2) := by decide +kernel
theorem dX5_mostAlike_40 : decode cX5_mostAlike 40 = .ok (.lshr, 1) := by decide +kernel
theorem dX5_mostAlike_41 : decode cX5_mostAlike 41 = .ok (.lconst 1, 1) := by decide +kernel
theorem dX5_mostAlike_42 : decode cX5_mostAlike 42 = .ok (.land, 1) := by decide +kernel
theorem dX5_mostAlike_43 : decode cX5_mostAlike 43 = .ok (.lconst 0, 1) := by decide +kernel
theorem dX5_mostAlike_44 : decode cX5_mostAlike 44 = .ok (.lcmp, 1) := by decide +kernel
theorem dX5_mostAlike_45 : decode cX5_mostAlike 45 = .ok (.ifCond .eq 22, 3) := by decide +kernel
theorem dX5_mostAlike_48 : decode cX5_mostAlike 48 = .ok (.iload 5, 2) := by decide +kernel
theorem dX5_mostAlike_50 : decode cX5_mostAlike 50 = .ok (.aload_n 0, 1) := by decide +kernel
theorem dX5_mostAlike_51 : decode cX5_mostAlike 51 = .ok (.aload_n 0, 1) := by decide +kernel
theorem dX5_mostAlike_52 : decode cX5_mostAlike 52 = .ok (.iload_n 1, 1) := by decide +kernel
theorem dX5_mostAlike_53 : decode cX5_mostAlike 53 = .ok (.iload 6, 2) := by decide +kernel
theorem dX5_mostAlike_55 : decode cX5_mostAlike 55 = .ok (.iload_n 2, 1) := by decide +kernel
theorem dX5_mostAlike_56 : decode cX5_mostAlike 56 = .ok (.invokevirtual 281, 3) := by decide +kernel
theorem dX5_mostAlike_59 : decode cX5_mostAlike 59 = .ok (.invokevirtual 291, 3) := by decide +kernel
theorem dX5_mostAlike_62 : decode cX5_mostAlike 62 = .ok (.invokestatic 288, 3) := by decide +kernel
theorem dX5_mostAlike_65 : decode cX5_mostAlike 65 = .ok (.istore 5, 2) := by decide +kernel
theorem dX5_mostAlike_67 : decode cX5_mostAlike 67 = .ok (.iinc 6 1, 3) := by decide +kernel
theorem dX5_mostAlike_70 : decode cX5_mostAlike 70 = .ok (.goto (-40), 3) := by decide +kernel
theorem dX5_mostAlike_73 : decode cX5_mostAlike 73 = .ok (.iload 5, 2) := by decide +kernel
theorem dX5_mostAlike_75 : decode cX5_mostAlike 75 = .ok (.ireturn, 1) := by decide +kernel
theorem dX5_oneMoreAt_0 : decode cX5_oneMoreAt 0 = .ok (.iload_n 1, 1) := by decide +kernel
theorem dX5_oneMoreAt_1 : decode cX5_oneMoreAt 1 = .ok (.ifCond .lt 9, 3) := by decide +kernel
theorem dX5_oneMoreAt_4 : decode cX5_oneMoreAt 4 = .ok (.iload_n 1, 1) := by decide +kernel
theorem dX5_oneMoreAt_5 : decode cX5_oneMoreAt 5 = .ok (.bipush 10, 2) := by decide +kernel
theorem dX5_oneMoreAt_7 : decode cX5_oneMoreAt 7 = .ok (.if_icmp .le 5, 3) := by decide +kernel
theorem dX5_oneMoreAt_10 : decode cX5_oneMoreAt 10 = .ok (.iconst 0, 1) := by decide +kernel
theorem dX5_oneMoreAt_11 : decode cX5_oneMoreAt 11 = .ok (.ireturn, 1) := by decide +kernel
theorem dX5_oneMoreAt_12 : decode cX5_oneMoreAt 12 = .ok (.aload_n 0, 1) := by decide +kernel
theorem dX5_oneMoreAt_13 : decode cX5_oneMoreAt 13 = .ok (.getfield 60, 3) := by decide +kernel
theorem dX5_oneMoreAt_16 : decode cX5_oneMoreAt 16 = .ok (.iload_n 1, 1) := by decide +kernel
theorem dX5_oneMoreAt_17 : decode cX5_oneMoreAt 17 = .ok (.dup2, 1) := by decide +kernel
theorem dX5_oneMoreAt_18 : decode cX5_oneMoreAt 18 = .ok (.iaload, 1) := by decide +kernel
theorem dX5_oneMoreAt_19 : decode cX5_oneMoreAt 19 = .ok (.iconst 1, 1) := by decide +kernel
theorem dX5_oneMoreAt_20 : decode cX5_oneMoreAt 20 = .ok (.iadd, 1) := by decide +kernel
theorem dX5_oneMoreAt_21 : decode cX5_oneMoreAt 21 = .ok (.iastore, 1) := by decide +kernel
theorem dX5_oneMoreAt_22 : decode cX5_oneMoreAt 22 = .ok (.aload_n 0, 1) := by decide +kernel
theorem dX5_oneMoreAt_23 : decode cX5_oneMoreAt 23 = .ok (.getfield 60, 3) := by decide +kernel
theorem dX5_oneMoreAt_26 : decode cX5_oneMoreAt 26 = .ok (.iload_n 1, 1) := by decide +kernel
theorem dX5_oneMoreAt_27 : decode cX5_oneMoreAt 27 = .ok (.iaload, 1) := by decide +kernel
theorem dX5_oneMoreAt_28 : decode cX5_oneMoreAt 28 = .ok (.ireturn, 1) := by decide +kernel
theorem dX5_dough_0 : decode cX5_dough 0 = .ok (.aload_n 0, 1) := by decide +kernel
theorem dX5_dough_1 : decode cX5_dough 1 = .ok (.dup, 1) := by decide +kernel
theorem dX5_dough_2 : decode cX5_dough 2 = .ok (.getfield 254, 3) := by decide +kernel
theorem dX5_dough_5 : decode cX5_dough 5 = .ok (.lconst 1, 1) := by decide +kernel
theorem dX5_dough_6 : decode cX5_dough 6 = .ok (.ladd, 1) := by decide +kernel
theorem dX5_dough_7 : decode cX5_dough 7 = .ok (.putfield 254, 3) := by decide +kernel
theorem dX5_dough_10 : decode cX5_dough 10 = .ok (.aload_n 0, 1) := by decide +kernel
theorem dX5_dough_11 : decode cX5_dough 11 = .ok (.getfield 29, 3) := by decide +kernel
theorem dX5_dough_14 : decode cX5_dough 14 = .ok (.getfield 98, 3) := by decide +kernel
theorem dX5_dough_17 : decode cX5_dough 17 = .ok (.iload_n 1, 1) := by decide +kernel
theorem dX5_dough_18 : decode cX5_dough 18 = .ok (.iaload, 1) := by decide +kernel
theorem dX5_dough_19 : decode cX5_dough 19 = .ok (.ireturn, 1) := by decide +kernel
theorem dX5_suet_0 : decode cX5_suet 0 = .ok (.aload_n 0, 1) := by decide +kernel
theorem dX5_suet_1 : decode cX5_suet 1 = .ok (.dup, 1) := by decide +kernel
theorem dX5_suet_2 : decode cX5_suet 2 = .ok (.getfield 254, 3) := by decide +kernel
theorem dX5_suet_5 : decode cX5_suet 5 = .ok (.ldc2_w 294, 3) := by decide +kernel
theorem dX5_suet_8 : decode cX5_suet 8 = .ok (.ladd, 1) := by decide +kernel
theorem dX5_suet_9 : decode cX5_suet 9 = .ok (.putfield 254, 3) := by decide +kernel
theorem dX5_suet_12 : decode cX5_suet 12 = .ok (.aload_n 0, 1) := by decide +kernel
theorem dX5_suet_13 : decode cX5_suet 13 = .ok (.iload_n 1, 1) := by decide +kernel
theorem dX5_suet_14 : decode cX5_suet 14 = .ok (.invokevirtual 222, 3) := by decide +kernel
theorem dX5_suet_17 : decode cX5_suet 17 = .ok (.aload_n 0, 1) := by decide +kernel
theorem dX5_suet_18 : decode cX5_suet 18 = .ok (.getfield 19, 3) := by decide +kernel
theorem dX5_suet_21 : decode cX5_suet 21 = .ok (.getfield 95, 3) := by decide +kernel
theorem dX5_suet_24 : decode cX5_suet 24 = .ok (.iload_n 1, 1) := by decide +kernel
theorem dX5_suet_25 : decode cX5_suet 25 = .ok (.iaload, 1) := by decide +kernel
theorem dX5_suet_26 : decode cX5_suet 26 = .ok (.iadd, 1) := by decide +kernel
theorem dX5_suet_27 : decode cX5_suet 27 = .ok (.ireturn, 1) := by decide +kernel
theorem dX5_parsley_0 : decode cX5_parsley 0 = .ok (.aload_n 0, 1) := by decide +kernel
theorem dX5_parsley_1 : decode cX5_parsley 1 = .ok (.dup, 1) := by decide +kernel
theorem dX5_parsley_2 : decode cX5_parsley 2 = .ok (.getfield 254, 3) := by decide +kernel
theorem dX5_parsley_5 : decode cX5_parsley 5 = .ok (.ldc2_w 296, 3) := by decide +kernel
theorem dX5_parsley_8 : decode cX5_parsley 8 = .ok (.ladd, 1) := by decide +kernel
theorem dX5_parsley_9 : decode cX5_parsley 9 = .ok (.putfield 254, 3) := by decide +kernel
theorem dX5_parsley_12 : decode cX5_parsley 12 = .ok (.aload_n 0, 1) := by decide +kernel
theorem dX5_parsley_13 : decode cX5_parsley 13 = .ok (.iload_n 1, 1) := by decide +kernel
theorem dX5_parsley_14 : decode cX5_parsley 14 = .ok (.invokevirtual 222, 3) := by decide +kernel
theorem dX5_parsley_17 : decode cX5_parsley 17 = .ok (.aload_n 0, 1) := by decide +kernel
theorem dX5_parsley_18 : decode cX5_parsley 18 = .ok (.getfield 29, 3) := by decide +kernel
theorem dX5_parsley_21 : decode cX5_parsley 21 = .ok (.getfield 110, 3) := by decide +kernel
theorem dX5_parsley_24 : decode cX5_parsley 24 = .ok (.iload_n 1, 1) := by decide +kernel
theorem dX5_parsley_25 : decode cX5_parsley 25 = .ok (.iaload, 1) := by decide +kernel
theorem dX5_parsley_26 : decode cX5_parsley 26 = .ok (.invokestatic 132, 3) := by decide +kernel
theorem dX5_parsley_29 : decode cX5_parsley 29 = .ok (.isub, 1) := by decide +kernel
theorem dX5_parsley_30 : decode cX5_parsley 30 = .ok (.ireturn, 1) := by decide +kernel
theorem dX5_leader_0 : decode cX5_leader 0 = .ok (.aload_n 0, 1) := by decide +kernel
theorem dX5_leader_1 : decode cX5_leader 1 = .ok (.dup, 1) := by decide +kernel
theorem dX5_leader_2 : decode cX5_leader 2 = .ok (.getfield 254, 3) := by decide +kernel
theorem dX5_leader_5 : decode cX5_leader 5 = .ok (.ldc2_w 298, 3) := by decide +kernel
theorem dX5_leader_8 : decode cX5_leader 8 = .ok (.ladd, 1) := by decide +kernel
theorem dX5_leader_9 : decode cX5_leader 9 = .ok (.putfield 254, 3) := by decide +kernel
theorem dX5_leader_12 : decode cX5_leader 12 = .ok (.iconst 2, 1) := by decide +kernel
theorem dX5_leader_13 : decode cX5_leader 13 = .ok (.aload_n 0, 1) := by decide +kernel
theorem dX5_leader_14 : decode cX5_leader 14 = .ok (.iload_n 1, 1) := by decide +kernel
theorem dX5_leader_15 : decode cX5_leader 15 = .ok (.invokevirtual 225, 3) := by decide +kernel
theorem dX5_leader_18 : decode cX5_leader 18 = .ok (.imul, 1) := by decide +kernel
theorem dX5_leader_19 : decode cX5_leader 19 = .ok (.ireturn, 1) := by decide +kernel
theorem dX5_carrot_0 : decode cX5_carrot 0 = .ok (.aload_n 0, 1) := by decide +kernel
theorem dX5_carrot_1 : decode cX5_carrot 1 = .ok (.dup, 1) := by decide +kernel
theorem dX5_carrot_2 : decode cX5_carrot 2 = .ok (.getfield 254, 3) := by decide +kernel
theorem dX5_carrot_5 : decode cX5_carrot 5 = .ok (.ldc2_w 300, 3) := by decide +kernel
theorem dX5_carrot_8 : decode cX5_carrot 8 = .ok (.ladd, 1) := by decide +kernel
theorem dX5_carrot_9 : decode cX5_carrot 9 = .ok (.putfield 254, 3) := by decide +kernel
theorem dX5_carrot_12 : decode cX5_carrot 12 = .ok (.aload_n 0, 1) := by decide +kernel
theorem dX5_carrot_13 : decode cX5_carrot 13 = .ok (.iload_n 1, 1) := by decide +kernel
theorem dX5_carrot_14 : decode cX5_carrot 14 = .ok (.invokevirtual 228, 3) := by decide +kernel
theorem dX5_carrot_17 : decode cX5_carrot 17 = .ok (.iload_n 1, 1) := by decide +kernel
theorem dX5_carrot_18 : decode cX5_carrot 18 = .ok (.iadd, 1) := by decide +kernel
theorem dX5_carrot_19 : decode cX5_carrot 19 = .ok (.ireturn, 1) := by decide +kernel
theorem dX5_bay_0 : decode cX5_bay 0 = .ok (.aload_n 0, 1) := by decide +kernel
theorem dX5_bay_1 : decode cX5_bay 1 = .ok (.dup, 1) := by decide +kernel
theorem dX5_bay_2 : decode cX5_bay 2 = .ok (.getfield 254, 3) := by decide +kernel
theorem dX5_bay_5 : decode cX5_bay 5 = .ok (.ldc2_w 302, 3) := by decide +kernel
theorem dX5_bay_8 : decode cX5_bay 8 = .ok (.ladd, 1) := by decide +kernel
theorem dX5_bay_9 : decode cX5_bay 9 = .ok (.putfield 254, 3) := by decide +kernel
theorem dX5_bay_12 : decode cX5_bay 12 = .ok (.aload_n 0, 1) := by decide +kernel
theorem dX5_bay_13 : decode cX5_bay 13 = .ok (.iload_n 1, 1) := by decide +kernel
theorem dX5_bay_14 : decode cX5_bay 14 = .ok (.invokevirtual 222, 3) := by decide +kernel
theorem dX5_bay_17 : decode cX5_bay 17 = .ok (.aload_n 0, 1) := by decide +kernel
theorem dX5_bay_18 : decode cX5_bay 18 = .ok (.getfield 29, 3) := by decide +kernel
theorem dX5_bay_21 : decode cX5_bay 21 = .ok (.getfield 119, 3) := by decide +kernel
theorem dX5_bay_24 : decode cX5_bay 24 = .ok (.iadd, 1) := by decide +kernel
theorem dX5_bay_25 : decode cX5_bay 25 = .ok (.ireturn, 1) := by decide +kernel
theorem dX6_init_0 : decode cX6_init 0 = .ok (.aload_n 0, 1) := by decide +kernel
theorem dX6_init_1 : decode cX6_init 1 = .ok (.invokespecial 1, 3) := by decide +kernel
theorem dX6_init_4 : decode cX6_init 4 = .ok (.aload_n 0, 1) := by decide +kernel
theorem dX6_init_5 : decode cX6_init 5 = .ok (.bipush 6, 2) := by decide +kernel
theorem dX6_init_7 : decode cX6_init 7 = .ok (.newarray .int, 2) := by decide +kernel
theorem dX6_init_9 : decode cX6_init 9 = .ok (.putfield 7, 3) := by decide +kernel
theorem dX6_init_12 : decode cX6_init 12 = .ok (.aload_n 0, 1) := by decide +kernel
theorem dX6_init_13 : decode cX6_init 13 = .ok (.bipush 6, 2) := by decide +kernel
theorem dX6_init_15 : decode cX6_init 15 = .ok (.newarray .int, 2) := by decide +kernel
theorem dX6_init_17 : decode cX6_init 17 = .ok (.putfield 13, 3) := by decide +kernel
theorem dX6_init_20 : decode cX6_init 20 = .ok (.aload_n 0, 1) := by decide +kernel
theorem dX6_init_21 : decode cX6_init 21 = .ok (.bipush 6, 2) := by decide +kernel
theorem dX6_init_23 : decode cX6_init 23 = .ok (.newarray .int, 2) := by decide +kernel
theorem dX6_init_25 : decode cX6_init 25 = .ok (.putfield 16, 3) := by decide +kernel
theorem dX6_init_28 : decode cX6_init 28 = .ok (.aload_n 0, 1) := by decide +kernel
theorem dX6_init_29 : decode cX6_init 29 = .ok (.iconst 3, 1) := by decide +kernel
theorem dX6_init_30 : decode cX6_init 30 = .ok (.putfield 19, 3) := by decide +kernel
theorem dX6_init_33 : decode cX6_init 33 = .ok (.aload_n 0, 1) := by decide +kernel
theorem dX6_init_34 : decode cX6_init 34 = .ok (.iconst 1, 1) := by decide +kernel
theorem dX6_init_35 : decode cX6_init 35 = .ok (.putfield 23, 3) := by decide +kernel
theorem dX6_init_38 : decode cX6_init 38 = .ok (.aload_n 0, 1) := by decide +kernel
theorem dX6_init_39 : decode cX6_init 39 = .ok (.bipush 20, 2) := by decide +kernel
theorem dX6_init_41 : decode cX6_init 41 = .ok (.putfield 26, 3) := by decide +kernel
theorem dX6_init_44 : decode cX6_init 44 = .ok (.aload_n 0, 1) := by decide +kernel
theorem dX6_init_45 : decode cX6_init 45 = .ok (.bipush 26, 2) := by decide +kernel
theorem dX6_init_47 : decode cX6_init 47 = .ok (.newarray .int, 2) := by decide +kernel
theorem dX6_init_49 : decode cX6_init 49 = .ok (.putfield 29, 3) := by decide +kernel
theorem dX6_init_52 : decode cX6_init 52 = .ok (.aload_n 0, 1) := by decide +kernel
theorem dX6_init_53 : decode cX6_init 53 = .ok (.sipush 260, 3) := by decide +kernel
theorem dX6_init_56 : decode cX6_init 56 = .ok (.newarray .int, 2) := by decide +kernel
theorem dX6_init_58 : decode cX6_init 58 = .ok (.putfield 32, 3) := by decide +kernel
theorem dX6_init_61 : decode cX6_init 61 = .ok (.aload_n 0, 1) := by decide +kernel
theorem dX6_init_62 : decode cX6_init 62 = .ok (.bipush 52, 2) := by decide +kernel
theorem dX6_init_64 : decode cX6_init 64 = .ok (.newarray .int, 2) := by decide +kernel
theorem dX6_init_66 : decode cX6_init 66 = .ok (.putfield 35, 3) := by decide +kernel
theorem dX6_init_69 : decode cX6_init 69 = .ok (.aload_n 0, 1) := by decide +kernel
theorem dX6_init_70 : decode cX6_init 70 = .ok (.iconst 2, 1) := by decide +kernel
theorem dX6_init_71 : decode cX6_init 71 = .ok (.newarray .boolean, 2) := by decide +kernel
theorem dX6_init_73 : decode cX6_init 73 = .ok (.putfield 38, 3) := by decide +kernel
theorem dX6_init_76 : decode cX6_init 76 = .ok (.aload_n 0, 1) := by decide +kernel
theorem dX6_init_77 : decode cX6_init 77 = .ok (.bipush 18, 2) := by decide +kernel
theorem dX6_init_79 : decode cX6_init 79 = .ok (.newarray .int, 2) := by decide +kernel
theorem dX6_init_81 : decode cX6_init 81 = .ok (.putfield 42, 3) := by decide +kernel
theorem dX6_init_84 : decode cX6_init 84 = .ok (.aload_n 0, 1) := by decide +kernel
theorem dX6_init_85 : decode cX6_init 85 = .ok (.bipush 120, 2) := by decide +kernel
theorem dX6_init_87 : decode cX6_init 87 = .ok (.newarray .int, 2) := by decide +kernel
theorem dX6_init_89 : decode cX6_init 89 = .ok (.putfield 45, 3) := by decide +kernel
theorem dX6_init_92 : decode cX6_init 92 = .ok (.aload_n 0, 1) := by decide +kernel
theorem dX6_init_93 : decode cX6_init 93 = .ok (.bipush 24, 2) := by decide +kernel
theorem dX6_init_95 : decode cX6_init 95 = .ok (.newarray .int, 2) := by decide +kernel
theorem dX6_init_97 : decode cX6_init 97 = .ok (.putfield 48, 3) := by decide +kernel
theorem dX6_init_100 : decode cX6_init 100 = .ok (.aload_n 0, 1) := by decide +kernel
theorem dX6_init_101 : decode cX6_init 101 = .ok (.bipush 26, 2) := by decide +kernel
theorem dX6_init_103 : decode cX6_init 103 = .ok (.newarray .int, 2) := by decide +kernel
theorem dX6_init_105 : decode cX6_init 105 = .ok (.putfield 51, 3) := by decide +kernel
theorem dX6_init_108 : decode cX6_init 108 = .ok (.aload_n 0, 1) := by decide +kernel
theorem dX6_init_109 : decode cX6_init 109 = .ok (.bipush 64, 2) := by decide +kernel
theorem dX6_init_111 : decode cX6_init 111 = .ok (.newarray .int, 2) := by decide +kernel
theorem dX6_init_113 : decode cX6_init 113 = .ok (.putfield 54, 3) := by decide +kernel
theorem dX6_init_116 : decode cX6_init 116 = .ok (.aload_n 0, 1) := by decide +kernel
theorem dX6_init_117 : decode cX6_init 117 = .ok (.bipush 11, 2) := by decide +kernel
theorem dX6_init_119 : decode cX6_init 119 = .ok (.newarray .int, 2) := by decide +kernel
theorem dX6_init_121 : decode cX6_init 121 = .ok (.putfield 57, 3) := by decide +kernel
theorem dX6_init_124 : decode cX6_init 124 = .ok (.aload_n 0, 1) := by decide +kernel
theorem dX6_init_125 : decode cX6_init 125 = .ok (.getfield 29, 3) := by decide +kernel
theorem dX6_init_128 : decode cX6_init 128 = .ok (.iconst 1, 1) := by decide +kernel
theorem dX6_init_129 : decode cX6_init 129 = .ok (.iconst 3, 1) := by decide +kernel
theorem dX6_init_130 : decode cX6_init 130 = .ok (.iastore, 1) := by decide +kernel
theorem dX6_init_131 : decode cX6_init 131 = .ok (.return_, 1) := by decide +kernel
theorem dX6_in_0 : decode cX6_in 0 = .ok (.iload_n 0, 1) := by decide +kernel
theorem dX6_in_1 : decode cX6_in 1 = .ok (.iload_n 1, 1) := by decide +kernel
theorem dX6_in_2 : decode cX6_in 2 = .ok (.if_icmp .lt 12, 3) := by decide +kernel
theorem dX6_in_5 : decode cX6_in 5 = .ok (.iload_n 0, 1) := by decide +kernel
theorem dX6_in_6 : decode cX6_in 6 = .ok (.iload_n 2, 1) := by decide +kernel
theorem dX6_in_7 : decode cX6_in 7 = .ok (.if_icmp .gt 7, 3) := by decide +kernel
theorem dX6_in_10 : decode cX6_in 10 = .ok (.iconst 1, 1) := by decide +kernel
theorem dX6_in_11 : decode cX6_in 11 = .ok (.goto 4, 3) := by decide +kernel
theorem dX6_in_14 : decode cX6_in 14 = .ok (.iconst 0, 1) := by decide +kernel
theorem dX6_in_15 : decode cX6_in 15 = .ok (.ireturn, 1) := by decide +kernel
theorem dX6_has_0 : decode cX6_has 0 = .ok (.iload_n 0, 1) := by decide +kernel
theorem dX6_has_1 : decode cX6_has 1 = .ok (.iload_n 1, 1) := by decide +kernel
theorem dX6_has_2 : decode cX6_has 2 = .ok (.ishr, 1) := by decide +kernel
theorem dX6_has_3 : decode cX6_has 3 = .ok (.iconst 1, 1) := by decide +kernel
theorem dX6_has_4 : decode cX6_has 4 = .ok (.iand, 1) := by decide +kernel
theorem dX6_has_5 : decode cX6_has 5 = .ok (.iconst 1, 1) := by decide +kernel
theorem dX6_has_6 : decode cX6_has 6 = .ok (.if_icmp .ne 7, 3) := by decide +kernel
theorem dX6_has_9 : decode cX6_has 9 = .ok (.iconst 1, 1) := by decide +kernel
theorem dX6_has_10 : decode cX6_has 10 = .ok (.goto 4, 3) := by decide +kernel
theorem dX6_has_13 : decode cX6_has 13 = .ok (.iconst 0, 1) := by decide +kernel
theorem dX6_has_14 : decode cX6_has 14 = .ok (.ireturn, 1) := by decide +kernel
theorem dX6_bits_0 : decode cX6_bits 0 = .ok (.iconst 0, 1) := by decide +kernel
theorem dX6_bits_1 : decode cX6_bits 1 = .ok (.istore_n 1, 1) := by decide +kernel
theorem dX6_bits_2 : decode cX6_bits 2 = .ok (.iconst 0, 1) := by decide +kernel
theorem dX6_bits_3 : decode cX6_bits 3 = .ok (.istore_n 2, 1) := by decide +kernel
theorem dX6_bits_4 : decode cX6_bits 4 = .ok (.iload_n 2, 1) := by decide +kernel
theorem dX6_bits_5 : decode cX6_bits 5 = .ok (.bipush 6, 2) := by decide +kernel
theorem dX6_bits_7 : decode cX6_bits 7 = .ok (.if_icmp .ge 17, 3) := by decide +kernel
theorem dX6_bits_10 : decode cX6_bits 10 = .ok (.iload_n 1, 1) := by decide +kernel
theorem dX6_bits_11 : decode cX6_bits 11 = .ok (.iload_n 0, 1) := by decide +kernel
theorem dX6_bits_12 : decode cX6_bits 12 = .ok (.iload_n 2, 1) := by decide +kernel
theorem dX6_bits_13 : decode cX6_bits 13 = .ok (.ishr, 1) := by decide +kernel
theorem dX6_bits_14 : decode cX6_bits 14 = .ok (.iconst 1, 1) := by decide +kernel
theorem dX6_bits_15 : decode cX6_bits 15 = .ok (.iand, 1) := by decide +kernel
theorem dX6_bits_16 : decode cX6_bits 16 = .ok (.iadd, 1) := by decide +kernel
theorem dX6_bits_17 : decode cX6_bits 17 = .ok (.istore_n 1, 1) := by decide +kernel
theorem dX6_bits_18 : decode cX6_bits 18 = .ok (.iinc 2 1, 3) := by decide +kernel
theorem dX6_bits_21 : decode cX6_bits 21 = .ok (.goto (-17), 3) := by decide +kernel
theorem dX6_bits_24 : decode cX6_bits 24 = .ok (.iload_n 1, 1) := by decide +kernel
theorem dX6_bits_25 : decode cX6_bits 25 = .ok (.ireturn, 1) := by decide +kernel
theorem dX6_isOne_0 : decode cX6_isOne 0 = .ok (.iload_n 1, 1) := by decide +kernel
theorem dX6_isOne_1 : decode cX6_isOne 1 = .ok (.iconst 0, 1) := by decide +kernel
theorem dX6_isOne_2 : decode cX6_isOne 2 = .ok (.aload_n 0, 1) := by decide +kernel
theorem dX6_isOne_3 : decode cX6_isOne 3 = .ok (.getfield 60, 3) := by decide +kernel
theorem dX6_isOne_6 : decode cX6_isOne 6 = .ok (.iconst 1, 1) := by decide +kernel
theorem dX6_isOne_7 : decode cX6_isOne 7 = .ok (.isub, 1) := by decide +kernel
theorem dX6_isOne_8 : decode cX6_isOne 8 = .ok (.invokestatic 63, 3) := by decide +kernel
theorem dX6_isOne_11 : decode cX6_isOne 11 = .ok (.ireturn, 1) := by decide +kernel
theorem dX6_copy_0 : decode cX6_copy 0 = .ok (.iconst 0, 1) := by decide +kernel
theorem dX6_copy_1 : decode cX6_copy 1 = .ok (.istore 4, 2) := by decide +kernel
theorem dX6_copy_3 : decode cX6_copy 3 = .ok (.iload 4, 2) := by decide +kernel
theorem dX6_copy_5 : decode cX6_copy 5 = .ok (.bipush 26, 2) := by decide +kernel
theorem dX6_copy_7 : decode cX6_copy 7 = .ok (.if_icmp .ge 21, 3) := by decide +kernel
theorem dX6_copy_10 : decode cX6_copy 10 = .ok (.aload_n 0, 1) := by decide +kernel
theorem dX6_copy_11 : decode cX6_copy 11 = .ok (.iload_n 1, 1) := by decide +kernel
theorem dX6_copy_12 : decode cX6_copy 12 = .ok (.iload 4, 2) := by decide +kernel
theorem dX6_copy_14 : decode cX6_copy 14 = .ok (.iadd, 1) := by decide +kernel
theorem dX6_copy_15 : decode cX6_copy 15 = .ok (.aload_n 2, 1) := by decide +kernel
theorem dX6_copy_16 : decode cX6_copy 16 = .ok (.iload_n 3, 1) := by decide +kernel
theorem dX6_copy_17 : decode cX6_copy 17 = .ok (.iload 4, 2) := by decide +kernel
theorem dX6_copy_19 : decode cX6_copy 19 = .ok (.iadd, 1) := by decide +kernel
theorem dX6_copy_20 : decode cX6_copy 20 = .ok (.iaload, 1) := by decide +kernel
theorem dX6_copy_21 : decode cX6_copy 21 = .ok (.iastore, 1) := by decide +kernel
theorem dX6_copy_22 : decode cX6_copy 22 = .ok (.iinc 4 1, 3) := by decide +kernel
theorem dX6_copy_25 : decode cX6_copy 25 = .ok (.goto (-22), 3) := by decide +kernel
theorem dX6_copy_28 : decode cX6_copy 28 = .ok (.return_, 1) := by decide +kernel
theorem dX6_type_0 : decode cX6_type 0 = .ok (.iload_n 1, 1) := by decide +kernel
theorem dX6_type_1 : decode cX6_type 1 = .ok (.iconst 0, 1) := by decide +kernel
theorem dX6_type_2 : decode cX6_type 2 = .ok (.sipush 255, 3) := by decide +kernel
theorem dX6_type_5 : decode cX6_type 5 = .ok (.invokestatic 63, 3) := by decide +kernel
theorem dX6_type_8 : decode cX6_type 8 = .ok (.ifCond .ne 5, 3) := by decide +kernel
theorem dX6_type_11 : decode cX6_type 11 = .ok (.iconst (-1), 1) := by decide +kernel
theorem dX6_type_12 : decode cX6_type 12 = .ok (.ireturn, 1) := by decide +kernel
theorem dX6_type_13 : decode cX6_type 13 = .ok (.aload_n 0, 1) := by decide +kernel
theorem dX6_type_14 : decode cX6_type 14 = .ok (.getfield 67, 3) := by decide +kernel
theorem dX6_type_17 : decode cX6_type 17 = .ok (.bipush 120, 2) := by decide +kernel
theorem dX6_type_19 : decode cX6_type 19 = .ok (.if_icmp .ne 6, 3) := by decide +kernel
theorem dX6_type_22 : decode cX6_type 22 = .ok (.bipush (-3), 2) := by decide +kernel
theorem dX6_type_24 : decode cX6_type 24 = .ok (.ireturn, 1) := by decide +kernel
theorem dX6_type_25 : decode cX6_type 25 = .ok (.aload_n 0, 1) := by decide +kernel
theorem dX6_type_26 : decode cX6_type 26 = .ok (.getfield 45, 3) := by decide +kernel
theorem dX6_type_29 : decode cX6_type 29 = .ok (.aload_n 0, 1) := by decide +kernel
theorem dX6_type_30 : decode cX6_type 30 = .ok (.getfield 67, 3) := by decide +kernel
theorem dX6_type_33 : decode cX6_type 33 = .ok (.iload_n 1, 1) := by decide +kernel
theorem dX6_type_34 : decode cX6_type 34 = .ok (.iastore, 1) := by decide +kernel
theorem dX6_type_35 : decode cX6_type 35 = .ok (.aload_n 0, 1) := by decide +kernel
theorem dX6_type_36 : decode cX6_type 36 = .ok (.dup, 1) := by decide +kernel
theorem dX6_type_37 : decode cX6_type 37 = .ok (.getfield 67, 3) := by decide +kernel
theorem dX6_type_40 : decode cX6_type 40 = .ok (.iconst 1, 1) := by decide +kernel
theorem dX6_type_41 : decode cX6_type 41 = .ok (.iadd, 1) := by decide +kernel
theorem dX6_type_42 : decode cX6_type 42 = .ok (.putfield 67, 3) := by decide +kernel
theorem dX6_type_45 : decode cX6_type 45 = .ok (.aload_n 0, 1) := by decide +kernel
theorem dX6_type_46 : decode cX6_type 46 = .ok (.getfield 67, 3) := by decide +kernel
theorem dX6_type_49 : decode cX6_type 49 = .ok (.ireturn, 1) := by decide +kernel
theorem dX6_clear_0 : decode cX6_clear 0 = .ok (.aload_n 0, 1) := by decide +kernel
theorem dX6_clear_1 : decode cX6_clear 1 = .ok (.getfield 67, 3) := by decide +kernel
theorem dX6_clear_4 : decode cX6_clear 4 = .ok (.istore_n 1, 1) := by decide +kernel
theorem dX6_clear_5 : decode cX6_clear 5 = .ok (.aload_n 0, 1) := by decide +kernel
theorem dX6_clear_6 : decode cX6_clear 6 = .ok (.iconst 0, 1) := by decide +kernel
theorem dX6_clear_7 : decode cX6_clear 7 = .ok (.putfield 67, 3) := by decide +kernel
theorem dX6_clear_10 : decode cX6_clear 10 = .ok (.iload_n 1, 1) := by decide +kernel
theorem dX6_clear_11 : decode cX6_clear 11 = .ok (.ireturn, 1) := by decide +kernel
theorem dX6_letterAt_0 : decode cX6_letterAt 0 = .ok (.iload_n 1, 1) := by decide +kernel
theorem dX6_letterAt_1 : decode cX6_letterAt 1 = .ok (.aload_n 0, 1) := by decide +kernel
theorem dX6_letterAt_2 : decode cX6_letterAt 2 = .ok (.getfield 67, 3) := by decide +kernel
theorem dX6_letterAt_5 : decode cX6_letterAt 5 = .ok (.if_icmp .ge 12, 3) := by decide +kernel
theorem dX6_letterAt_8 : decode cX6_letterAt 8 = .ok (.aload_n 0, 1) := by decide +kernel
theorem dX6_letterAt_9 : decode cX6_letterAt 9 = .ok (.getfield 45, 3) := by decide +kernel
theorem dX6_letterAt_12 : decode cX6_letterAt 12 = .ok (.iload_n 1, 1) := by decide +kernel
theorem dX6_letterAt_13 : decode cX6_letterAt 13 = .ok (.iaload, 1) := by decide +kernel
theorem dX6_letterAt_14 : decode cX6_letterAt 14 = .ok (.goto 4, 3) := by decide +kernel
theorem dX6_letterAt_17 : decode cX6_letterAt 17 = .ok (.iconst (-1), 1) := by decide +kernel
theorem dX6_letterAt_18 : decode cX6_letterAt 18 = .ok (.ireturn, 1) := by decide +kernel
theorem dX6_isFigure_0 : decode cX6_isFigure 0 = .ok (.iload_n 0, 1) := by decide +kernel
theorem dX6_isFigure_1 : decode cX6_isFigure 1 = .ok (.bipush 48, 2) := by decide +kernel
theorem dX6_isFigure_3 : decode cX6_isFigure 3 = .ok (.bipush 57, 2) := by decide +kernel
theorem dX6_isFigure_5 : decode cX6_isFigure 5 = .ok (.invokestatic 63, 3) := by decide +kernel
theorem dX6_isFigure_8 : decode cX6_isFigure 8 = .ok (.ireturn, 1) := by decide +kernel
theorem dX6_next_0 : decode cX6_next 0 = .ok (.aload_n 0, 1) := by decide +kernel
theorem dX6_next_1 : decode cX6_next 1 = .ok (.aload_n 0, 1) := by decide +kernel
theorem dX6_next_2 : decode cX6_next 2 = .ok (.getfield 70, 3) := by decide +kernel
theorem dX6_next_5 : decode cX6_next 5 = .ok (.invokevirtual 73, 3) := by decide +kernel
theorem dX6_next_8 : decode cX6_next 8 = .ok (.bipush 32, 2) := by decide +kernel
theorem dX6_next_10 : decode cX6_next 10 = .ok (.if_icmp .ne 16, 3) := by decide +kernel
theorem dX6_next_13 : decode cX6_next 13 = .ok (.aload_n 0, 1) := by decide +kernel
theorem dX6_next_14 : decode cX6_next 14 = .ok (.dup, 1) := by decide +kernel
theorem dX6_next_15 : decode cX6_next 15 = .ok (.getfield 70, 3) := by decide +kernel
