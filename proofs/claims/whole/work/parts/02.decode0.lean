theorem dX0_init_0 : decode cX0_init 0 = .ok (.aload_n 0, 1) := by decide +kernel
theorem dX0_init_1 : decode cX0_init 1 = .ok (.invokespecial 1, 3) := by decide +kernel
theorem dX0_init_4 : decode cX0_init 4 = .ok (.aload_n 0, 1) := by decide +kernel
theorem dX0_init_5 : decode cX0_init 5 = .ok (.bipush 10, 2) := by decide +kernel
theorem dX0_init_7 : decode cX0_init 7 = .ok (.anewarray 9, 3) := by decide +kernel
theorem dX0_init_10 : decode cX0_init 10 = .ok (.putfield 11, 3) := by decide +kernel
theorem dX0_init_13 : decode cX0_init 13 = .ok (.iconst 0, 1) := by decide +kernel
theorem dX0_init_14 : decode cX0_init 14 = .ok (.istore_n 1, 1) := by decide +kernel
theorem dX0_init_15 : decode cX0_init 15 = .ok (.iload_n 1, 1) := by decide +kernel
theorem dX0_init_16 : decode cX0_init 16 = .ok (.bipush 10, 2) := by decide +kernel
theorem dX0_init_18 : decode cX0_init 18 = .ok (.if_icmp .ge 22, 3) := by decide +kernel
theorem dX0_init_21 : decode cX0_init 21 = .ok (.aload_n 0, 1) := by decide +kernel
theorem dX0_init_22 : decode cX0_init 22 = .ok (.getfield 11, 3) := by decide +kernel
theorem dX0_init_25 : decode cX0_init 25 = .ok (.iload_n 1, 1) := by decide +kernel
theorem dX0_init_26 : decode cX0_init 26 = .ok (.new 9, 3) := by decide +kernel
theorem dX0_init_29 : decode cX0_init 29 = .ok (.dup, 1) := by decide +kernel
theorem dX0_init_30 : decode cX0_init 30 = .ok (.invokespecial 15, 3) := by decide +kernel
theorem dX0_init_33 : decode cX0_init 33 = .ok (.aastore, 1) := by decide +kernel
theorem dX0_init_34 : decode cX0_init 34 = .ok (.iinc 1 1, 3) := by decide +kernel
theorem dX0_init_37 : decode cX0_init 37 = .ok (.goto (-22), 3) := by decide +kernel
theorem dX0_init_40 : decode cX0_init 40 = .ok (.return_, 1) := by decide +kernel
theorem dX0_remember_0 : decode cX0_remember 0 = .ok (.aload_n 0, 1) := by decide +kernel
theorem dX0_remember_1 : decode cX0_remember 1 = .ok (.invokevirtual 16, 3) := by decide +kernel
theorem dX0_remember_4 : decode cX0_remember 4 = .ok (.aload_n 1, 1) := by decide +kernel
theorem dX0_remember_5 : decode cX0_remember 5 = .ok (.invokestatic 20, 3) := by decide +kernel
theorem dX0_remember_8 : decode cX0_remember 8 = .ok (.aload_n 0, 1) := by decide +kernel
theorem dX0_remember_9 : decode cX0_remember 9 = .ok (.aload_n 0, 1) := by decide +kernel
theorem dX0_remember_10 : decode cX0_remember 10 = .ok (.getfield 24, 3) := by decide +kernel
theorem dX0_remember_13 : decode cX0_remember 13 = .ok (.iconst 1, 1) := by decide +kernel
theorem dX0_remember_14 : decode cX0_remember 14 = .ok (.iadd, 1) := by decide +kernel
theorem dX0_remember_15 : decode cX0_remember 15 = .ok (.bipush 10, 2) := by decide +kernel
theorem dX0_remember_17 : decode cX0_remember 17 = .ok (.if_icmp .ge 12, 3) := by decide +kernel
theorem dX0_remember_20 : decode cX0_remember 20 = .ok (.aload_n 0, 1) := by decide +kernel
theorem dX0_remember_21 : decode cX0_remember 21 = .ok (.getfield 24, 3) := by decide +kernel
theorem dX0_remember_24 : decode cX0_remember 24 = .ok (.iconst 1, 1) := by decide +kernel
theorem dX0_remember_25 : decode cX0_remember 25 = .ok (.iadd, 1) := by decide +kernel
theorem dX0_remember_26 : decode cX0_remember 26 = .ok (.goto 4, 3) := by decide +kernel
theorem dX0_remember_29 : decode cX0_remember 29 = .ok (.iconst 0, 1) := by decide +kernel
theorem dX0_remember_30 : decode cX0_remember 30 = .ok (.putfield 24, 3) := by decide +kernel
theorem dX0_remember_33 : decode cX0_remember 33 = .ok (.aload_n 0, 1) := by decide +kernel
theorem dX0_remember_34 : decode cX0_remember 34 = .ok (.bipush 10, 2) := by decide +kernel
theorem dX0_remember_36 : decode cX0_remember 36 = .ok (.aload_n 0, 1) := by decide +kernel
theorem dX0_remember_37 : decode cX0_remember 37 = .ok (.getfield 28, 3) := by decide +kernel
theorem dX0_remember_40 : decode cX0_remember 40 = .ok (.iconst 1, 1) := by decide +kernel
theorem dX0_remember_41 : decode cX0_remember 41 = .ok (.iadd, 1) := by decide +kernel
theorem dX0_remember_42 : decode cX0_remember 42 = .ok (.invokestatic 31, 3) := by decide +kernel
theorem dX0_remember_45 : decode cX0_remember 45 = .ok (.putfield 28, 3) := by decide +kernel
theorem dX0_remember_48 : decode cX0_remember 48 = .ok (.return_, 1) := by decide +kernel
theorem dX0_recall_0 : decode cX0_recall 0 = .ok (.aload_n 0, 1) := by decide +kernel
theorem dX0_recall_1 : decode cX0_recall 1 = .ok (.aload_n 0, 1) := by decide +kernel
theorem dX0_recall_2 : decode cX0_recall 2 = .ok (.getfield 24, 3) := by decide +kernel
theorem dX0_recall_5 : decode cX0_recall 5 = .ok (.ifCond .le 12, 3) := by decide +kernel
theorem dX0_recall_8 : decode cX0_recall 8 = .ok (.aload_n 0, 1) := by decide +kernel
theorem dX0_recall_9 : decode cX0_recall 9 = .ok (.getfield 24, 3) := by decide +kernel
theorem dX0_recall_12 : decode cX0_recall 12 = .ok (.iconst 1, 1) := by decide +kernel
theorem dX0_recall_13 : decode cX0_recall 13 = .ok (.isub, 1) := by decide +kernel
theorem dX0_recall_14 : decode cX0_recall 14 = .ok (.goto 5, 3) := by decide +kernel
theorem dX0_recall_17 : decode cX0_recall 17 = .ok (.bipush 9, 2) := by decide +kernel
theorem dX0_recall_19 : decode cX0_recall 19 = .ok (.putfield 24, 3) := by decide +kernel
theorem dX0_recall_22 : decode cX0_recall 22 = .ok (.aload_n 0, 1) := by decide +kernel
theorem dX0_recall_23 : decode cX0_recall 23 = .ok (.iconst 0, 1) := by decide +kernel
theorem dX0_recall_24 : decode cX0_recall 24 = .ok (.aload_n 0, 1) := by decide +kernel
theorem dX0_recall_25 : decode cX0_recall 25 = .ok (.getfield 28, 3) := by decide +kernel
theorem dX0_recall_28 : decode cX0_recall 28 = .ok (.iconst 1, 1) := by decide +kernel
theorem dX0_recall_29 : decode cX0_recall 29 = .ok (.isub, 1) := by decide +kernel
theorem dX0_recall_30 : decode cX0_recall 30 = .ok (.invokestatic 37, 3) := by decide +kernel
theorem dX0_recall_33 : decode cX0_recall 33 = .ok (.putfield 28, 3) := by decide +kernel
theorem dX0_recall_36 : decode cX0_recall 36 = .ok (.aload_n 1, 1) := by decide +kernel
theorem dX0_recall_37 : decode cX0_recall 37 = .ok (.aload_n 0, 1) := by decide +kernel
theorem dX0_recall_38 : decode cX0_recall 38 = .ok (.invokevirtual 16, 3) := by decide +kernel
theorem dX0_recall_41 : decode cX0_recall 41 = .ok (.invokestatic 20, 3) := by decide +kernel
theorem dX0_recall_44 : decode cX0_recall 44 = .ok (.return_, 1) := by decide +kernel
theorem dX0_place_0 : decode cX0_place 0 = .ok (.aload_n 0, 1) := by decide +kernel
theorem dX0_place_1 : decode cX0_place 1 = .ok (.getfield 24, 3) := by decide +kernel
theorem dX0_place_4 : decode cX0_place 4 = .ok (.ifCond .lt 24, 3) := by decide +kernel
theorem dX0_place_7 : decode cX0_place 7 = .ok (.aload_n 0, 1) := by decide +kernel
theorem dX0_place_8 : decode cX0_place 8 = .ok (.getfield 24, 3) := by decide +kernel
theorem dX0_place_11 : decode cX0_place 11 = .ok (.bipush 10, 2) := by decide +kernel
theorem dX0_place_13 : decode cX0_place 13 = .ok (.if_icmp .ge 15, 3) := by decide +kernel
theorem dX0_place_16 : decode cX0_place 16 = .ok (.aload_n 0, 1) := by decide +kernel
theorem dX0_place_17 : decode cX0_place 17 = .ok (.getfield 11, 3) := by decide +kernel
theorem dX0_place_20 : decode cX0_place 20 = .ok (.aload_n 0, 1) := by decide +kernel
theorem dX0_place_21 : decode cX0_place 21 = .ok (.getfield 24, 3) := by decide +kernel
theorem dX0_place_24 : decode cX0_place 24 = .ok (.aaload, 1) := by decide +kernel
theorem dX0_place_25 : decode cX0_place 25 = .ok (.goto 4, 3) := by decide +kernel
theorem dX0_place_28 : decode cX0_place 28 = .ok (.aconst_null, 1) := by decide +kernel
theorem dX0_place_29 : decode cX0_place 29 = .ok (.areturn, 1) := by decide +kernel
theorem dX0_copyInto_0 : decode cX0_copyInto 0 = .ok (.aload_n 0, 1) := by decide +kernel
theorem dX0_copyInto_1 : decode cX0_copyInto 1 = .ok (.ifnull 12, 3) := by decide +kernel
theorem dX0_copyInto_4 : decode cX0_copyInto 4 = .ok (.aload_n 1, 1) := by decide +kernel
theorem dX0_copyInto_5 : decode cX0_copyInto 5 = .ok (.ifnull 8, 3) := by decide +kernel
theorem dX0_copyInto_8 : decode cX0_copyInto 8 = .ok (.aload_n 0, 1) := by decide +kernel
theorem dX0_copyInto_9 : decode cX0_copyInto 9 = .ok (.aload_n 1, 1) := by decide +kernel
theorem dX0_copyInto_10 : decode cX0_copyInto 10 = .ok (.invokevirtual 40, 3) := by decide +kernel
theorem dX0_copyInto_13 : decode cX0_copyInto 13 = .ok (.return_, 1) := by decide +kernel
theorem dX1_init_0 : decode cX1_init 0 = .ok (.aload_n 0, 1) := by decide +kernel
theorem dX1_init_1 : decode cX1_init 1 = .ok (.invokespecial 3, 3) := by decide +kernel
theorem dX1_init_4 : decode cX1_init 4 = .ok (.aload_n 0, 1) := by decide +kernel
theorem dX1_init_5 : decode cX1_init 5 = .ok (.bipush 120, 2) := by decide +kernel
theorem dX1_init_7 : decode cX1_init 7 = .ok (.newarray .int, 2) := by decide +kernel
theorem dX1_init_9 : decode cX1_init 9 = .ok (.putfield 11, 3) := by decide +kernel
theorem dX1_init_12 : decode cX1_init 12 = .ok (.aload_n 0, 1) := by decide +kernel
theorem dX1_init_13 : decode cX1_init 13 = .ok (.iconst 4, 1) := by decide +kernel
theorem dX1_init_14 : decode cX1_init 14 = .ok (.newarray .int, 2) := by decide +kernel
theorem dX1_init_16 : decode cX1_init 16 = .ok (.putfield 15, 3) := by decide +kernel
theorem dX1_init_19 : decode cX1_init 19 = .ok (.return_, 1) := by decide +kernel
theorem dX1_add_0 : decode cX1_add 0 = .ok (.aload_n 0, 1) := by decide +kernel
theorem dX1_add_1 : decode cX1_add 1 = .ok (.getfield 18, 3) := by decide +kernel
theorem dX1_add_4 : decode cX1_add 4 = .ok (.ifCond .lt 12, 3) := by decide +kernel
theorem dX1_add_7 : decode cX1_add 7 = .ok (.aload_n 0, 1) := by decide +kernel
theorem dX1_add_8 : decode cX1_add 8 = .ok (.getfield 18, 3) := by decide +kernel
theorem dX1_add_11 : decode cX1_add 11 = .ok (.bipush 120, 2) := by decide +kernel
theorem dX1_add_13 : decode cX1_add 13 = .ok (.if_icmp .lt 5, 3) := by decide +kernel
theorem dX1_add_16 : decode cX1_add 16 = .ok (.iconst 0, 1) := by decide +kernel
theorem dX1_add_17 : decode cX1_add 17 = .ok (.ireturn, 1) := by decide +kernel
theorem dX1_add_18 : decode cX1_add 18 = .ok (.aload_n 0, 1) := by decide +kernel
theorem dX1_add_19 : decode cX1_add 19 = .ok (.getfield 11, 3) := by decide +kernel
theorem dX1_add_22 : decode cX1_add 22 = .ok (.aload_n 0, 1) := by decide +kernel
theorem dX1_add_23 : decode cX1_add 23 = .ok (.getfield 18, 3) := by decide +kernel
theorem dX1_add_26 : decode cX1_add 26 = .ok (.iload_n 1, 1) := by decide +kernel
theorem dX1_add_27 : decode cX1_add 27 = .ok (.iastore, 1) := by decide +kernel
theorem dX1_add_28 : decode cX1_add 28 = .ok (.aload_n 0, 1) := by decide +kernel
theorem dX1_add_29 : decode cX1_add 29 = .ok (.dup, 1) := by decide +kernel
theorem dX1_add_30 : decode cX1_add 30 = .ok (.getfield 18, 3) := by decide +kernel
theorem dX1_add_33 : decode cX1_add 33 = .ok (.iconst 1, 1) := by decide +kernel
theorem dX1_add_34 : decode cX1_add 34 = .ok (.iadd, 1) := by decide +kernel
theorem dX1_add_35 : decode cX1_add 35 = .ok (.putfield 18, 3) := by decide +kernel
theorem dX1_add_38 : decode cX1_add 38 = .ok (.iconst 1, 1) := by decide +kernel
theorem dX1_add_39 : decode cX1_add 39 = .ok (.ireturn, 1) := by decide +kernel
theorem dX1_readInto_0 : decode cX1_readInto 0 = .ok (.aload_n 1, 1) := by decide +kernel
theorem dX1_readInto_1 : decode cX1_readInto 1 = .ok (.invokevirtual 22, 3) := by decide +kernel
theorem dX1_readInto_4 : decode cX1_readInto 4 = .ok (.aload_n 0, 1) := by decide +kernel
theorem dX1_readInto_5 : decode cX1_readInto 5 = .ok (.iconst 0, 1) := by decide +kernel
theorem dX1_readInto_6 : decode cX1_readInto 6 = .ok (.putfield 27, 3) := by decide +kernel
theorem dX1_readInto_9 : decode cX1_readInto 9 = .ok (.aload_n 0, 1) := by decide +kernel
theorem dX1_readInto_10 : decode cX1_readInto 10 = .ok (.iconst 0, 1) := by decide +kernel
theorem dX1_readInto_11 : decode cX1_readInto 11 = .ok (.putfield 31, 3) := by decide +kernel
theorem dX1_readInto_14 : decode cX1_readInto 14 = .ok (.aload_n 0, 1) := by decide +kernel
theorem dX1_readInto_15 : decode cX1_readInto 15 = .ok (.iconst 0, 1) := by decide +kernel
theorem dX1_readInto_16 : decode cX1_readInto 16 = .ok (.putfield 34, 3) := by decide +kernel
theorem dX1_readInto_19 : decode cX1_readInto 19 = .ok (.aload_n 0, 1) := by decide +kernel
theorem dX1_readInto_20 : decode cX1_readInto 20 = .ok (.iconst 0, 1) := by decide +kernel
theorem dX1_readInto_21 : decode cX1_readInto 21 = .ok (.putfield 37, 3) := by decide +kernel
theorem dX1_readInto_24 : decode cX1_readInto 24 = .ok (.iconst 0, 1) := by decide +kernel
theorem dX1_readInto_25 : decode cX1_readInto 25 = .ok (.istore_n 2, 1) := by decide +kernel
theorem dX1_readInto_26 : decode cX1_readInto 26 = .ok (.aload_n 0, 1) := by decide +kernel
theorem dX1_readInto_27 : decode cX1_readInto 27 = .ok (.invokevirtual 40, 3) := by decide +kernel
theorem dX1_readInto_30 : decode cX1_readInto 30 = .ok (.iconst 0, 1) := by decide +kernel
theorem dX1_readInto_31 : decode cX1_readInto 31 = .ok (.istore_n 3, 1) := by decide +kernel
theorem dX1_readInto_32 : decode cX1_readInto 32 = .ok (.iload_n 3, 1) := by decide +kernel
theorem dX1_readInto_33 : decode cX1_readInto 33 = .ok (.bipush 120, 2) := by decide +kernel
theorem dX1_readInto_35 : decode cX1_readInto 35 = .ok (.if_icmp .ge 39, 3) := by decide +kernel
theorem dX1_readInto_38 : decode cX1_readInto 38 = .ok (.aload_n 0, 1) := by decide +kernel
theorem dX1_readInto_39 : decode cX1_readInto 39 = .ok (.getfield 43, 3) := by decide +kernel
theorem dX1_readInto_42 : decode cX1_readInto 42 = .ok (.ifCond .eq 32, 3) := by decide +kernel
theorem dX1_readInto_45 : decode cX1_readInto 45 = .ok (.aload_n 0, 1) := by decide +kernel
theorem dX1_readInto_46 : decode cX1_readInto 46 = .ok (.aload_n 1, 1) := by decide +kernel
theorem dX1_readInto_47 : decode cX1_readInto 47 = .ok (.invokevirtual 46, 3) := by decide +kernel
theorem dX1_readInto_50 : decode cX1_readInto 50 = .ok (.ifCond .ne 11, 3) := by decide +kernel
theorem dX1_readInto_53 : decode cX1_readInto 53 = .ok (.bipush (-10), 2) := by decide +kernel
theorem dX1_readInto_55 : decode cX1_readInto 55 = .ok (.aload_n 0, 1) := by decide +kernel
theorem dX1_readInto_56 : decode cX1_readInto 56 = .ok (.getfield 50, 3) := by decide +kernel
theorem dX1_readInto_59 : decode cX1_readInto 59 = .ok (.isub, 1) := by decide +kernel
theorem dX1_readInto_60 : decode cX1_readInto 60 = .ok (.ireturn, 1) := by decide +kernel
theorem dX1_readInto_61 : decode cX1_readInto 61 = .ok (.iinc 2 1, 3) := by decide +kernel
theorem dX1_readInto_64 : decode cX1_readInto 64 = .ok (.aload_n 0, 1) := by decide +kernel
theorem dX1_readInto_65 : decode cX1_readInto 65 = .ok (.invokevirtual 40, 3) := by decide +kernel
theorem dX1_readInto_68 : decode cX1_readInto 68 = .ok (.iinc 3 1, 3) := by decide +kernel
theorem dX1_readInto_71 : decode cX1_readInto 71 = .ok (.goto (-39), 3) := by decide +kernel
theorem dX1_readInto_74 : decode cX1_readInto 74 = .ok (.iload_n 2, 1) := by decide +kernel
theorem dX1_readInto_75 : decode cX1_readInto 75 = .ok (.ireturn, 1) := by decide +kernel
theorem dX1_readItem_0 : decode cX1_readItem 0 = .ok (.aload_n 0, 1) := by decide +kernel
theorem dX1_readItem_1 : decode cX1_readItem 1 = .ok (.getfield 43, 3) := by decide +kernel
theorem dX1_readItem_4 : decode cX1_readItem 4 = .ok (.istore_n 2, 1) := by decide +kernel
theorem dX1_readItem_5 : decode cX1_readItem 5 = .ok (.aload_n 0, 1) := by decide +kernel
theorem dX1_readItem_6 : decode cX1_readItem 6 = .ok (.iload_n 2, 1) := by decide +kernel
theorem dX1_readItem_7 : decode cX1_readItem 7 = .ok (.aload_n 1, 1) := by decide +kernel
theorem dX1_readItem_8 : decode cX1_readItem 8 = .ok (.invokevirtual 53, 3) := by decide +kernel
theorem dX1_readItem_11 : decode cX1_readItem 11 = .ok (.ifCond .ne 5, 3) := by decide +kernel
theorem dX1_readItem_14 : decode cX1_readItem 14 = .ok (.iconst 0, 1) := by decide +kernel
theorem dX1_readItem_15 : decode cX1_readItem 15 = .ok (.ireturn, 1) := by decide +kernel
theorem dX1_readItem_16 : decode cX1_readItem 16 = .ok (.iload_n 2, 1) := by decide +kernel
theorem dX1_readItem_17 : decode cX1_readItem 17 = .ok (.bipush 100, 2) := by decide +kernel
theorem dX1_readItem_19 : decode cX1_readItem 19 = .ok (.if_icmp .ne 7, 3) := by decide +kernel
theorem dX1_readItem_22 : decode cX1_readItem 22 = .ok (.iconst 4, 1) := by decide +kernel
theorem dX1_readItem_23 : decode cX1_readItem 23 = .ok (.goto 4, 3) := by decide +kernel
theorem dX1_readItem_26 : decode cX1_readItem 26 = .ok (.iconst 1, 1) := by decide +kernel
theorem dX1_readItem_27 : decode cX1_readItem 27 = .ok (.istore_n 3, 1) := by decide +kernel
theorem dX1_readItem_28 : decode cX1_readItem 28 = .ok (.iconst 0, 1) := by decide +kernel
theorem dX1_readItem_29 : decode cX1_readItem 29 = .ok (.istore 4, 2) := by decide +kernel
theorem dX1_readItem_31 : decode cX1_readItem 31 = .ok (.iload 4, 2) := by decide +kernel
theorem dX1_readItem_33 : decode cX1_readItem 33 = .ok (.iload_n 3, 1) := by decide +kernel
theorem dX1_readItem_34 : decode cX1_readItem 34 = .ok (.if_icmp .ge 60, 3) := by decide +kernel
theorem dX1_readItem_37 : decode cX1_readItem 37 = .ok (.aload_n 0, 1) := by decide +kernel
theorem dX1_readItem_38 : decode cX1_readItem 38 = .ok (.invokevirtual 40, 3) := by decide +kernel
theorem dX1_readItem_41 : decode cX1_readItem 41 = .ok (.aload_n 0, 1) := by decide +kernel
theorem dX1_readItem_42 : decode cX1_readItem 42 = .ok (.getfield 43, 3) := by decide +kernel
theorem dX1_readItem_45 : decode cX1_readItem 45 = .ok (.iconst 1, 1) := by decide +kernel
theorem dX1_readItem_46 : decode cX1_readItem 46 = .ok (.if_icmp .ne 29, 3) := by decide +kernel
theorem dX1_readItem_49 : decode cX1_readItem 49 = .ok (.aload_n 0, 1) := by decide +kernel
theorem dX1_readItem_50 : decode cX1_readItem 50 = .ok (.getfield 57, 3) := by decide +kernel
theorem dX1_readItem_53 : decode cX1_readItem 53 = .ok (.iload_n 2, 1) := by decide +kernel
theorem dX1_readItem_54 : decode cX1_readItem 54 = .ok (.iload 4, 2) := by decide +kernel
theorem dX1_readItem_56 : decode cX1_readItem 56 = .ok (.invokestatic 60, 3) := by decide +kernel
theorem dX1_readItem_59 : decode cX1_readItem 59 = .ok (.if_icmp .lt 16, 3) := by decide +kernel
theorem dX1_readItem_62 : decode cX1_readItem 62 = .ok (.aload_n 0, 1) := by decide +kernel
theorem dX1_readItem_63 : decode cX1_readItem 63 = .ok (.getfield 57, 3) := by decide +kernel
theorem dX1_readItem_66 : decode cX1_readItem 66 = .ok (.iload_n 2, 1) := by decide +kernel
theorem dX1_readItem_67 : decode cX1_readItem 67 = .ok (.iload 4, 2) := by decide +kernel
theorem dX1_readItem_69 : decode cX1_readItem 69 = .ok (.invokestatic 64, 3) := by decide +kernel
theorem dX1_readItem_72 : decode cX1_readItem 72 = .ok (.if_icmp .le 5, 3) := by decide +kernel
theorem dX1_readItem_75 : decode cX1_readItem 75 = .ok (.iconst 0, 1) := by decide +kernel
theorem dX1_readItem_76 : decode cX1_readItem 76 = .ok (.ireturn, 1) := by decide +kernel
theorem dX1_readItem_77 : decode cX1_readItem 77 = .ok (.aload_n 0, 1) := by decide +kernel
theorem dX1_readItem_78 : decode cX1_readItem 78 = .ok (.getfield 15, 3) := by decide +kernel
theorem dX1_readItem_81 : decode cX1_readItem 81 = .ok (.iload 4, 2) := by decide +kernel
theorem dX1_readItem_83 : decode cX1_readItem 83 = .ok (.aload_n 0, 1) := by decide +kernel
theorem dX1_readItem_84 : decode cX1_readItem 84 = .ok (.getfield 57, 3) := by decide +kernel
theorem dX1_readItem_87 : decode cX1_readItem 87 = .ok (.iastore, 1) := by decide +kernel
theorem dX1_readItem_88 : decode cX1_readItem 88 = .ok (.iinc 4 1, 3) := by decide +kernel
theorem dX1_readItem_91 : decode cX1_readItem 91 = .ok (.goto (-60), 3) := by decide +kernel
theorem dX1_readItem_94 : decode cX1_readItem 94 = .ok (.aload_n 0, 1) := by decide +kernel
theorem dX1_readItem_95 : decode cX1_readItem 95 = .ok (.invokevirtual 40, 3) := by decide +kernel
theorem dX1_readItem_98 : decode cX1_readItem 98 = .ok (.aload_n 0, 1) := by decide +kernel
theorem dX1_readItem_99 : decode cX1_readItem 99 = .ok (.getfield 43, 3) := by decide +kernel
theorem dX1_readItem_102 : decode cX1_readItem 102 = .ok (.bipush 59, 2) := by decide +kernel
theorem dX1_readItem_104 : decode cX1_readItem 104 = .ok (.if_icmp .eq 5, 3) := by decide +kernel
theorem dX1_readItem_107 : decode cX1_readItem 107 = .ok (.iconst 0, 1) := by decide +kernel
theorem dX1_readItem_108 : decode cX1_readItem 108 = .ok (.ireturn, 1) := by decide +kernel
theorem dX1_readItem_109 : decode cX1_readItem 109 = .ok (.aload_n 0, 1) := by decide +kernel
theorem dX1_readItem_110 : decode cX1_readItem 110 = .ok (.iload_n 2, 1) := by decide +kernel
theorem dX1_readItem_111 : decode cX1_readItem 111 = .ok (.aload_n 1, 1) := by decide +kernel
theorem dX1_readItem_112 : decode cX1_readItem 112 = .ok (.invokevirtual 67, 3) := by decide +kernel
theorem dX1_readItem_115 : decode cX1_readItem 115 = .ok (.iconst 1, 1) := by decide +kernel
theorem dX1_readItem_116 : decode cX1_readItem 116 = .ok (.ireturn, 1) := by decide +kernel
theorem dX1_mayBegin_0 : decode cX1_mayBegin 0 = .ok (.iload_n 1, 1) := by decide +kernel
theorem dX1_mayBegin_1 : decode cX1_mayBegin 1 = .ok (.lookupswitch 97 #[(100, 43), (103, 71), (104, 58), (114, 84)], 43) := by decide +kernel
theorem dX1_mayBegin_44 : decode cX1_mayBegin 44 = .ok (.aload_n 2, 1) := by decide +kernel
theorem dX1_mayBegin_45 : decode cX1_mayBegin 45 = .ok (.getfield 71, 3) := by decide +kernel
theorem dX1_mayBegin_48 : decode cX1_mayBegin 48 = .ok (.bipush 6, 2) := by decide +kernel
theorem dX1_mayBegin_50 : decode cX1_mayBegin 50 = .ok (.if_icmp .ge 7, 3) := by decide +kernel
theorem dX1_mayBegin_53 : decode cX1_mayBegin 53 = .ok (.iconst 1, 1) := by decide +kernel
theorem dX1_mayBegin_54 : decode cX1_mayBegin 54 = .ok (.goto 4, 3) := by decide +kernel
theorem dX1_mayBegin_57 : decode cX1_mayBegin 57 = .ok (.iconst 0, 1) := by decide +kernel
theorem dX1_mayBegin_58 : decode cX1_mayBegin 58 = .ok (.ireturn, 1) := by decide +kernel
theorem dX1_mayBegin_59 : decode cX1_mayBegin 59 = .ok (.aload_n 0, 1) := by decide +kernel
theorem dX1_mayBegin_60 : decode cX1_mayBegin 60 = .ok (.getfield 27, 3) := by decide +kernel
theorem dX1_mayBegin_63 : decode cX1_mayBegin 63 = .ok (.ifCond .ne 7, 3) := by decide +kernel
theorem dX1_mayBegin_66 : decode cX1_mayBegin 66 = .ok (.iconst 1, 1) := by decide +kernel
theorem dX1_mayBegin_67 : decode cX1_mayBegin 67 = .ok (.goto 4, 3) := by decide +kernel
theorem dX1_mayBegin_70 : decode cX1_mayBegin 70 = .ok (.iconst 0, 1) := by decide +kernel
theorem dX1_mayBegin_71 : decode cX1_mayBegin 71 = .ok (.ireturn, 1) := by decide +kernel
theorem dX1_mayBegin_72 : decode cX1_mayBegin 72 = .ok (.aload_n 0, 1) := by decide +kernel
theorem dX1_mayBegin_73 : decode cX1_mayBegin 73 = .ok (.getfield 31, 3) := by decide +kernel
theorem dX1_mayBegin_76 : decode cX1_mayBegin 76 = .ok (.ifCond .ne 7, 3) := by decide +kernel
theorem dX1_mayBegin_79 : decode cX1_mayBegin 79 = .ok (.iconst 1, 1) := by decide +kernel
theorem dX1_mayBegin_80 : decode cX1_mayBegin 80 = .ok (.goto 4, 3) := by decide +kernel
theorem dX1_mayBegin_83 : decode cX1_mayBegin 83 = .ok (.iconst 0, 1) := by decide +kernel
theorem dX1_mayBegin_84 : decode cX1_mayBegin 84 = .ok (.ireturn, 1) := by decide +kernel
theorem dX1_mayBegin_85 : decode cX1_mayBegin 85 = .ok (.aload_n 0, 1) := by decide +kernel
theorem dX1_mayBegin_86 : decode cX1_mayBegin 86 = .ok (.getfield 34, 3) := by decide +kernel
theorem dX1_mayBegin_89 : decode cX1_mayBegin 89 = .ok (.ifCond .ne 7, 3) := by decide +kernel
theorem dX1_mayBegin_92 : decode cX1_mayBegin 92 = .ok (.iconst 1, 1) := by decide +kernel
theorem dX1_mayBegin_93 : decode cX1_mayBegin 93 = .ok (.goto 4, 3) := by decide +kernel
theorem dX1_mayBegin_96 : decode cX1_mayBegin 96 = .ok (.iconst 0, 1) := by decide +kernel
theorem dX1_mayBegin_97 : decode cX1_mayBegin 97 = .ok (.ireturn, 1) := by decide +kernel
theorem dX1_mayBegin_98 : decode cX1_mayBegin 98 = .ok (.iconst 0, 1) := by decide +kernel
theorem dX1_mayBegin_99 : decode cX1_mayBegin 99 = .ok (.ireturn, 1) := by decide +kernel
theorem dX1_leastOf_0 : decode cX1_leastOf 0 = .ok (.iload_n 0, 1) := by decide +kernel
theorem dX1_leastOf_1 : decode cX1_leastOf 1 = .ok (.bipush 114, 2) := by decide +kernel
theorem dX1_leastOf_3 : decode cX1_leastOf 3 = .ok (.if_icmp .ne 6, 3) := by decide +kernel
theorem dX1_leastOf_6 : decode cX1_leastOf 6 = .ok (.bipush 9, 2) := by decide +kernel
theorem dX1_leastOf_8 : decode cX1_leastOf 8 = .ok (.ireturn, 1) := by decide +kernel
theorem dX1_leastOf_9 : decode cX1_leastOf 9 = .ok (.iload_n 0, 1) := by decide +kernel
theorem dX1_leastOf_10 : decode cX1_leastOf 10 = .ok (.bipush 100, 2) := by decide +kernel
theorem dX1_leastOf_12 : decode cX1_leastOf 12 = .ok (.if_icmp .ne 12, 3) := by decide +kernel
theorem dX1_leastOf_15 : decode cX1_leastOf 15 = .ok (.iload_n 1, 1) := by decide +kernel
theorem dX1_leastOf_16 : decode cX1_leastOf 16 = .ok (.iconst 1, 1) := by decide +kernel
theorem dX1_leastOf_17 : decode cX1_leastOf 17 = .ok (.if_icmp .ne 7, 3) := by decide +kernel
theorem dX1_leastOf_20 : decode cX1_leastOf 20 = .ok (.iconst 1, 1) := by decide +kernel
theorem dX1_leastOf_21 : decode cX1_leastOf 21 = .ok (.goto 4, 3) := by decide +kernel
theorem dX1_leastOf_24 : decode cX1_leastOf 24 = .ok (.iconst 0, 1) := by decide +kernel
theorem dX1_leastOf_25 : decode cX1_leastOf 25 = .ok (.ireturn, 1) := by decide +kernel
theorem dX1_greatestOf_0 : decode cX1_greatestOf 0 = .ok (.iload_n 0, 1) := by decide +kernel
theorem dX1_greatestOf_1 : decode cX1_greatestOf 1 = .ok (.bipush 114, 2) := by decide +kernel
theorem dX1_greatestOf_3 : decode cX1_greatestOf 3 = .ok (.if_icmp .ne 6, 3) := by decide +kernel
theorem dX1_greatestOf_6 : decode cX1_greatestOf 6 = .ok (.bipush 40, 2) := by decide +kernel
theorem dX1_greatestOf_8 : decode cX1_greatestOf 8 = .ok (.ireturn, 1) := by decide +kernel
theorem dX1_greatestOf_9 : decode cX1_greatestOf 9 = .ok (.iload_n 0, 1) := by decide +kernel
theorem dX1_greatestOf_10 : decode cX1_greatestOf 10 = .ok (.bipush 100, 2) := by decide +kernel
theorem dX1_greatestOf_12 : decode cX1_greatestOf 12 = .ok (.if_icmp .ne 10, 3) := by decide +kernel
theorem dX1_greatestOf_15 : decode cX1_greatestOf 15 = .ok (.iload_n 1, 1) := by decide +kernel
theorem dX1_greatestOf_16 : decode cX1_greatestOf 16 = .ok (.ifCond .ne 6, 3) := by decide +kernel
theorem dX1_greatestOf_19 : decode cX1_greatestOf 19 = .ok (.bipush 40, 2) := by decide +kernel
theorem dX1_greatestOf_21 : decode cX1_greatestOf 21 = .ok (.ireturn, 1) := by decide +kernel
theorem dX1_greatestOf_22 : decode cX1_greatestOf 22 = .ok (.iload_n 0, 1) := by decide +kernel
theorem dX1_greatestOf_23 : decode cX1_greatestOf 23 = .ok (.bipush 100, 2) := by decide +kernel
theorem dX1_greatestOf_25 : decode cX1_greatestOf 25 = .ok (.if_icmp .ne 12, 3) := by decide +kernel
theorem dX1_greatestOf_28 : decode cX1_greatestOf 28 = .ok (.iload_n 1, 1) := by decide +kernel
theorem dX1_greatestOf_29 : decode cX1_greatestOf 29 = .ok (.iconst 2, 1) := by decide +kernel
theorem dX1_greatestOf_30 : decode cX1_greatestOf 30 = .ok (.if_icmp .ne 7, 3) := by decide +kernel
theorem dX1_greatestOf_33 : decode cX1_greatestOf 33 = .ok (.iconst 3, 1) := by decide +kernel
theorem dX1_greatestOf_34 : decode cX1_greatestOf 34 = .ok (.goto 5, 3) := by decide +kernel
theorem dX1_greatestOf_37 : decode cX1_greatestOf 37 = .ok (.bipush 9, 2) := by decide +kernel
theorem dX1_greatestOf_39 : decode cX1_greatestOf 39 = .ok (.ireturn, 1) := by decide +kernel
theorem dX1_tell_0 : decode cX1_tell 0 = .ok (.iload_n 1, 1) := by decide +kernel
theorem dX1_tell_1 : decode cX1_tell 1 = .ok (.bipush 100, 2) := by decide +kernel
theorem dX1_tell_3 : decode cX1_tell 3 = .ok (.if_icmp .ne 14, 3) := by decide +kernel
theorem dX1_tell_6 : decode cX1_tell 6 = .ok (.aload_n 2, 1) := by decide +kernel
theorem dX1_tell_7 : decode cX1_tell 7 = .ok (.aload_n 0, 1) := by decide +kernel
theorem dX1_tell_8 : decode cX1_tell 8 = .ok (.getfield 15, 3) := by decide +kernel
theorem dX1_tell_11 : decode cX1_tell 11 = .ok (.invokevirtual 74, 3) := by decide +kernel
theorem dX1_tell_14 : decode cX1_tell 14 = .ok (.goto 66, 3) := by decide +kernel
theorem dX1_tell_17 : decode cX1_tell 17 = .ok (.iload_n 1, 1) := by decide +kernel
theorem dX1_tell_18 : decode cX1_tell 18 = .ok (.bipush 104, 2) := by decide +kernel
theorem dX1_tell_20 : decode cX1_tell 20 = .ok (.if_icmp .ne 21, 3) := by decide +kernel
theorem dX1_tell_23 : decode cX1_tell 23 = .ok (.aload_n 2, 1) := by decide +kernel
theorem dX1_tell_24 : decode cX1_tell 24 = .ok (.aload_n 0, 1) := by decide +kernel
theorem dX1_tell_25 : decode cX1_tell 25 = .ok (.getfield 15, 3) := by decide +kernel
theorem dX1_tell_28 : decode cX1_tell 28 = .ok (.iconst 0, 1) := by decide +kernel
theorem dX1_tell_29 : decode cX1_tell 29 = .ok (.iaload, 1) := by decide +kernel
theorem dX1_tell_30 : decode cX1_tell 30 = .ok (.putfield 78, 3) := by decide +kernel
theorem dX1_tell_33 : decode cX1_tell 33 = .ok (.aload_n 0, 1) := by decide +kernel
theorem dX1_tell_34 : decode cX1_tell 34 = .ok (.iconst 1, 1) := by decide +kernel
theorem dX1_tell_35 : decode cX1_tell 35 = .ok (.putfield 27, 3) := by decide +kernel
theorem dX1_tell_38 : decode cX1_tell 38 = .ok (.goto 42, 3) := by decide +kernel
theorem dX1_tell_41 : decode cX1_tell 41 = .ok (.iload_n 1, 1) := by decide +kernel
theorem dX1_tell_42 : decode cX1_tell 42 = .ok (.bipush 103, 2) := by decide +kernel
theorem dX1_tell_44 : decode cX1_tell 44 = .ok (.if_icmp .ne 21, 3) := by decide +kernel
theorem dX1_tell_47 : decode cX1_tell 47 = .ok (.aload_n 2, 1) := by decide +kernel
theorem dX1_tell_48 : decode cX1_tell 48 = .ok (.aload_n 0, 1) := by decide +kernel
theorem dX1_tell_49 : decode cX1_tell 49 = .ok (.getfield 15, 3) := by decide +kernel
theorem dX1_tell_52 : decode cX1_tell 52 = .ok (.iconst 0, 1) := by decide +kernel
theorem dX1_tell_53 : decode cX1_tell 53 = .ok (.iaload, 1) := by decide +kernel
theorem dX1_tell_54 : decode cX1_tell 54 = .ok (.putfield 81, 3) := by decide +kernel
theorem dX1_tell_57 : decode cX1_tell 57 = .ok (.aload_n 0, 1) := by decide +kernel
theorem dX1_tell_58 : decode cX1_tell 58 = .ok (.iconst 1, 1) := by decide +kernel
theorem dX1_tell_59 : decode cX1_tell 59 = .ok (.putfield 31, 3) := by decide +kernel
theorem dX1_tell_62 : decode cX1_tell 62 = .ok (.goto 18, 3) := by decide +kernel
theorem dX1_tell_65 : decode cX1_tell 65 = .ok (.aload_n 2, 1) := by decide +kernel
theorem dX1_tell_66 : decode cX1_tell 66 = .ok (.aload_n 0, 1) := by decide +kernel
theorem dX1_tell_67 : decode cX1_tell 67 = .ok (.getfield 15, 3) := by decide +kernel
theorem dX1_tell_70 : decode cX1_tell 70 = .ok (.iconst 0, 1) := by decide +kernel
theorem dX1_tell_71 : decode cX1_tell 71 = .ok (.iaload, 1) := by decide +kernel
theorem dX1_tell_72 : decode cX1_tell 72 = .ok (.putfield 84, 3) := by decide +kernel
theorem dX1_tell_75 : decode cX1_tell 75 = .ok (.aload_n 0, 1) := by decide +kernel
theorem dX1_tell_76 : decode cX1_tell 76 = .ok (.iconst 1, 1) := by decide +kernel
theorem dX1_tell_77 : decode cX1_tell 77 = .ok (.putfield 34, 3) := by decide +kernel
theorem dX1_tell_80 : decode cX1_tell 80 = .ok (.return_, 1) := by decide +kernel
theorem dX1_advance_0 : decode cX1_advance 0 = .ok (.iconst 0, 1) := by decide +kernel
theorem dX1_advance_1 : decode cX1_advance 1 = .ok (.istore_n 1, 1) := by decide +kernel
theorem dX1_advance_2 : decode cX1_advance 2 = .ok (.iload_n 1, 1) := by decide +kernel
theorem dX1_advance_3 : decode cX1_advance 3 = .ok (.bipush 120, 2) := by decide +kernel
theorem dX1_advance_5 : decode cX1_advance 5 = .ok (.if_icmp .ge 32, 3) := by decide +kernel
theorem dX1_advance_8 : decode cX1_advance 8 = .ok (.aload_n 0, 1) := by decide +kernel
theorem dX1_advance_9 : decode cX1_advance 9 = .ok (.aload_n 0, 1) := by decide +kernel
theorem dX1_advance_10 : decode cX1_advance 10 = .ok (.getfield 37, 3) := by decide +kernel
theorem dX1_advance_13 : decode cX1_advance 13 = .ok (.invokevirtual 87, 3) := by decide +kernel
theorem dX1_advance_16 : decode cX1_advance 16 = .ok (.bipush 32, 2) := by decide +kernel
theorem dX1_advance_18 : decode cX1_advance 18 = .ok (.if_icmp .ne 19, 3) := by decide +kernel
theorem dX1_advance_21 : decode cX1_advance 21 = .ok (.aload_n 0, 1) := by decide +kernel
theorem dX1_advance_22 : decode cX1_advance 22 = .ok (.dup, 1) := by decide +kernel
theorem dX1_advance_23 : decode cX1_advance 23 = .ok (.getfield 37, 3) := by decide +kernel
theorem dX1_advance_26 : decode cX1_advance 26 = .ok (.iconst 1, 1) := by decide +kernel
theorem dX1_advance_27 : decode cX1_advance 27 = .ok (.iadd, 1) := by decide +kernel
theorem dX1_advance_28 : decode cX1_advance 28 = .ok (.putfield 37, 3) := by decide +kernel
theorem dX1_advance_31 : decode cX1_advance 31 = .ok (.iinc 1 1, 3) := by decide +kernel
theorem dX1_advance_34 : decode cX1_advance 34 = .ok (.goto (-32), 3) := by decide +kernel
theorem dX1_advance_37 : decode cX1_advance 37 = .ok (.aload_n 0, 1) := by decide +kernel
theorem dX1_advance_38 : decode cX1_advance 38 = .ok (.aload_n 0, 1) := by decide +kernel
theorem dX1_advance_39 : decode cX1_advance 39 = .ok (.getfield 37, 3) := by decide +kernel
theorem dX1_advance_42 : decode cX1_advance 42 = .ok (.putfield 50, 3) := by decide +kernel
theorem dX1_advance_45 : decode cX1_advance 45 = .ok (.aload_n 0, 1) := by decide +kernel
theorem dX1_advance_46 : decode cX1_advance 46 = .ok (.aload_n 0, 1) := by decide +kernel
theorem dX1_advance_47 : decode cX1_advance 47 = .ok (.getfield 37, 3) := by decide +kernel
theorem dX1_advance_50 : decode cX1_advance 50 = .ok (.invokevirtual 87, 3) := by decide +kernel
theorem dX1_advance_53 : decode cX1_advance 53 = .ok (.istore_n 1, 1) := by decide +kernel
theorem dX1_advance_54 : decode cX1_advance 54 = .ok (.aload_n 0, 1) := by decide +kernel
theorem dX1_advance_55 : decode cX1_advance 55 = .ok (.getfield 37, 3) := by decide +kernel
theorem dX1_advance_58 : decode cX1_advance 58 = .ok (.aload_n 0, 1) := by decide +kernel
theorem dX1_advance_59 : decode cX1_advance 59 = .ok (.getfield 18, 3) := by decide +kernel
theorem dX1_advance_62 : decode cX1_advance 62 = .ok (.if_icmp .lt 11, 3) := by decide +kernel
theorem dX1_advance_65 : decode cX1_advance 65 = .ok (.aload_n 0, 1) := by decide +kernel
theorem dX1_advance_66 : decode cX1_advance 66 = .ok (.iconst 0, 1) := by decide +kernel
theorem dX1_advance_67 : decode cX1_advance 67 = .ok (.putfield 43, 3) := by decide +kernel
theorem dX1_advance_70 : decode cX1_advance 70 = .ok (.goto 43, 3) := by decide +kernel
theorem dX1_advance_73 : decode cX1_advance 73 = .ok (.iload_n 1, 1) := by decide +kernel
theorem dX1_advance_74 : decode cX1_advance 74 = .ok (.invokestatic 91, 3) := by decide +kernel
theorem dX1_advance_77 : decode cX1_advance 77 = .ok (.ifCond .eq 10, 3) := by decide +kernel
theorem dX1_advance_80 : decode cX1_advance 80 = .ok (.aload_n 0, 1) := by decide +kernel
theorem dX1_advance_81 : decode cX1_advance 81 = .ok (.invokevirtual 95, 3) := by decide +kernel
theorem dX1_advance_84 : decode cX1_advance 84 = .ok (.goto 29, 3) := by decide +kernel
theorem dX1_advance_87 : decode cX1_advance 87 = .ok (.aload_n 0, 1) := by decide +kernel
theorem dX1_advance_88 : decode cX1_advance 88 = .ok (.dup, 1) := by decide +kernel
theorem dX1_advance_89 : decode cX1_advance 89 = .ok (.getfield 37, 3) := by decide +kernel
theorem dX1_advance_92 : decode cX1_advance 92 = .ok (.iconst 1, 1) := by decide +kernel
theorem dX1_advance_93 : decode cX1_advance 93 = .ok (.iadd, 1) := by decide +kernel
theorem dX1_advance_94 : decode cX1_advance 94 = .ok (.putfield 37, 3) := by decide +kernel
theorem dX1_advance_97 : decode cX1_advance 97 = .ok (.aload_n 0, 1) := by decide +kernel
theorem dX1_advance_98 : decode cX1_advance 98 = .ok (.iload_n 1, 1) := by decide +kernel
theorem dX1_advance_99 : decode cX1_advance 99 = .ok (.invokestatic 98, 3) := by decide +kernel
theorem dX1_advance_102 : decode cX1_advance 102 = .ok (.ifCond .eq 7, 3) := by decide +kernel
theorem dX1_advance_105 : decode cX1_advance 105 = .ok (.iload_n 1, 1) := by decide +kernel
theorem dX1_advance_106 : decode cX1_advance 106 = .ok (.goto 4, 3) := by decide +kernel
theorem dX1_advance_109 : decode cX1_advance 109 = .ok (.iconst 2, 1) := by decide +kernel
theorem dX1_advance_110 : decode cX1_advance 110 = .ok (.putfield 43, 3) := by decide +kernel
theorem dX1_advance_113 : decode cX1_advance 113 = .ok (.return_, 1) := by decide +kernel
theorem dX1_takeDigits_0 : decode cX1_takeDigits 0 = .ok (.aload_n 0, 1) := by decide +kernel
theorem dX1_takeDigits_1 : decode cX1_takeDigits 1 = .ok (.iconst 0, 1) := by decide +kernel
theorem dX1_takeDigits_2 : decode cX1_takeDigits 2 = .ok (.putfield 57, 3) := by decide +kernel
theorem dX1_takeDigits_5 : decode cX1_takeDigits 5 = .ok (.iconst 0, 1) := by decide +kernel
theorem dX1_takeDigits_6 : decode cX1_takeDigits 6 = .ok (.istore_n 1, 1) := by decide +kernel
theorem dX1_takeDigits_7 : decode cX1_takeDigits 7 = .ok (.iload_n 1, 1) := by decide +kernel
theorem dX1_takeDigits_8 : decode cX1_takeDigits 8 = .ok (.bipush 120, 2) := by decide +kernel
theorem dX1_takeDigits_10 : decode cX1_takeDigits 10 = .ok (.if_icmp .ge 61, 3) := by decide +kernel
theorem dX1_takeDigits_13 : decode cX1_takeDigits 13 = .ok (.aload_n 0, 1) := by decide +kernel
theorem dX1_takeDigits_14 : decode cX1_takeDigits 14 = .ok (.aload_n 0, 1) := by decide +kernel
theorem dX1_takeDigits_15 : decode cX1_takeDigits 15 = .ok (.getfield 37, 3) := by decide +kernel
theorem dX1_takeDigits_18 : decode cX1_takeDigits 18 = .ok (.invokevirtual 87, 3) := by decide +kernel
theorem dX1_takeDigits_21 : decode cX1_takeDigits 21 = .ok (.invokestatic 91, 3) := by decide +kernel
theorem dX1_takeDigits_24 : decode cX1_takeDigits 24 = .ok (.ifCond .eq 47, 3) := by decide +kernel
theorem dX1_takeDigits_27 : decode cX1_takeDigits 27 = .ok (.aload_n 0, 1) := by decide +kernel
theorem dX1_takeDigits_28 : decode cX1_takeDigits 28 = .ok (.bipush 100, 2) := by decide +kernel
theorem dX1_takeDigits_30 : decode cX1_takeDigits 30 = .ok (.bipush 10, 2) := by decide +kernel
theorem dX1_takeDigits_32 : decode cX1_takeDigits 32 = .ok (.aload_n 0, 1) := by decide +kernel
theorem dX1_takeDigits_33 : decode cX1_takeDigits 33 = .ok (.getfield 57, 3) := by decide +kernel
theorem dX1_takeDigits_36 : decode cX1_takeDigits 36 = .ok (.imul, 1) := by decide +kernel
theorem dX1_takeDigits_37 : decode cX1_takeDigits 37 = .ok (.aload_n 0, 1) := by decide +kernel
theorem dX1_takeDigits_38 : decode cX1_takeDigits 38 = .ok (.aload_n 0, 1) := by decide +kernel
theorem dX1_takeDigits_39 : decode cX1_takeDigits 39 = .ok (.getfield 37, 3) := by decide +kernel
theorem dX1_takeDigits_42 : decode cX1_takeDigits 42 = .ok (.invokevirtual 87, 3) := by decide +kernel
theorem dX1_takeDigits_45 : decode cX1_takeDigits 45 = .ok (.iadd, 1) := by decide +kernel
theorem dX1_takeDigits_46 : decode cX1_takeDigits 46 = .ok (.bipush 48, 2) := by decide +kernel
theorem dX1_takeDigits_48 : decode cX1_takeDigits 48 = .ok (.isub, 1) := by decide +kernel
theorem dX1_takeDigits_49 : decode cX1_takeDigits 49 = .ok (.invokestatic 101, 3) := by decide +kernel
theorem dX1_takeDigits_52 : decode cX1_takeDigits 52 = .ok (.putfield 57, 3) := by decide +kernel
theorem dX1_takeDigits_55 : decode cX1_takeDigits 55 = .ok (.aload_n 0, 1) := by decide +kernel
theorem dX1_takeDigits_56 : decode cX1_takeDigits 56 = .ok (.dup, 1) := by decide +kernel
theorem dX1_takeDigits_57 : decode cX1_takeDigits 57 = .ok (.getfield 37, 3) := by decide +kernel
theorem dX1_takeDigits_60 : decode cX1_takeDigits 60 = .ok (.iconst 1, 1) := by decide +kernel
theorem dX1_takeDigits_61 : decode cX1_takeDigits 61 = .ok (.iadd, 1) := by decide +kernel
theorem dX1_takeDigits_62 : decode cX1_takeDigits 62 = .ok (.putfield 37, 3) := by decide +kernel
theorem dX1_takeDigits_65 : decode cX1_takeDigits 65 = .ok (.iinc 1 1, 3) := by decide +kernel
theorem dX1_takeDigits_68 : decode cX1_takeDigits 68 = .ok (.goto (-61), 3) := by decide +kernel
theorem dX1_takeDigits_71 : decode cX1_takeDigits 71 = .ok (.aload_n 0, 1) := by decide +kernel
theorem dX1_takeDigits_72 : decode cX1_takeDigits 72 = .ok (.aload_n 0, 1) := by decide +kernel
theorem dX1_takeDigits_73 : decode cX1_takeDigits 73 = .ok (.getfield 50, 3) := by decide +kernel
theorem dX1_takeDigits_76 : decode cX1_takeDigits 76 = .ok (.invokevirtual 87, 3) := by decide +kernel
theorem dX1_takeDigits_79 : decode cX1_takeDigits 79 = .ok (.bipush 48, 2) := by decide +kernel
theorem dX1_takeDigits_81 : decode cX1_takeDigits 81 = .ok (.if_icmp .ne 20, 3) := by decide +kernel
theorem dX1_takeDigits_84 : decode cX1_takeDigits 84 = .ok (.aload_n 0, 1) := by decide +kernel
theorem dX1_takeDigits_85 : decode cX1_takeDigits 85 = .ok (.getfield 37, 3) := by decide +kernel
theorem dX1_takeDigits_88 : decode cX1_takeDigits 88 = .ok (.aload_n 0, 1) := by decide +kernel
theorem dX1_takeDigits_89 : decode cX1_takeDigits 89 = .ok (.getfield 50, 3) := by decide +kernel
theorem dX1_takeDigits_92 : decode cX1_takeDigits 92 = .ok (.isub, 1) := by decide +kernel
theorem dX1_takeDigits_93 : decode cX1_takeDigits 93 = .ok (.iconst 1, 1) := by decide +kernel
theorem dX1_takeDigits_94 : decode cX1_takeDigits 94 = .ok (.if_icmp .le 7, 3) := by decide +kernel
theorem dX1_takeDigits_97 : decode cX1_takeDigits 97 = .ok (.iconst 1, 1) := by decide +kernel
theorem dX1_takeDigits_98 : decode cX1_takeDigits 98 = .ok (.goto 4, 3) := by decide +kernel
theorem dX1_takeDigits_101 : decode cX1_takeDigits 101 = .ok (.iconst 0, 1) := by decide +kernel
theorem dX1_takeDigits_102 : decode cX1_takeDigits 102 = .ok (.istore_n 1, 1) := by decide +kernel
theorem dX1_takeDigits_103 : decode cX1_takeDigits 103 = .ok (.aload_n 0, 1) := by decide +kernel
theorem dX1_takeDigits_104 : decode cX1_takeDigits 104 = .ok (.aload_n 0, 1) := by decide +kernel
theorem dX1_takeDigits_105 : decode cX1_takeDigits 105 = .ok (.getfield 57, 3) := by decide +kernel
theorem dX1_takeDigits_108 : decode cX1_takeDigits 108 = .ok (.bipush 99, 2) := by decide +kernel
theorem dX1_takeDigits_110 : decode cX1_takeDigits 110 = .ok (.if_icmp .gt 7, 3) := by decide +kernel
theorem dX1_takeDigits_113 : decode cX1_takeDigits 113 = .ok (.iload_n 1, 1) := by decide +kernel
theorem dX1_takeDigits_114 : decode cX1_takeDigits 114 = .ok (.ifCond .eq 7, 3) := by decide +kernel
theorem dX1_takeDigits_117 : decode cX1_takeDigits 117 = .ok (.iconst 2, 1) := by decide +kernel
theorem dX1_takeDigits_118 : decode cX1_takeDigits 118 = .ok (.goto 4, 3) := by decide +kernel
theorem dX1_takeDigits_121 : decode cX1_takeDigits 121 = .ok (.iconst 1, 1) := by decide +kernel
theorem dX1_takeDigits_122 : decode cX1_takeDigits 122 = .ok (.putfield 43, 3) := by decide +kernel
theorem dX1_takeDigits_125 : decode cX1_takeDigits 125 = .ok (.return_, 1) := by decide +kernel
theorem dX1_letterAt_0 : decode cX1_letterAt 0 = .ok (.iload_n 1, 1) := by decide +kernel
theorem dX1_letterAt_1 : decode cX1_letterAt 1 = .ok (.ifCond .lt 26, 3) := by decide +kernel
theorem dX1_letterAt_4 : decode cX1_letterAt 4 = .ok (.iload_n 1, 1) := by decide +kernel
theorem dX1_letterAt_5 : decode cX1_letterAt 5 = .ok (.bipush 120, 2) := by decide +kernel
theorem dX1_letterAt_7 : decode cX1_letterAt 7 = .ok (.if_icmp .ge 20, 3) := by decide +kernel
theorem dX1_letterAt_10 : decode cX1_letterAt 10 = .ok (.iload_n 1, 1) := by decide +kernel
theorem dX1_letterAt_11 : decode cX1_letterAt 11 = .ok (.aload_n 0, 1) := by decide +kernel
theorem dX1_letterAt_12 : decode cX1_letterAt 12 = .ok (.getfield 18, 3) := by decide +kernel
theorem dX1_letterAt_15 : decode cX1_letterAt 15 = .ok (.if_icmp .ge 12, 3) := by decide +kernel
theorem dX1_letterAt_18 : decode cX1_letterAt 18 = .ok (.aload_n 0, 1) := by decide +kernel
theorem dX1_letterAt_19 : decode cX1_letterAt 19 = .ok (.getfield 11, 3) := by decide +kernel
theorem dX1_letterAt_22 : decode cX1_letterAt 22 = .ok (.iload_n 1, 1) := by decide +kernel
theorem dX1_letterAt_23 : decode cX1_letterAt 23 = .ok (.iaload, 1) := by decide +kernel
theorem dX1_letterAt_24 : decode cX1_letterAt 24 = .ok (.goto 4, 3) := by decide +kernel
theorem dX1_letterAt_27 : decode cX1_letterAt 27 = .ok (.iconst 0, 1) := by decide +kernel
theorem dX1_letterAt_28 : decode cX1_letterAt 28 = .ok (.ireturn, 1) := by decide +kernel
theorem dX1_isDigit_0 : decode cX1_isDigit 0 = .ok (.iload_n 0, 1) := by decide +kernel
theorem dX1_isDigit_1 : decode cX1_isDigit 1 = .ok (.bipush 48, 2) := by decide +kernel
theorem dX1_isDigit_3 : decode cX1_isDigit 3 = .ok (.if_icmp .lt 13, 3) := by decide +kernel
theorem dX1_isDigit_6 : decode cX1_isDigit 6 = .ok (.iload_n 0, 1) := by decide +kernel
theorem dX1_isDigit_7 : decode cX1_isDigit 7 = .ok (.bipush 57, 2) := by decide +kernel
theorem dX1_isDigit_9 : decode cX1_isDigit 9 = .ok (.if_icmp .gt 7, 3) := by decide +kernel
theorem dX1_isDigit_12 : decode cX1_isDigit 12 = .ok (.iconst 1, 1) := by decide +kernel
theorem dX1_isDigit_13 : decode cX1_isDigit 13 = .ok (.goto 4, 3) := by decide +kernel
theorem dX1_isDigit_16 : decode cX1_isDigit 16 = .ok (.iconst 0, 1) := by decide +kernel
theorem dX1_isDigit_17 : decode cX1_isDigit 17 = .ok (.ireturn, 1) := by decide +kernel
theorem dX1_isSign_0 : decode cX1_isSign 0 = .ok (.iload_n 0, 1) := by decide +kernel
theorem dX1_isSign_1 : decode cX1_isSign 1 = .ok (.bipush 100, 2) := by decide +kernel
theorem dX1_isSign_3 : decode cX1_isSign 3 = .ok (.if_icmp .eq 27, 3) := by decide +kernel
theorem dX1_isSign_6 : decode cX1_isSign 6 = .ok (.iload_n 0, 1) := by decide +kernel
theorem dX1_isSign_7 : decode cX1_isSign 7 = .ok (.bipush 104, 2) := by decide +kernel
theorem dX1_isSign_9 : decode cX1_isSign 9 = .ok (.if_icmp .eq 21, 3) := by decide +kernel
theorem dX1_isSign_12 : decode cX1_isSign 12 = .ok (.iload_n 0, 1) := by decide +kernel
theorem dX1_isSign_13 : decode cX1_isSign 13 = .ok (.bipush 103, 2) := by decide +kernel
theorem dX1_isSign_15 : decode cX1_isSign 15 = .ok (.if_icmp .eq 15, 3) := by decide +kernel
theorem dX1_isSign_18 : decode cX1_isSign 18 = .ok (.iload_n 0, 1) := by decide +kernel
theorem dX1_isSign_19 : decode cX1_isSign 19 = .ok (.bipush 114, 2) := by decide +kernel
theorem dX1_isSign_21 : decode cX1_isSign 21 = .ok (.if_icmp .eq 9, 3) := by decide +kernel
theorem dX1_isSign_24 : decode cX1_isSign 24 = .ok (.iload_n 0, 1) := by decide +kernel
theorem dX1_isSign_25 : decode cX1_isSign 25 = .ok (.bipush 59, 2) := by decide +kernel
theorem dX1_isSign_27 : decode cX1_isSign 27 = .ok (.if_icmp .ne 7, 3) := by decide +kernel
theorem dX1_isSign_30 : decode cX1_isSign 30 = .ok (.iconst 1, 1) := by decide +kernel
theorem dX1_isSign_31 : decode cX1_isSign 31 = .ok (.goto 4, 3) := by decide +kernel
theorem dX1_isSign_34 : decode cX1_isSign 34 = .ok (.iconst 0, 1) := by decide +kernel
theorem dX1_isSign_35 : decode cX1_isSign 35 = .ok (.ireturn, 1) := by decide +kernel
theorem dX2_init_0 : decode cX2_init 0 = .ok (.aload_n 0, 1) := by decide +kernel
theorem dX2_init_1 : decode cX2_init 1 = .ok (.invokespecial 3, 3) := by decide +kernel
theorem dX2_init_4 : decode cX2_init 4 = .ok (.aload_n 0, 1) := by decide +kernel
theorem dX2_init_5 : decode cX2_init 5 = .ok (.bipush 6, 2) := by decide +kernel
theorem dX2_init_7 : decode cX2_init 7 = .ok (.newarray .int, 2) := by decide +kernel
theorem dX2_init_9 : decode cX2_init 9 = .ok (.putfield 9, 3) := by decide +kernel
theorem dX2_init_12 : decode cX2_init 12 = .ok (.aload_n 0, 1) := by decide +kernel
theorem dX2_init_13 : decode cX2_init 13 = .ok (.bipush 6, 2) := by decide +kernel
theorem dX2_init_15 : decode cX2_init 15 = .ok (.newarray .int, 2) := by decide +kernel
theorem dX2_init_17 : decode cX2_init 17 = .ok (.putfield 15, 3) := by decide +kernel
theorem dX2_init_20 : decode cX2_init 20 = .ok (.aload_n 0, 1) := by decide +kernel
theorem dX2_init_21 : decode cX2_init 21 = .ok (.bipush 6, 2) := by decide +kernel
theorem dX2_init_23 : decode cX2_init 23 = .ok (.newarray .int, 2) := by decide +kernel
theorem dX2_init_25 : decode cX2_init 25 = .ok (.putfield 18, 3) := by decide +kernel
theorem dX2_init_28 : decode cX2_init 28 = .ok (.aload_n 0, 1) := by decide +kernel
theorem dX2_init_29 : decode cX2_init 29 = .ok (.bipush 6, 2) := by decide +kernel
theorem dX2_init_31 : decode cX2_init 31 = .ok (.newarray .int, 2) := by decide +kernel
theorem dX2_init_33 : decode cX2_init 33 = .ok (.putfield 21, 3) := by decide +kernel
theorem dX2_init_36 : decode cX2_init 36 = .ok (.return_, 1) := by decide +kernel
theorem dX2_setAsAtFirst_0 : decode cX2_setAsAtFirst 0 = .ok (.aload_n 0, 1) := by decide +kernel
theorem dX2_setAsAtFirst_1 : decode cX2_setAsAtFirst 1 = .ok (.iconst 0, 1) := by decide +kernel
theorem dX2_setAsAtFirst_2 : decode cX2_setAsAtFirst 2 = .ok (.putfield 24, 3) := by decide +kernel
theorem dX2_setAsAtFirst_5 : decode cX2_setAsAtFirst 5 = .ok (.aload_n 0, 1) := by decide +kernel
theorem dX2_setAsAtFirst_6 : decode cX2_setAsAtFirst 6 = .ok (.iconst 3, 1) := by decide +kernel
theorem dX2_setAsAtFirst_7 : decode cX2_setAsAtFirst 7 = .ok (.putfield 28, 3) := by decide +kernel
theorem dX2_setAsAtFirst_10 : decode cX2_setAsAtFirst 10 = .ok (.aload_n 0, 1) := by decide +kernel
theorem dX2_setAsAtFirst_11 : decode cX2_setAsAtFirst 11 = .ok (.iconst 1, 1) := by decide +kernel
theorem dX2_setAsAtFirst_12 : decode cX2_setAsAtFirst 12 = .ok (.putfield 31, 3) := by decide +kernel
theorem dX2_setAsAtFirst_15 : decode cX2_setAsAtFirst 15 = .ok (.aload_n 0, 1) := by decide +kernel
theorem dX2_setAsAtFirst_16 : decode cX2_setAsAtFirst 16 = .ok (.bipush 20, 2) := by decide +kernel
theorem dX2_setAsAtFirst_18 : decode cX2_setAsAtFirst 18 = .ok (.putfield 34, 3) := by decide +kernel
theorem dX2_setAsAtFirst_21 : decode cX2_setAsAtFirst 21 = .ok (.return_, 1) := by decide +kernel
theorem dX2_copy_0 : decode cX2_copy 0 = .ok (.aload_n 0, 1) := by decide +kernel
theorem dX2_copy_1 : decode cX2_copy 1 = .ok (.aload_n 1, 1) := by decide +kernel
theorem dX2_copy_2 : decode cX2_copy 2 = .ok (.getfield 24, 3) := by decide +kernel
theorem dX2_copy_5 : decode cX2_copy 5 = .ok (.putfield 24, 3) := by decide +kernel
theorem dX2_copy_8 : decode cX2_copy 8 = .ok (.aload_n 0, 1) := by decide +kernel
theorem dX2_copy_9 : decode cX2_copy 9 = .ok (.aload_n 1, 1) := by decide +kernel
theorem dX2_copy_10 : decode cX2_copy 10 = .ok (.getfield 28, 3) := by decide +kernel
theorem dX2_copy_13 : decode cX2_copy 13 = .ok (.putfield 28, 3) := by decide +kernel
theorem dX2_copy_16 : decode cX2_copy 16 = .ok (.aload_n 0, 1) := by decide +kernel
theorem dX2_copy_17 : decode cX2_copy 17 = .ok (.aload_n 1, 1) := by decide +kernel
theorem dX2_copy_18 : decode cX2_copy 18 = .ok (.getfield 31, 3) := by decide +kernel
theorem dX2_copy_21 : decode cX2_copy 21 = .ok (.putfield 31, 3) := by decide +kernel
theorem dX2_copy_24 : decode cX2_copy 24 = .ok (.aload_n 0, 1) := by decide +kernel
theorem dX2_copy_25 : decode cX2_copy 25 = .ok (.aload_n 1, 1) := by decide +kernel
theorem dX2_copy_26 : decode cX2_copy 26 = .ok (.getfield 34, 3) := by decide +kernel
theorem dX2_copy_29 : decode cX2_copy 29 = .ok (.putfield 34, 3) := by decide +kernel
theorem dX2_copy_32 : decode cX2_copy 32 = .ok (.aload_n 1, 1) := by decide +kernel
theorem dX2_copy_33 : decode cX2_copy 33 = .ok (.getfield 9, 3) := by decide +kernel
theorem dX2_copy_36 : decode cX2_copy 36 = .ok (.iconst 0, 1) := by decide +kernel
theorem dX2_copy_37 : decode cX2_copy 37 = .ok (.aload_n 0, 1) := by decide +kernel
theorem dX2_copy_38 : decode cX2_copy 38 = .ok (.getfield 9, 3) := by decide +kernel
theorem dX2_copy_41 : decode cX2_copy 41 = .ok (.iconst 0, 1) := by decide +kernel
theorem dX2_copy_42 : decode cX2_copy 42 = .ok (.bipush 6, 2) := by decide +kernel
theorem dX2_copy_44 : decode cX2_copy 44 = .ok (.invokestatic 37, 3) := by decide +kernel
theorem dX2_copy_47 : decode cX2_copy 47 = .ok (.aload_n 1, 1) := by decide +kernel
theorem dX2_copy_48 : decode cX2_copy 48 = .ok (.getfield 15, 3) := by decide +kernel
theorem dX2_copy_51 : decode cX2_copy 51 = .ok (.iconst 0, 1) := by decide +kernel
theorem dX2_copy_52 : decode cX2_copy 52 = .ok (.aload_n 0, 1) := by decide +kernel
theorem dX2_copy_53 : decode cX2_copy 53 = .ok (.getfield 15, 3) := by decide +kernel
theorem dX2_copy_56 : decode cX2_copy 56 = .ok (.iconst 0, 1) := by decide +kernel
theorem dX2_copy_57 : decode cX2_copy 57 = .ok (.bipush 6, 2) := by decide +kernel
theorem dX2_copy_59 : decode cX2_copy 59 = .ok (.invokestatic 37, 3) := by decide +kernel
theorem dX2_copy_62 : decode cX2_copy 62 = .ok (.aload_n 1, 1) := by decide +kernel
theorem dX2_copy_63 : decode cX2_copy 63 = .ok (.getfield 18, 3) := by decide +kernel
theorem dX2_copy_66 : decode cX2_copy 66 = .ok (.iconst 0, 1) := by decide +kernel
theorem dX2_copy_67 : decode cX2_copy 67 = .ok (.aload_n 0, 1) := by decide +kernel
theorem dX2_copy_68 : decode cX2_copy 68 = .ok (.getfield 18, 3) := by decide +kernel
theorem dX2_copy_71 : decode cX2_copy 71 = .ok (.iconst 0, 1) := by decide +kernel
theorem dX2_copy_72 : decode cX2_copy 72 = .ok (.bipush 6, 2) := by decide +kernel
theorem dX2_copy_74 : decode cX2_copy 74 = .ok (.invokestatic 37, 3) := by decide +kernel
theorem dX2_copy_77 : decode cX2_copy 77 = .ok (.aload_n 1, 1) := by decide +kernel
theorem dX2_copy_78 : decode cX2_copy 78 = .ok (.getfield 21, 3) := by decide +kernel
theorem dX2_copy_81 : decode cX2_copy 81 = .ok (.iconst 0, 1) := by decide +kernel
theorem dX2_copy_82 : decode cX2_copy 82 = .ok (.aload_n 0, 1) := by decide +kernel
theorem dX2_copy_83 : decode cX2_copy 83 = .ok (.getfield 21, 3) := by decide +kernel
theorem dX2_copy_86 : decode cX2_copy 86 = .ok (.iconst 0, 1) := by decide +kernel
theorem dX2_copy_87 : decode cX2_copy 87 = .ok (.bipush 6, 2) := by decide +kernel
theorem dX2_copy_89 : decode cX2_copy 89 = .ok (.invokestatic 37, 3) := by decide +kernel
theorem dX2_copy_92 : decode cX2_copy 92 = .ok (.return_, 1) := by decide +kernel
theorem dX2_addDumpling_0 : decode cX2_addDumpling 0 = .ok (.aload_n 0, 1) := by decide +kernel
theorem dX2_addDumpling_1 : decode cX2_addDumpling 1 = .ok (.getfield 24, 3) := by decide +kernel
theorem dX2_addDumpling_4 : decode cX2_addDumpling 4 = .ok (.ifCond .lt 18, 3) := by decide +kernel
theorem dX2_addDumpling_7 : decode cX2_addDumpling 7 = .ok (.aload_n 0, 1) := by decide +kernel
theorem dX2_addDumpling_8 : decode cX2_addDumpling 8 = .ok (.getfield 24, 3) := by decide +kernel
theorem dX2_addDumpling_11 : decode cX2_addDumpling 11 = .ok (.bipush 6, 2) := by decide +kernel
theorem dX2_addDumpling_13 : decode cX2_addDumpling 13 = .ok (.if_icmp .ge 9, 3) := by decide +kernel
theorem dX2_addDumpling_16 : decode cX2_addDumpling 16 = .ok (.aload_n 1, 1) := by decide +kernel
theorem dX2_addDumpling_17 : decode cX2_addDumpling 17 = .ok (.arraylength, 1) := by decide +kernel
theorem dX2_addDumpling_18 : decode cX2_addDumpling 18 = .ok (.iconst 4, 1) := by decide +kernel
theorem dX2_addDumpling_19 : decode cX2_addDumpling 19 = .ok (.if_icmp .ge 4, 3) := by decide +kernel
theorem dX2_addDumpling_22 : decode cX2_addDumpling 22 = .ok (.return_, 1) := by decide +kernel
theorem dX2_addDumpling_23 : decode cX2_addDumpling 23 = .ok (.aload_n 0, 1) := by decide +kernel
theorem dX2_addDumpling_24 : decode cX2_addDumpling 24 = .ok (.getfield 9, 3) := by decide +kernel
theorem dX2_addDumpling_27 : decode cX2_addDumpling 27 = .ok (.aload_n 0, 1) := by decide +kernel
theorem dX2_addDumpling_28 : decode cX2_addDumpling 28 = .ok (.getfield 24, 3) := by decide +kernel
theorem dX2_addDumpling_31 : decode cX2_addDumpling 31 = .ok (.aload_n 1, 1) := by decide +kernel
theorem dX2_addDumpling_32 : decode cX2_addDumpling 32 = .ok (.iconst 0, 1) := by decide +kernel
theorem dX2_addDumpling_33 : decode cX2_addDumpling 33 = .ok (.iaload, 1) := by decide +kernel
theorem dX2_addDumpling_34 : decode cX2_addDumpling 34 = .ok (.iastore, 1) := by decide +kernel
theorem dX2_addDumpling_35 : decode cX2_addDumpling 35 = .ok (.aload_n 0, 1) := by decide +kernel
theorem dX2_addDumpling_36 : decode cX2_addDumpling 36 = .ok (.getfield 15, 3) := by decide +kernel
theorem dX2_addDumpling_39 : decode cX2_addDumpling 39 = .ok (.aload_n 0, 1) := by decide +kernel
theorem dX2_addDumpling_40 : decode cX2_addDumpling 40 = .ok (.getfield 24, 3) := by decide +kernel
theorem dX2_addDumpling_43 : decode cX2_addDumpling 43 = .ok (.aload_n 1, 1) := by decide +kernel
theorem dX2_addDumpling_44 : decode cX2_addDumpling 44 = .ok (.iconst 1, 1) := by decide +kernel
theorem dX2_addDumpling_45 : decode cX2_addDumpling 45 = .ok (.iaload, 1) := by decide +kernel
theorem dX2_addDumpling_46 : decode cX2_addDumpling 46 = .ok (.iastore, 1) := by decide +kernel
theorem dX2_addDumpling_47 : decode cX2_addDumpling 47 = .ok (.aload_n 0, 1) := by decide +kernel
theorem dX2_addDumpling_48 : decode cX2_addDumpling 48 = .ok (.getfield 18, 3) := by decide +kernel
theorem dX2_addDumpling_51 : decode cX2_addDumpling 51 = .ok (.aload_n 0, 1) := by decide +kernel
theorem dX2_addDumpling_52 : decode cX2_addDumpling 52 = .ok (.getfield 24, 3) := by decide +kernel
theorem dX2_addDumpling_55 : decode cX2_addDumpling 55 = .ok (.aload_n 1, 1) := by decide +kernel
theorem dX2_addDumpling_56 : decode cX2_addDumpling 56 = .ok (.iconst 2, 1) := by decide +kernel
theorem dX2_addDumpling_57 : decode cX2_addDumpling 57 = .ok (.iaload, 1) := by decide +kernel
theorem dX2_addDumpling_58 : decode cX2_addDumpling 58 = .ok (.iastore, 1) := by decide +kernel
theorem dX2_addDumpling_59 : decode cX2_addDumpling 59 = .ok (.aload_n 0, 1) := by decide +kernel
theorem dX2_addDumpling_60 : decode cX2_addDumpling 60 = .ok (.getfield 21, 3) := by decide +kernel
theorem dX2_addDumpling_63 : decode cX2_addDumpling 63 = .ok (.aload_n 0, 1) := by decide +kernel
theorem dX2_addDumpling_64 : decode cX2_addDumpling 64 = .ok (.getfield 24, 3) := by decide +kernel
theorem dX2_addDumpling_67 : decode cX2_addDumpling 67 = .ok (.aload_n 1, 1) := by decide +kernel
theorem dX2_addDumpling_68 : decode cX2_addDumpling 68 = .ok (.iconst 3, 1) := by decide +kernel
theorem dX2_addDumpling_69 : decode cX2_addDumpling 69 = .ok (.iaload, 1) := by decide +kernel
theorem dX2_addDumpling_70 : decode cX2_addDumpling 70 = .ok (.iastore, 1) := by decide +kernel
theorem dX2_addDumpling_71 : decode cX2_addDumpling 71 = .ok (.aload_n 0, 1) := by decide +kernel
theorem dX2_addDumpling_72 : decode cX2_addDumpling 72 = .ok (.dup, 1) := by decide +kernel
theorem dX2_addDumpling_73 : decode cX2_addDumpling 73 = .ok (.getfield 24, 3) := by decide +kernel
theorem dX2_addDumpling_76 : decode cX2_addDumpling 76 = .ok (.iconst 1, 1) := by decide +kernel
theorem dX2_addDumpling_77 : decode cX2_addDumpling 77 = .ok (.iadd, 1) := by decide +kernel
theorem dX2_addDumpling_78 : decode cX2_addDumpling 78 = .ok (.putfield 24, 3) := by decide +kernel
theorem dX2_addDumpling_81 : decode cX2_addDumpling 81 = .ok (.return_, 1) := by decide +kernel
theorem dX2_all_0 : decode cX2_all 0 = .ok (.iconst 1, 1) := by decide +kernel
theorem dX2_all_1 : decode cX2_all 1 = .ok (.aload_n 0, 1) := by decide +kernel
theorem dX2_all_2 : decode cX2_all 2 = .ok (.getfield 24, 3) := by decide +kernel
theorem dX2_all_5 : decode cX2_all 5 = .ok (.ishl, 1) := by decide +kernel
theorem dX2_all_6 : decode cX2_all 6 = .ok (.iconst 1, 1) := by decide +kernel
theorem dX2_all_7 : decode cX2_all 7 = .ok (.isub, 1) := by decide +kernel
theorem dX2_all_8 : decode cX2_all 8 = .ok (.ireturn, 1) := by decide +kernel
theorem dX2_seatsOf_0 : decode cX2_seatsOf 0 = .ok (.iconst 0, 1) := by decide +kernel
theorem dX2_seatsOf_1 : decode cX2_seatsOf 1 = .ok (.istore_n 2, 1) := by decide +kernel
theorem dX2_seatsOf_2 : decode cX2_seatsOf 2 = .ok (.iconst 0, 1) := by decide +kernel
theorem dX2_seatsOf_3 : decode cX2_seatsOf 3 = .ok (.istore_n 3, 1) := by decide +kernel
theorem dX2_seatsOf_4 : decode cX2_seatsOf 4 = .ok (.iload_n 3, 1) := by decide +kernel
theorem dX2_seatsOf_5 : decode cX2_seatsOf 5 = .ok (.bipush 6, 2) := by decide +kernel
theorem dX2_seatsOf_7 : decode cX2_seatsOf 7 = .ok (.if_icmp .ge 26, 3) := by decide +kernel
theorem dX2_seatsOf_10 : decode cX2_seatsOf 10 = .ok (.iload_n 1, 1) := by decide +kernel
theorem dX2_seatsOf_11 : decode cX2_seatsOf 11 = .ok (.iload_n 3, 1) := by decide +kernel
theorem dX2_seatsOf_12 : decode cX2_seatsOf 12 = .ok (.ishr, 1) := by decide +kernel
theorem dX2_seatsOf_13 : decode cX2_seatsOf 13 = .ok (.iconst 1, 1) := by decide +kernel
theorem dX2_seatsOf_14 : decode cX2_seatsOf 14 = .ok (.iand, 1) := by decide +kernel
theorem dX2_seatsOf_15 : decode cX2_seatsOf 15 = .ok (.ifCond .eq 12, 3) := by decide +kernel
theorem dX2_seatsOf_18 : decode cX2_seatsOf 18 = .ok (.iload_n 2, 1) := by decide +kernel
theorem dX2_seatsOf_19 : decode cX2_seatsOf 19 = .ok (.aload_n 0, 1) := by decide +kernel
theorem dX2_seatsOf_20 : decode cX2_seatsOf 20 = .ok (.getfield 21, 3) := by decide +kernel
theorem dX2_seatsOf_23 : decode cX2_seatsOf 23 = .ok (.iload_n 3, 1) := by decide +kernel
theorem dX2_seatsOf_24 : decode cX2_seatsOf 24 = .ok (.iaload, 1) := by decide +kernel
theorem dX2_seatsOf_25 : decode cX2_seatsOf 25 = .ok (.iadd, 1) := by decide +kernel
theorem dX2_seatsOf_26 : decode cX2_seatsOf 26 = .ok (.istore_n 2, 1) := by decide +kernel
theorem dX2_seatsOf_27 : decode cX2_seatsOf 27 = .ok (.iinc 3 1, 3) := by decide +kernel
theorem dX2_seatsOf_30 : decode cX2_seatsOf 30 = .ok (.goto (-26), 3) := by decide +kernel
theorem dX2_seatsOf_33 : decode cX2_seatsOf 33 = .ok (.iload_n 2, 1) := by decide +kernel
theorem dX2_seatsOf_34 : decode cX2_seatsOf 34 = .ok (.ireturn, 1) := by decide +kernel
theorem dX3_init_0 : decode cX3_init 0 = .ok (.aload_n 0, 1) := by decide +kernel
theorem dX3_init_1 : decode cX3_init 1 = .ok (.invokespecial 1, 3) := by decide +kernel
theorem dX3_init_4 : decode cX3_init 4 = .ok (.aload_n 0, 1) := by decide +kernel
theorem dX3_init_5 : decode cX3_init 5 = .ok (.bipush 6, 2) := by decide +kernel
theorem dX3_init_7 : decode cX3_init 7 = .ok (.newarray .int, 2) := by decide +kernel
theorem dX3_init_9 : decode cX3_init 9 = .ok (.putfield 9, 3) := by decide +kernel
theorem dX3_init_12 : decode cX3_init 12 = .ok (.aload_n 0, 1) := by decide +kernel
theorem dX3_init_13 : decode cX3_init 13 = .ok (.bipush 6, 2) := by decide +kernel
theorem dX3_init_15 : decode cX3_init 15 = .ok (.newarray .int, 2) := by decide +kernel
theorem dX3_init_17 : decode cX3_init 17 = .ok (.putfield 13, 3) := by decide +kernel
theorem dX3_init_20 : decode cX3_init 20 = .ok (.aload_n 0, 1) := by decide +kernel
theorem dX3_init_21 : decode cX3_init 21 = .ok (.bipush 6, 2) := by decide +kernel
theorem dX3_init_23 : decode cX3_init 23 = .ok (.newarray .int, 2) := by decide +kernel
theorem dX3_init_25 : decode cX3_init 25 = .ok (.putfield 16, 3) := by decide +kernel
theorem dX3_init_28 : decode cX3_init 28 = .ok (.return_, 1) := by decide +kernel
theorem dX3_add_0 : decode cX3_add 0 = .ok (.aload_n 0, 1) := by decide +kernel
theorem dX3_add_1 : decode cX3_add 1 = .ok (.getfield 19, 3) := by decide +kernel
theorem dX3_add_4 : decode cX3_add 4 = .ok (.ifCond .lt 12, 3) := by decide +kernel
theorem dX3_add_7 : decode cX3_add 7 = .ok (.aload_n 0, 1) := by decide +kernel
theorem dX3_add_8 : decode cX3_add 8 = .ok (.getfield 19, 3) := by decide +kernel
theorem dX3_add_11 : decode cX3_add 11 = .ok (.bipush 6, 2) := by decide +kernel
theorem dX3_add_13 : decode cX3_add 13 = .ok (.if_icmp .lt 5, 3) := by decide +kernel
theorem dX3_add_16 : decode cX3_add 16 = .ok (.iconst 0, 1) := by decide +kernel
theorem dX3_add_17 : decode cX3_add 17 = .ok (.ireturn, 1) := by decide +kernel
theorem dX3_add_18 : decode cX3_add 18 = .ok (.aload_n 0, 1) := by decide +kernel
theorem dX3_add_19 : decode cX3_add 19 = .ok (.getfield 9, 3) := by decide +kernel
theorem dX3_add_22 : decode cX3_add 22 = .ok (.aload_n 0, 1) := by decide +kernel
theorem dX3_add_23 : decode cX3_add 23 = .ok (.getfield 19, 3) := by decide +kernel
theorem dX3_add_26 : decode cX3_add 26 = .ok (.iload_n 1, 1) := by decide +kernel
theorem dX3_add_27 : decode cX3_add 27 = .ok (.iastore, 1) := by decide +kernel
theorem dX3_add_28 : decode cX3_add 28 = .ok (.aload_n 0, 1) := by decide +kernel
theorem dX3_add_29 : decode cX3_add 29 = .ok (.getfield 13, 3) := by decide +kernel
theorem dX3_add_32 : decode cX3_add 32 = .ok (.aload_n 0, 1) := by decide +kernel
theorem dX3_add_33 : decode cX3_add 33 = .ok (.getfield 19, 3) := by decide +kernel
theorem dX3_add_36 : decode cX3_add 36 = .ok (.iload_n 2, 1) := by decide +kernel
theorem dX3_add_37 : decode cX3_add 37 = .ok (.iastore, 1) := by decide +kernel
theorem dX3_add_38 : decode cX3_add 38 = .ok (.aload_n 0, 1) := by decide +kernel
theorem dX3_add_39 : decode cX3_add 39 = .ok (.getfield 16, 3) := by decide +kernel
theorem dX3_add_42 : decode cX3_add 42 = .ok (.aload_n 0, 1) := by decide +kernel
theorem dX3_add_43 : decode cX3_add 43 = .ok (.getfield 19, 3) := by decide +kernel
theorem dX3_add_46 : decode cX3_add 46 = .ok (.iload_n 3, 1) := by decide +kernel
theorem dX3_add_47 : decode cX3_add 47 = .ok (.iastore, 1) := by decide +kernel
theorem dX3_add_48 : decode cX3_add 48 = .ok (.aload_n 0, 1) := by decide +kernel
theorem dX3_add_49 : decode cX3_add 49 = .ok (.dup, 1) := by decide +kernel
theorem dX3_add_50 : decode cX3_add 50 = .ok (.getfield 19, 3) := by decide +kernel
theorem dX3_add_53 : decode cX3_add 53 = .ok (.iconst 1, 1) := by decide +kernel
theorem dX3_add_54 : decode cX3_add 54 = .ok (.iadd, 1) := by decide +kernel
theorem dX3_add_55 : decode cX3_add 55 = .ok (.putfield 19, 3) := by decide +kernel
theorem dX3_add_58 : decode cX3_add 58 = .ok (.iconst 1, 1) := by decide +kernel
theorem dX3_add_59 : decode cX3_add 59 = .ok (.ireturn, 1) := by decide +kernel
theorem dX4_init_0 : decode cX4_init 0 = .ok (.aload_n 0, 1) := by decide +kernel
theorem dX4_init_1 : decode cX4_init 1 = .ok (.invokespecial 3, 3) := by decide +kernel
theorem dX4_init_4 : decode cX4_init 4 = .ok (.aload_n 0, 1) := by decide +kernel
theorem dX4_init_5 : decode cX4_init 5 = .ok (.bipush 6, 2) := by decide +kernel
theorem dX4_init_7 : decode cX4_init 7 = .ok (.newarray .int, 2) := by decide +kernel
theorem dX4_init_9 : decode cX4_init 9 = .ok (.putfield 9, 3) := by decide +kernel
theorem dX4_init_12 : decode cX4_init 12 = .ok (.aload_n 0, 1) := by decide +kernel
theorem dX4_init_13 : decode cX4_init 13 = .ok (.bipush 6, 2) := by decide +kernel
theorem dX4_init_15 : decode cX4_init 15 = .ok (.newarray .int, 2) := by decide +kernel
theorem dX4_init_17 : decode cX4_init 17 = .ok (.putfield 15, 3) := by decide +kernel
theorem dX4_init_20 : decode cX4_init 20 = .ok (.aload_n 0, 1) := by decide +kernel
theorem dX4_init_21 : decode cX4_init 21 = .ok (.bipush 6, 2) := by decide +kernel
theorem dX4_init_23 : decode cX4_init 23 = .ok (.newarray .int, 2) := by decide +kernel
theorem dX4_init_25 : decode cX4_init 25 = .ok (.putfield 18, 3) := by decide +kernel
theorem dX4_init_28 : decode cX4_init 28 = .ok (.aload_n 0, 1) := by decide +kernel
theorem dX4_init_29 : decode cX4_init 29 = .ok (.bipush 6, 2) := by decide +kernel
theorem dX4_init_31 : decode cX4_init 31 = .ok (.newarray .int, 2) := by decide +kernel
theorem dX4_init_33 : decode cX4_init 33 = .ok (.putfield 21, 3) := by decide +kernel
theorem dX4_init_36 : decode cX4_init 36 = .ok (.return_, 1) := by decide +kernel
theorem dX4_begin_0 : decode cX4_begin 0 = .ok (.aload_n 0, 1) := by decide +kernel
theorem dX4_begin_1 : decode cX4_begin 1 = .ok (.iconst 0, 1) := by decide +kernel
theorem dX4_begin_2 : decode cX4_begin 2 = .ok (.putfield 24, 3) := by decide +kernel
theorem dX4_begin_5 : decode cX4_begin 5 = .ok (.aload_n 0, 1) := by decide +kernel
theorem dX4_begin_6 : decode cX4_begin 6 = .ok (.aload_n 1, 1) := by decide +kernel
theorem dX4_begin_7 : decode cX4_begin 7 = .ok (.getfield 28, 3) := by decide +kernel
theorem dX4_begin_10 : decode cX4_begin 10 = .ok (.putfield 33, 3) := by decide +kernel
theorem dX4_begin_13 : decode cX4_begin 13 = .ok (.iconst 0, 1) := by decide +kernel
theorem dX4_begin_14 : decode cX4_begin 14 = .ok (.istore_n 2, 1) := by decide +kernel
theorem dX4_begin_15 : decode cX4_begin 15 = .ok (.iload_n 2, 1) := by decide +kernel
theorem dX4_begin_16 : decode cX4_begin 16 = .ok (.bipush 6, 2) := by decide +kernel
theorem dX4_begin_18 : decode cX4_begin 18 = .ok (.if_icmp .ge 46, 3) := by decide +kernel
theorem dX4_begin_21 : decode cX4_begin 21 = .ok (.aload_n 0, 1) := by decide +kernel
theorem dX4_begin_22 : decode cX4_begin 22 = .ok (.getfield 9, 3) := by decide +kernel
theorem dX4_begin_25 : decode cX4_begin 25 = .ok (.iload_n 2, 1) := by decide +kernel
theorem dX4_begin_26 : decode cX4_begin 26 = .ok (.bipush (-9), 2) := by decide +kernel
theorem dX4_begin_28 : decode cX4_begin 28 = .ok (.iastore, 1) := by decide +kernel
theorem dX4_begin_29 : decode cX4_begin 29 = .ok (.aload_n 0, 1) := by decide +kernel
theorem dX4_begin_30 : decode cX4_begin 30 = .ok (.getfield 15, 3) := by decide +kernel
theorem dX4_begin_33 : decode cX4_begin 33 = .ok (.iload_n 2, 1) := by decide +kernel
theorem dX4_begin_34 : decode cX4_begin 34 = .ok (.aload_n 1, 1) := by decide +kernel
theorem dX4_begin_35 : decode cX4_begin 35 = .ok (.getfield 34, 3) := by decide +kernel
theorem dX4_begin_38 : decode cX4_begin 38 = .ok (.iload_n 2, 1) := by decide +kernel
theorem dX4_begin_39 : decode cX4_begin 39 = .ok (.iaload, 1) := by decide +kernel
theorem dX4_begin_40 : decode cX4_begin 40 = .ok (.iastore, 1) := by decide +kernel
theorem dX4_begin_41 : decode cX4_begin 41 = .ok (.aload_n 0, 1) := by decide +kernel
theorem dX4_begin_42 : decode cX4_begin 42 = .ok (.getfield 18, 3) := by decide +kernel
theorem dX4_begin_45 : decode cX4_begin 45 = .ok (.iload_n 2, 1) := by decide +kernel
theorem dX4_begin_46 : decode cX4_begin 46 = .ok (.iconst 1, 1) := by decide +kernel
theorem dX4_begin_47 : decode cX4_begin 47 = .ok (.iload_n 2, 1) := by decide +kernel
theorem dX4_begin_48 : decode cX4_begin 48 = .ok (.ishl, 1) := by decide +kernel
theorem dX4_begin_49 : decode cX4_begin 49 = .ok (.iastore, 1) := by decide +kernel
theorem dX4_begin_50 : decode cX4_begin 50 = .ok (.aload_n 0, 1) := by decide +kernel
theorem dX4_begin_51 : decode cX4_begin 51 = .ok (.getfield 21, 3) := by decide +kernel
theorem dX4_begin_54 : decode cX4_begin 54 = .ok (.iload_n 2, 1) := by decide +kernel
theorem dX4_begin_55 : decode cX4_begin 55 = .ok (.bipush (-9), 2) := by decide +kernel
theorem dX4_begin_57 : decode cX4_begin 57 = .ok (.iastore, 1) := by decide +kernel
theorem dX4_begin_58 : decode cX4_begin 58 = .ok (.iinc 2 1, 3) := by decide +kernel
theorem dX4_begin_61 : decode cX4_begin 61 = .ok (.goto (-46), 3) := by decide +kernel
theorem dX4_begin_64 : decode cX4_begin 64 = .ok (.return_, 1) := by decide +kernel
theorem dX4_copy_0 : decode cX4_copy 0 = .ok (.aload_n 0, 1) := by decide +kernel
theorem dX4_copy_1 : decode cX4_copy 1 = .ok (.aload_n 1, 1) := by decide +kernel
theorem dX4_copy_2 : decode cX4_copy 2 = .ok (.getfield 24, 3) := by decide +kernel
theorem dX4_copy_5 : decode cX4_copy 5 = .ok (.putfield 24, 3) := by decide +kernel
theorem dX4_copy_8 : decode cX4_copy 8 = .ok (.aload_n 0, 1) := by decide +kernel
theorem dX4_copy_9 : decode cX4_copy 9 = .ok (.aload_n 1, 1) := by decide +kernel
theorem dX4_copy_10 : decode cX4_copy 10 = .ok (.getfield 33, 3) := by decide +kernel
theorem dX4_copy_13 : decode cX4_copy 13 = .ok (.putfield 33, 3) := by decide +kernel
theorem dX4_copy_16 : decode cX4_copy 16 = .ok (.aload_n 1, 1) := by decide +kernel
theorem dX4_copy_17 : decode cX4_copy 17 = .ok (.getfield 9, 3) := by decide +kernel
theorem dX4_copy_20 : decode cX4_copy 20 = .ok (.iconst 0, 1) := by decide +kernel
theorem dX4_copy_21 : decode cX4_copy 21 = .ok (.aload_n 0, 1) := by decide +kernel
theorem dX4_copy_22 : decode cX4_copy 22 = .ok (.getfield 9, 3) := by decide +kernel
theorem dX4_copy_25 : decode cX4_copy 25 = .ok (.iconst 0, 1) := by decide +kernel
theorem dX4_copy_26 : decode cX4_copy 26 = .ok (.bipush 6, 2) := by decide +kernel
theorem dX4_copy_28 : decode cX4_copy 28 = .ok (.invokestatic 35, 3) := by decide +kernel
theorem dX4_copy_31 : decode cX4_copy 31 = .ok (.aload_n 1, 1) := by decide +kernel
theorem dX4_copy_32 : decode cX4_copy 32 = .ok (.getfield 15, 3) := by decide +kernel
theorem dX4_copy_35 : decode cX4_copy 35 = .ok (.iconst 0, 1) := by decide +kernel
theorem dX4_copy_36 : decode cX4_copy 36 = .ok (.aload_n 0, 1) := by decide +kernel
theorem dX4_copy_37 : decode cX4_copy 37 = .ok (.getfield 15, 3) := by decide +kernel
theorem dX4_copy_40 : decode cX4_copy 40 = .ok (.iconst 0, 1) := by decide +kernel
theorem dX4_copy_41 : decode cX4_copy 41 = .ok (.bipush 6, 2) := by decide +kernel
theorem dX4_copy_43 : decode cX4_copy 43 = .ok (.invokestatic 35, 3) := by decide +kernel
theorem dX4_copy_46 : decode cX4_copy 46 = .ok (.aload_n 1, 1) := by decide +kernel
theorem dX4_copy_47 : decode cX4_copy 47 = .ok (.getfield 18, 3) := by decide +kernel
theorem dX4_copy_50 : decode cX4_copy 50 = .ok (.iconst 0, 1) := by decide +kernel
theorem dX4_copy_51 : decode cX4_copy 51 = .ok (.aload_n 0, 1) := by decide +kernel
theorem dX4_copy_52 : decode cX4_copy 52 = .ok (.getfield 18, 3) := by decide +kernel
theorem dX4_copy_55 : decode cX4_copy 55 = .ok (.iconst 0, 1) := by decide +kernel
theorem dX4_copy_56 : decode cX4_copy 56 = .ok (.bipush 6, 2) := by decide +kernel
theorem dX4_copy_58 : decode cX4_copy 58 = .ok (.invokestatic 35, 3) := by decide +kernel
theorem dX4_copy_61 : decode cX4_copy 61 = .ok (.aload_n 1, 1) := by decide +kernel
theorem dX4_copy_62 : decode cX4_copy 62 = .ok (.getfield 21, 3) := by decide +kernel
theorem dX4_copy_65 : decode cX4_copy 65 = .ok (.iconst 0, 1) := by decide +kernel
theorem dX4_copy_66 : decode cX4_copy 66 = .ok (.aload_n 0, 1) := by decide +kernel
theorem dX4_copy_67 : decode cX4_copy 67 = .ok (.getfield 21, 3) := by decide +kernel
theorem dX4_copy_70 : decode cX4_copy 70 = .ok (.iconst 0, 1) := by decide +kernel
theorem dX4_copy_71 : decode cX4_copy 71 = .ok (.bipush 6, 2) := by decide +kernel
theorem dX4_copy_73 : decode cX4_copy 73 = .ok (.invokestatic 35, 3) := by decide +kernel
theorem dX4_copy_76 : decode cX4_copy 76 = .ok (.return_, 1) := by decide +kernel
theorem dX4_isDry_0 : decode cX4_isDry 0 = .ok (.aload_n 0, 1) := by decide +kernel
theorem dX4_isDry_1 : decode cX4_isDry 1 = .ok (.getfield 9, 3) := by decide +kernel
theorem dX4_isDry_4 : decode cX4_isDry 4 = .ok (.iload_n 1, 1) := by decide +kernel
theorem dX4_isDry_5 : decode cX4_isDry 5 = .ok (.iaload, 1) := by decide +kernel
theorem dX4_isDry_6 : decode cX4_isDry 6 = .ok (.bipush (-9), 2) := by decide +kernel
theorem dX4_isDry_8 : decode cX4_isDry 8 = .ok (.if_icmp .ne 7, 3) := by decide +kernel
theorem dX4_isDry_11 : decode cX4_isDry 11 = .ok (.iconst 1, 1) := by decide +kernel
theorem dX4_isDry_12 : decode cX4_isDry 12 = .ok (.goto 4, 3) := by decide +kernel
theorem dX4_isDry_15 : decode cX4_isDry 15 = .ok (.iconst 0, 1) := by decide +kernel
theorem dX4_isDry_16 : decode cX4_isDry 16 = .ok (.ireturn, 1) := by decide +kernel
theorem dX4_hasRisen_0 : decode cX4_hasRisen 0 = .ok (.aload_n 0, 1) := by decide +kernel
theorem dX4_hasRisen_1 : decode cX4_hasRisen 1 = .ok (.getfield 21, 3) := by decide +kernel
theorem dX4_hasRisen_4 : decode cX4_hasRisen 4 = .ok (.iload_n 1, 1) := by decide +kernel
theorem dX4_hasRisen_5 : decode cX4_hasRisen 5 = .ok (.iaload, 1) := by decide +kernel
theorem dX4_hasRisen_6 : decode cX4_hasRisen 6 = .ok (.bipush (-9), 2) := by decide +kernel
theorem dX4_hasRisen_8 : decode cX4_hasRisen 8 = .ok (.if_icmp .eq 7, 3) := by decide +kernel
theorem dX4_hasRisen_11 : decode cX4_hasRisen 11 = .ok (.iconst 1, 1) := by decide +kernel
theorem dX4_hasRisen_12 : decode cX4_hasRisen 12 = .ok (.goto 4, 3) := by decide +kernel
theorem dX4_hasRisen_15 : decode cX4_hasRisen 15 = .ok (.iconst 0, 1) := by decide +kernel
theorem dX4_hasRisen_16 : decode cX4_hasRisen 16 = .ok (.ireturn, 1) := by decide +kernel
theorem dX4_wetOnes_0 : decode cX4_wetOnes 0 = .ok (.iconst 0, 1) := by decide +kernel
theorem dX4_wetOnes_1 : decode cX4_wetOnes 1 = .ok (.istore_n 1, 1) := by decide +kernel
theorem dX4_wetOnes_2 : decode cX4_wetOnes 2 = .ok (.iconst 0, 1) := by decide +kernel
theorem dX4_wetOnes_3 : decode cX4_wetOnes 3 = .ok (.istore_n 2, 1) := by decide +kernel
theorem dX4_wetOnes_4 : decode cX4_wetOnes 4 = .ok (.iload_n 2, 1) := by decide +kernel
theorem dX4_wetOnes_5 : decode cX4_wetOnes 5 = .ok (.bipush 6, 2) := by decide +kernel
theorem dX4_wetOnes_7 : decode cX4_wetOnes 7 = .ok (.if_icmp .ge 23, 3) := by decide +kernel
theorem dX4_wetOnes_10 : decode cX4_wetOnes 10 = .ok (.aload_n 0, 1) := by decide +kernel
theorem dX4_wetOnes_11 : decode cX4_wetOnes 11 = .ok (.iload_n 2, 1) := by decide +kernel
theorem dX4_wetOnes_12 : decode cX4_wetOnes 12 = .ok (.invokevirtual 41, 3) := by decide +kernel
theorem dX4_wetOnes_15 : decode cX4_wetOnes 15 = .ok (.ifCond .ne 9, 3) := by decide +kernel
theorem dX4_wetOnes_18 : decode cX4_wetOnes 18 = .ok (.iload_n 1, 1) := by decide +kernel
theorem dX4_wetOnes_19 : decode cX4_wetOnes 19 = .ok (.iconst 1, 1) := by decide +kernel
theorem dX4_wetOnes_20 : decode cX4_wetOnes 20 = .ok (.iload_n 2, 1) := by decide +kernel
theorem dX4_wetOnes_21 : decode cX4_wetOnes 21 = .ok (.ishl, 1) := by decide +kernel
theorem dX4_wetOnes_22 : decode cX4_wetOnes 22 = .ok (.ior, 1) := by decide +kernel
theorem dX4_wetOnes_23 : decode cX4_wetOnes 23 = .ok (.istore_n 1, 1) := by decide +kernel
theorem dX4_wetOnes_24 : decode cX4_wetOnes 24 = .ok (.iinc 2 1, 3) := by decide +kernel
theorem dX4_wetOnes_27 : decode cX4_wetOnes 27 = .ok (.goto (-23), 3) := by decide +kernel
theorem dX4_wetOnes_30 : decode cX4_wetOnes 30 = .ok (.iload_n 1, 1) := by decide +kernel
theorem dX4_wetOnes_31 : decode cX4_wetOnes 31 = .ok (.ireturn, 1) := by decide +kernel
theorem dX4_upOnes_0 : decode cX4_upOnes 0 = .ok (.iconst 0, 1) := by decide +kernel
theorem dX4_upOnes_1 : decode cX4_upOnes 1 = .ok (.istore_n 1, 1) := by decide +kernel
theorem dX4_upOnes_2 : decode cX4_upOnes 2 = .ok (.iconst 0, 1) := by decide +kernel
theorem dX4_upOnes_3 : decode cX4_upOnes 3 = .ok (.istore_n 2, 1) := by decide +kernel
theorem dX4_upOnes_4 : decode cX4_upOnes 4 = .ok (.iload_n 2, 1) := by decide +kernel
theorem dX4_upOnes_5 : decode cX4_upOnes 5 = .ok (.bipush 6, 2) := by decide +kernel
theorem dX4_upOnes_7 : decode cX4_upOnes 7 = .ok (.if_icmp .ge 24, 3) := by decide +kernel
theorem dX4_upOnes_10 : decode cX4_upOnes 10 = .ok (.aload_n 0, 1) := by decide +kernel
theorem dX4_upOnes_11 : decode cX4_upOnes 11 = .ok (.getfield 9, 3) := by decide +kernel
theorem dX4_upOnes_14 : decode cX4_upOnes 14 = .ok (.iload_n 2, 1) := by decide +kernel
theorem dX4_upOnes_15 : decode cX4_upOnes 15 = .ok (.iaload, 1) := by decide +kernel
theorem dX4_upOnes_16 : decode cX4_upOnes 16 = .ok (.ifCond .ne 9, 3) := by decide +kernel
theorem dX4_upOnes_19 : decode cX4_upOnes 19 = .ok (.iload_n 1, 1) := by decide +kernel
theorem dX4_upOnes_20 : decode cX4_upOnes 20 = .ok (.iconst 1, 1) := by decide +kernel
theorem dX4_upOnes_21 : decode cX4_upOnes 21 = .ok (.iload_n 2, 1) := by decide +kernel
theorem dX4_upOnes_22 : decode cX4_upOnes 22 = .ok (.ishl, 1) := by decide +kernel
theorem dX4_upOnes_23 : decode cX4_upOnes 23 = .ok (.ior, 1) := by decide +kernel
theorem dX4_upOnes_24 : decode cX4_upOnes 24 = .ok (.istore_n 1, 1) := by decide +kernel
theorem dX4_upOnes_25 : decode cX4_upOnes 25 = .ok (.iinc 2 1, 3) := by decide +kernel
theorem dX4_upOnes_28 : decode cX4_upOnes 28 = .ok (.goto (-24), 3) := by decide +kernel
theorem dX4_upOnes_31 : decode cX4_upOnes 31 = .ok (.iload_n 1, 1) := by decide +kernel
theorem dX4_upOnes_32 : decode cX4_upOnes 32 = .ok (.ireturn, 1) := by decide +kernel
theorem dX4_risenOnes_0 : decode cX4_risenOnes 0 = .ok (.iconst 0, 1) := by decide +kernel
theorem dX4_risenOnes_1 : decode cX4_risenOnes 1 = .ok (.istore_n 1, 1) := by decide +kernel
theorem dX4_risenOnes_2 : decode cX4_risenOnes 2 = .ok (.iconst 0, 1) := by decide +kernel
theorem dX4_risenOnes_3 : decode cX4_risenOnes 3 = .ok (.istore_n 2, 1) := by decide +kernel
theorem dX4_risenOnes_4 : decode cX4_risenOnes 4 = .ok (.iload_n 2, 1) := by decide +kernel
theorem dX4_risenOnes_5 : decode cX4_risenOnes 5 = .ok (.bipush 6, 2) := by decide +kernel
theorem dX4_risenOnes_7 : decode cX4_risenOnes 7 = .ok (.if_icmp .ge 23, 3) := by decide +kernel
theorem dX4_risenOnes_10 : decode cX4_risenOnes 10 = .ok (.aload_n 0, 1) := by decide +kernel
theorem dX4_risenOnes_11 : decode cX4_risenOnes 11 = .ok (.iload_n 2, 1) := by decide +kernel
theorem dX4_risenOnes_12 : decode cX4_risenOnes 12 = .ok (.invokevirtual 45, 3) := by decide +kernel
theorem dX4_risenOnes_15 : decode cX4_risenOnes 15 = .ok (.ifCond .eq 9, 3) := by decide +kernel
theorem dX4_risenOnes_18 : decode cX4_risenOnes 18 = .ok (.iload_n 1, 1) := by decide +kernel
theorem dX4_risenOnes_19 : decode cX4_risenOnes 19 = .ok (.iconst 1, 1) := by decide +kernel
theorem dX4_risenOnes_20 : decode cX4_risenOnes 20 = .ok (.iload_n 2, 1) := by decide +kernel
theorem dX4_risenOnes_21 : decode cX4_risenOnes 21 = .ok (.ishl, 1) := by decide +kernel
theorem dX4_risenOnes_22 : decode cX4_risenOnes 22 = .ok (.ior, 1) := by decide +kernel
theorem dX4_risenOnes_23 : decode cX4_risenOnes 23 = .ok (.istore_n 1, 1) := by decide +kernel
theorem dX4_risenOnes_24 : decode cX4_risenOnes 24 = .ok (.iinc 2 1, 3) := by decide +kernel
theorem dX4_risenOnes_27 : decode cX4_risenOnes 27 = .ok (.goto (-23), 3) := by decide +kernel
theorem dX4_risenOnes_30 : decode cX4_risenOnes 30 = .ok (.iload_n 1, 1) := by decide +kernel
theorem dX4_risenOnes_31 : decode cX4_risenOnes 31 = .ok (.ireturn, 1) := by decide +kernel
theorem dX4_risenAheadOf_0 : decode cX4_risenAheadOf 0 = .ok (.iconst 0, 1) := by decide +kernel
theorem dX4_risenAheadOf_1 : decode cX4_risenAheadOf 1 = .ok (.istore_n 2, 1) := by decide +kernel
theorem dX4_risenAheadOf_2 : decode cX4_risenAheadOf 2 = .ok (.iconst 0, 1) := by decide +kernel
theorem dX4_risenAheadOf_3 : decode cX4_risenAheadOf 3 = .ok (.istore_n 3, 1) := by decide +kernel
theorem dX4_risenAheadOf_4 : decode cX4_risenAheadOf 4 = .ok (.iload_n 3, 1) := by decide +kernel
theorem dX4_risenAheadOf_5 : decode cX4_risenAheadOf 5 = .ok (.bipush 6, 2) := by decide +kernel
theorem dX4_risenAheadOf_7 : decode cX4_risenAheadOf 7 = .ok (.if_icmp .ge 67, 3) := by decide +kernel
theorem dX4_risenAheadOf_10 : decode cX4_risenAheadOf 10 = .ok (.aload_n 0, 1) := by decide +kernel
theorem dX4_risenAheadOf_11 : decode cX4_risenAheadOf 11 = .ok (.getfield 21, 3) := by decide +kernel
theorem dX4_risenAheadOf_14 : decode cX4_risenAheadOf 14 = .ok (.iload_n 3, 1) := by decide +kernel
theorem dX4_risenAheadOf_15 : decode cX4_risenAheadOf 15 = .ok (.iaload, 1) := by decide +kernel
theorem dX4_risenAheadOf_16 : decode cX4_risenAheadOf 16 = .ok (.aload_n 0, 1) := by decide +kernel
theorem dX4_risenAheadOf_17 : decode cX4_risenAheadOf 17 = .ok (.getfield 21, 3) := by decide +kernel
theorem dX4_risenAheadOf_20 : decode cX4_risenAheadOf 20 = .ok (.iload_n 1, 1) := by decide +kernel
theorem dX4_risenAheadOf_21 : decode cX4_risenAheadOf 21 = .ok (.iaload, 1) := by decide +kernel
theorem dX4_risenAheadOf_22 : decode cX4_risenAheadOf 22 = .ok (.if_icmp .lt 23, 3) := by decide +kernel
theorem dX4_risenAheadOf_25 : decode cX4_risenAheadOf 25 = .ok (.aload_n 0, 1) := by decide +kernel
theorem dX4_risenAheadOf_26 : decode cX4_risenAheadOf 26 = .ok (.getfield 21, 3) := by decide +kernel
theorem dX4_risenAheadOf_29 : decode cX4_risenAheadOf 29 = .ok (.iload_n 3, 1) := by decide +kernel
theorem dX4_risenAheadOf_30 : decode cX4_risenAheadOf 30 = .ok (.iaload, 1) := by decide +kernel
theorem dX4_risenAheadOf_31 : decode cX4_risenAheadOf 31 = .ok (.aload_n 0, 1) := by decide +kernel
theorem dX4_risenAheadOf_32 : decode cX4_risenAheadOf 32 = .ok (.getfield 21, 3) := by decide +kernel
theorem dX4_risenAheadOf_35 : decode cX4_risenAheadOf 35 = .ok (.iload_n 1, 1) := by decide +kernel
theorem dX4_risenAheadOf_36 : decode cX4_risenAheadOf 36 = .ok (.iaload, 1) := by decide +kernel
theorem dX4_risenAheadOf_37 : decode cX4_risenAheadOf 37 = .ok (.if_icmp .ne 12, 3) := by decide +kernel
theorem dX4_risenAheadOf_40 : decode cX4_risenAheadOf 40 = .ok (.iload_n 3, 1) := by decide +kernel
theorem dX4_risenAheadOf_41 : decode cX4_risenAheadOf 41 = .ok (.iload_n 1, 1) := by decide +kernel
theorem dX4_risenAheadOf_42 : decode cX4_risenAheadOf 42 = .ok (.if_icmp .ge 7, 3) := by decide +kernel
theorem dX4_risenAheadOf_45 : decode cX4_risenAheadOf 45 = .ok (.iconst 1, 1) := by decide +kernel
theorem dX4_risenAheadOf_46 : decode cX4_risenAheadOf 46 = .ok (.goto 4, 3) := by decide +kernel
theorem dX4_risenAheadOf_49 : decode cX4_risenAheadOf 49 = .ok (.iconst 0, 1) := by decide +kernel
theorem dX4_risenAheadOf_50 : decode cX4_risenAheadOf 50 = .ok (.istore 4, 2) := by decide +kernel
theorem dX4_risenAheadOf_52 : decode cX4_risenAheadOf 52 = .ok (.aload_n 0, 1) := by decide +kernel
theorem dX4_risenAheadOf_53 : decode cX4_risenAheadOf 53 = .ok (.iload_n 3, 1) := by decide +kernel
theorem dX4_risenAheadOf_54 : decode cX4_risenAheadOf 54 = .ok (.invokevirtual 45, 3) := by decide +kernel
theorem dX4_risenAheadOf_57 : decode cX4_risenAheadOf 57 = .ok (.ifCond .eq 11, 3) := by decide +kernel
theorem dX4_risenAheadOf_60 : decode cX4_risenAheadOf 60 = .ok (.iload 4, 2) := by decide +kernel
theorem dX4_risenAheadOf_62 : decode cX4_risenAheadOf 62 = .ok (.ifCond .eq 6, 3) := by decide +kernel
theorem dX4_risenAheadOf_65 : decode cX4_risenAheadOf 65 = .ok (.iinc 2 1, 3) := by decide +kernel
theorem dX4_risenAheadOf_68 : decode cX4_risenAheadOf 68 = .ok (.iinc 3 1, 3) := by decide +kernel
theorem dX4_risenAheadOf_71 : decode cX4_risenAheadOf 71 = .ok (.goto (-67), 3) := by decide +kernel
theorem dX4_risenAheadOf_74 : decode cX4_risenAheadOf 74 = .ok (.iload_n 2, 1) := by decide +kernel
theorem dX4_risenAheadOf_75 : decode cX4_risenAheadOf 75 = .ok (.ireturn, 1) := by decide +kernel
theorem dX4_firstRisenNow_0 : decode cX4_firstRisenNow 0 = .ok (.iconst 0, 1) := by decide +kernel
theorem dX4_firstRisenNow_1 : decode cX4_firstRisenNow 1 = .ok (.istore_n 1, 1) := by decide +kernel
theorem dX4_firstRisenNow_2 : decode cX4_firstRisenNow 2 = .ok (.iload_n 1, 1) := by decide +kernel
theorem dX4_firstRisenNow_3 : decode cX4_firstRisenNow 3 = .ok (.bipush 6, 2) := by decide +kernel
theorem dX4_firstRisenNow_5 : decode cX4_firstRisenNow 5 = .ok (.if_icmp .ge 24, 3) := by decide +kernel
theorem dX4_firstRisenNow_8 : decode cX4_firstRisenNow 8 = .ok (.aload_n 0, 1) := by decide +kernel
theorem dX4_firstRisenNow_9 : decode cX4_firstRisenNow 9 = .ok (.getfield 21, 3) := by decide +kernel
theorem dX4_firstRisenNow_12 : decode cX4_firstRisenNow 12 = .ok (.iload_n 1, 1) := by decide +kernel
theorem dX4_firstRisenNow_13 : decode cX4_firstRisenNow 13 = .ok (.iaload, 1) := by decide +kernel
theorem dX4_firstRisenNow_14 : decode cX4_firstRisenNow 14 = .ok (.aload_n 0, 1) := by decide +kernel
theorem dX4_firstRisenNow_15 : decode cX4_firstRisenNow 15 = .ok (.getfield 24, 3) := by decide +kernel
theorem dX4_firstRisenNow_18 : decode cX4_firstRisenNow 18 = .ok (.if_icmp .ne 5, 3) := by decide +kernel
theorem dX4_firstRisenNow_21 : decode cX4_firstRisenNow 21 = .ok (.iload_n 1, 1) := by decide +kernel
theorem dX4_firstRisenNow_22 : decode cX4_firstRisenNow 22 = .ok (.ireturn, 1) := by decide +kernel
theorem dX4_firstRisenNow_23 : decode cX4_firstRisenNow 23 = .ok (.iinc 1 1, 3) := by decide +kernel
theorem dX4_firstRisenNow_26 : decode cX4_firstRisenNow 26 = .ok (.goto (-24), 3) := by decide +kernel
theorem dX4_firstRisenNow_29 : decode cX4_firstRisenNow 29 = .ok (.bipush (-9), 2) := by decide +kernel
theorem dX4_firstRisenNow_31 : decode cX4_firstRisenNow 31 = .ok (.ireturn, 1) := by decide +kernel
theorem dX4_sizeOf_0 : decode cX4_sizeOf 0 = .ok (.iconst 0, 1) := by decide +kernel
theorem dX4_sizeOf_1 : decode cX4_sizeOf 1 = .ok (.istore_n 2, 1) := by decide +kernel
theorem dX4_sizeOf_2 : decode cX4_sizeOf 2 = .ok (.iconst 0, 1) := by decide +kernel
theorem dX4_sizeOf_3 : decode cX4_sizeOf 3 = .ok (.istore_n 3, 1) := by decide +kernel
theorem dX4_sizeOf_4 : decode cX4_sizeOf 4 = .ok (.iload_n 3, 1) := by decide +kernel
theorem dX4_sizeOf_5 : decode cX4_sizeOf 5 = .ok (.bipush 6, 2) := by decide +kernel
theorem dX4_sizeOf_7 : decode cX4_sizeOf 7 = .ok (.if_icmp .ge 26, 3) := by decide +kernel
theorem dX4_sizeOf_10 : decode cX4_sizeOf 10 = .ok (.iload_n 1, 1) := by decide +kernel
theorem dX4_sizeOf_11 : decode cX4_sizeOf 11 = .ok (.iload_n 3, 1) := by decide +kernel
theorem dX4_sizeOf_12 : decode cX4_sizeOf 12 = .ok (.ishr, 1) := by decide +kernel
theorem dX4_sizeOf_13 : decode cX4_sizeOf 13 = .ok (.iconst 1, 1) := by decide +kernel
theorem dX4_sizeOf_14 : decode cX4_sizeOf 14 = .ok (.iand, 1) := by decide +kernel
theorem dX4_sizeOf_15 : decode cX4_sizeOf 15 = .ok (.ifCond .eq 12, 3) := by decide +kernel
theorem dX4_sizeOf_18 : decode cX4_sizeOf 18 = .ok (.iload_n 2, 1) := by decide +kernel
theorem dX4_sizeOf_19 : decode cX4_sizeOf 19 = .ok (.aload_n 0, 1) := by decide +kernel
theorem dX4_sizeOf_20 : decode cX4_sizeOf 20 = .ok (.getfield 15, 3) := by decide +kernel
theorem dX4_sizeOf_23 : decode cX4_sizeOf 23 = .ok (.iload_n 3, 1) := by decide +kernel
theorem dX4_sizeOf_24 : decode cX4_sizeOf 24 = .ok (.iaload, 1) := by decide +kernel
theorem dX4_sizeOf_25 : decode cX4_sizeOf 25 = .ok (.iadd, 1) := by decide +kernel
theorem dX4_sizeOf_26 : decode cX4_sizeOf 26 = .ok (.istore_n 2, 1) := by decide +kernel
theorem dX4_sizeOf_27 : decode cX4_sizeOf 27 = .ok (.iinc 3 1, 3) := by decide +kernel
theorem dX4_sizeOf_30 : decode cX4_sizeOf 30 = .ok (.goto (-26), 3) := by decide +kernel
theorem dX4_sizeOf_33 : decode cX4_sizeOf 33 = .ok (.iload_n 2, 1) := by decide +kernel
theorem dX4_sizeOf_34 : decode cX4_sizeOf 34 = .ok (.ireturn, 1) := by decide +kernel
theorem dX4_drop_0 : decode cX4_drop 0 = .ok (.aload_n 0, 1) := by decide +kernel
theorem dX4_drop_1 : decode cX4_drop 1 = .ok (.getfield 9, 3) := by decide +kernel
theorem dX4_drop_4 : decode cX4_drop 4 = .ok (.iload_n 1, 1) := by decide +kernel
theorem dX4_drop_5 : decode cX4_drop 5 = .ok (.bipush 10, 2) := by decide +kernel
theorem dX4_drop_7 : decode cX4_drop 7 = .ok (.iastore, 1) := by decide +kernel
theorem dX4_drop_8 : decode cX4_drop 8 = .ok (.return_, 1) := by decide +kernel
theorem dX4_skewer_0 : decode cX4_skewer 0 = .ok (.aload_n 0, 1) := by decide +kernel
theorem dX4_skewer_1 : decode cX4_skewer 1 = .ok (.getfield 18, 3) := by decide +kernel
theorem dX4_skewer_4 : decode cX4_skewer 4 = .ok (.iload_n 1, 1) := by decide +kernel
theorem dX4_skewer_5 : decode cX4_skewer 5 = .ok (.iaload, 1) := by decide +kernel
theorem dX4_skewer_6 : decode cX4_skewer 6 = .ok (.istore_n 2, 1) := by decide +kernel
theorem dX4_skewer_7 : decode cX4_skewer 7 = .ok (.iconst 0, 1) := by decide +kernel
theorem dX4_skewer_8 : decode cX4_skewer 8 = .ok (.istore_n 3, 1) := by decide +kernel
theorem dX4_skewer_9 : decode cX4_skewer 9 = .ok (.iload_n 3, 1) := by decide +kernel
theorem dX4_skewer_10 : decode cX4_skewer 10 = .ok (.bipush 6, 2) := by decide +kernel
theorem dX4_skewer_12 : decode cX4_skewer 12 = .ok (.if_icmp .ge 26, 3) := by decide +kernel
theorem dX4_skewer_15 : decode cX4_skewer 15 = .ok (.iload_n 2, 1) := by decide +kernel
theorem dX4_skewer_16 : decode cX4_skewer 16 = .ok (.iload_n 3, 1) := by decide +kernel
theorem dX4_skewer_17 : decode cX4_skewer 17 = .ok (.ishr, 1) := by decide +kernel
theorem dX4_skewer_18 : decode cX4_skewer 18 = .ok (.iconst 1, 1) := by decide +kernel
theorem dX4_skewer_19 : decode cX4_skewer 19 = .ok (.iand, 1) := by decide +kernel
theorem dX4_skewer_20 : decode cX4_skewer 20 = .ok (.ifCond .eq 12, 3) := by decide +kernel
theorem dX4_skewer_23 : decode cX4_skewer 23 = .ok (.aload_n 0, 1) := by decide +kernel
theorem dX4_skewer_24 : decode cX4_skewer 24 = .ok (.getfield 18, 3) := by decide +kernel
theorem dX4_skewer_27 : decode cX4_skewer 27 = .ok (.iload_n 3, 1) := by decide +kernel
theorem dX4_skewer_28 : decode cX4_skewer 28 = .ok (.iconst 1, 1) := by decide +kernel
theorem dX4_skewer_29 : decode cX4_skewer 29 = .ok (.iload_n 3, 1) := by decide +kernel
theorem dX4_skewer_30 : decode cX4_skewer 30 = .ok (.ishl, 1) := by decide +kernel
theorem dX4_skewer_31 : decode cX4_skewer 31 = .ok (.iastore, 1) := by decide +kernel
theorem dX4_skewer_32 : decode cX4_skewer 32 = .ok (.iinc 3 1, 3) := by decide +kernel
theorem dX4_skewer_35 : decode cX4_skewer 35 = .ok (.goto (-26), 3) := by decide +kernel
theorem dX4_skewer_38 : decode cX4_skewer 38 = .ok (.aload_n 0, 1) := by decide +kernel
theorem dX4_skewer_39 : decode cX4_skewer 39 = .ok (.getfield 15, 3) := by decide +kernel
theorem dX4_skewer_42 : decode cX4_skewer 42 = .ok (.iload_n 1, 1) := by decide +kernel
theorem dX4_skewer_43 : decode cX4_skewer 43 = .ok (.iconst 1, 1) := by decide +kernel
theorem dX4_skewer_44 : decode cX4_skewer 44 = .ok (.aload_n 0, 1) := by decide +kernel
theorem dX4_skewer_45 : decode cX4_skewer 45 = .ok (.getfield 15, 3) := by decide +kernel
theorem dX4_skewer_48 : decode cX4_skewer 48 = .ok (.iload_n 1, 1) := by decide +kernel
theorem dX4_skewer_49 : decode cX4_skewer 49 = .ok (.iaload, 1) := by decide +kernel
theorem dX4_skewer_50 : decode cX4_skewer 50 = .ok (.iconst 2, 1) := by decide +kernel
theorem dX4_skewer_51 : decode cX4_skewer 51 = .ok (.idiv, 1) := by decide +kernel
theorem dX4_skewer_52 : decode cX4_skewer 52 = .ok (.invokestatic 48, 3) := by decide +kernel
theorem dX4_skewer_55 : decode cX4_skewer 55 = .ok (.iastore, 1) := by decide +kernel
theorem dX4_skewer_56 : decode cX4_skewer 56 = .ok (.return_, 1) := by decide +kernel
theorem dX4_dip_0 : decode cX4_dip 0 = .ok (.iconst 0, 1) := by decide +kernel
theorem dX4_dip_1 : decode cX4_dip 1 = .ok (.istore_n 2, 1) := by decide +kernel
theorem dX4_dip_2 : decode cX4_dip 2 = .ok (.iload_n 2, 1) := by decide +kernel
theorem dX4_dip_3 : decode cX4_dip 3 = .ok (.bipush 6, 2) := by decide +kernel
theorem dX4_dip_5 : decode cX4_dip 5 = .ok (.if_icmp .ge 23, 3) := by decide +kernel
theorem dX4_dip_8 : decode cX4_dip 8 = .ok (.aload_n 0, 1) := by decide +kernel
theorem dX4_dip_9 : decode cX4_dip 9 = .ok (.getfield 18, 3) := by decide +kernel
theorem dX4_dip_12 : decode cX4_dip 12 = .ok (.iload_n 2, 1) := by decide +kernel
theorem dX4_dip_13 : decode cX4_dip 13 = .ok (.dup2, 1) := by decide +kernel
theorem dX4_dip_14 : decode cX4_dip 14 = .ok (.iaload, 1) := by decide +kernel
theorem dX4_dip_15 : decode cX4_dip 15 = .ok (.iconst 1, 1) := by decide +kernel
theorem dX4_dip_16 : decode cX4_dip 16 = .ok (.iload_n 1, 1) := by decide +kernel
theorem dX4_dip_17 : decode cX4_dip 17 = .ok (.ishl, 1) := by decide +kernel
theorem dX4_dip_18 : decode cX4_dip 18 = .ok (.iconst (-1), 1) := by decide +kernel
theorem dX4_dip_19 : decode cX4_dip 19 = .ok (.ixor, 1) := by decide +kernel
theorem dX4_dip_20 : decode cX4_dip 20 = .ok (.iand, 1) := by decide +kernel
theorem dX4_dip_21 : decode cX4_dip 21 = .ok (.iastore, 1) := by decide +kernel
theorem dX4_dip_22 : decode cX4_dip 22 = .ok (.iinc 2 1, 3) := by decide +kernel
theorem dX4_dip_25 : decode cX4_dip 25 = .ok (.goto (-23), 3) := by decide +kernel
theorem dX4_dip_28 : decode cX4_dip 28 = .ok (.aload_n 0, 1) := by decide +kernel
theorem dX4_dip_29 : decode cX4_dip 29 = .ok (.getfield 18, 3) := by decide +kernel
theorem dX4_dip_32 : decode cX4_dip 32 = .ok (.iload_n 1, 1) := by decide +kernel
theorem dX4_dip_33 : decode cX4_dip 33 = .ok (.iconst 1, 1) := by decide +kernel
theorem dX4_dip_34 : decode cX4_dip 34 = .ok (.iload_n 1, 1) := by decide +kernel
theorem dX4_dip_35 : decode cX4_dip 35 = .ok (.ishl, 1) := by decide +kernel
theorem dX4_dip_36 : decode cX4_dip 36 = .ok (.iastore, 1) := by decide +kernel
theorem dX4_dip_37 : decode cX4_dip 37 = .ok (.aload_n 0, 1) := by decide +kernel
theorem dX4_dip_38 : decode cX4_dip 38 = .ok (.getfield 9, 3) := by decide +kernel
theorem dX4_dip_41 : decode cX4_dip 41 = .ok (.iload_n 1, 1) := by decide +kernel
theorem dX4_dip_42 : decode cX4_dip 42 = .ok (.bipush (-9), 2) := by decide +kernel
theorem dX4_dip_44 : decode cX4_dip 44 = .ok (.iastore, 1) := by decide +kernel
theorem dX4_dip_45 : decode cX4_dip 45 = .ok (.return_, 1) := by decide +kernel
theorem dX4_passMinute_0 : decode cX4_passMinute 0 = .ok (.aload_n 0, 1) := by decide +kernel
theorem dX4_passMinute_1 : decode cX4_passMinute 1 = .ok (.dup, 1) := by decide +kernel
theorem dX4_passMinute_2 : decode cX4_passMinute 2 = .ok (.getfield 24, 3) := by decide +kernel
theorem dX4_passMinute_5 : decode cX4_passMinute 5 = .ok (.iconst 1, 1) := by decide +kernel
theorem dX4_passMinute_6 : decode cX4_passMinute 6 = .ok (.iadd, 1) := by decide +kernel
theorem dX4_passMinute_7 : decode cX4_passMinute 7 = .ok (.putfield 24, 3) := by decide +kernel
theorem dX4_passMinute_10 : decode cX4_passMinute 10 = .ok (.aload_n 0, 1) := by decide +kernel
theorem dX4_passMinute_11 : decode cX4_passMinute 11 = .ok (.aload_n 1, 1) := by decide +kernel
theorem dX4_passMinute_12 : decode cX4_passMinute 12 = .ok (.invokevirtual 54, 3) := by decide +kernel
theorem dX4_passMinute_15 : decode cX4_passMinute 15 = .ok (.aload_n 0, 1) := by decide +kernel
theorem dX4_passMinute_16 : decode cX4_passMinute 16 = .ok (.aload_n 1, 1) := by decide +kernel
theorem dX4_passMinute_17 : decode cX4_passMinute 17 = .ok (.invokevirtual 58, 3) := by decide +kernel
theorem dX4_passMinute_20 : decode cX4_passMinute 20 = .ok (.aload_n 0, 1) := by decide +kernel
theorem dX4_passMinute_21 : decode cX4_passMinute 21 = .ok (.aload_n 1, 1) := by decide +kernel
theorem dX4_passMinute_22 : decode cX4_passMinute 22 = .ok (.getfield 61, 3) := by decide +kernel
theorem dX4_passMinute_25 : decode cX4_passMinute 25 = .ok (.invokevirtual 64, 3) := by decide +kernel
theorem dX4_passMinute_28 : decode cX4_passMinute 28 = .ok (.iconst 0, 1) := by decide +kernel
theorem dX4_passMinute_29 : decode cX4_passMinute 29 = .ok (.istore_n 2, 1) := by decide +kernel
theorem dX4_passMinute_30 : decode cX4_passMinute 30 = .ok (.iload_n 2, 1) := by decide +kernel
theorem dX4_passMinute_31 : decode cX4_passMinute 31 = .ok (.bipush 6, 2) := by decide +kernel
theorem dX4_passMinute_33 : decode cX4_passMinute 33 = .ok (.if_icmp .ge 36, 3) := by decide +kernel
theorem dX4_passMinute_36 : decode cX4_passMinute 36 = .ok (.aload_n 0, 1) := by decide +kernel
theorem dX4_passMinute_37 : decode cX4_passMinute 37 = .ok (.getfield 9, 3) := by decide +kernel
theorem dX4_passMinute_40 : decode cX4_passMinute 40 = .ok (.iload_n 2, 1) := by decide +kernel
theorem dX4_passMinute_41 : decode cX4_passMinute 41 = .ok (.iaload, 1) := by decide +kernel
theorem dX4_passMinute_42 : decode cX4_passMinute 42 = .ok (.ifCond .ne 21, 3) := by decide +kernel
theorem dX4_passMinute_45 : decode cX4_passMinute 45 = .ok (.aload_n 0, 1) := by decide +kernel
theorem dX4_passMinute_46 : decode cX4_passMinute 46 = .ok (.iload_n 2, 1) := by decide +kernel
theorem dX4_passMinute_47 : decode cX4_passMinute 47 = .ok (.invokevirtual 45, 3) := by decide +kernel
theorem dX4_passMinute_50 : decode cX4_passMinute 50 = .ok (.ifCond .ne 13, 3) := by decide +kernel
theorem dX4_passMinute_53 : decode cX4_passMinute 53 = .ok (.aload_n 0, 1) := by decide +kernel
theorem dX4_passMinute_54 : decode cX4_passMinute 54 = .ok (.getfield 21, 3) := by decide +kernel
theorem dX4_passMinute_57 : decode cX4_passMinute 57 = .ok (.iload_n 2, 1) := by decide +kernel
theorem dX4_passMinute_58 : decode cX4_passMinute 58 = .ok (.aload_n 0, 1) := by decide +kernel
theorem dX4_passMinute_59 : decode cX4_passMinute 59 = .ok (.getfield 24, 3) := by decide +kernel
theorem dX4_passMinute_62 : decode cX4_passMinute 62 = .ok (.iastore, 1) := by decide +kernel
theorem dX4_passMinute_63 : decode cX4_passMinute 63 = .ok (.iinc 2 1, 3) := by decide +kernel
theorem dX4_passMinute_66 : decode cX4_passMinute 66 = .ok (.goto (-36), 3) := by decide +kernel
theorem dX4_passMinute_69 : decode cX4_passMinute 69 = .ok (.return_, 1) := by decide +kernel
theorem dX4_swell_0 : decode cX4_swell 0 = .ok (.iconst 0, 1) := by decide +kernel
theorem dX4_swell_1 : decode cX4_swell 1 = .ok (.istore_n 2, 1) := by decide +kernel
theorem dX4_swell_2 : decode cX4_swell 2 = .ok (.iload_n 2, 1) := by decide +kernel
theorem dX4_swell_3 : decode cX4_swell 3 = .ok (.bipush 6, 2) := by decide +kernel
theorem dX4_swell_5 : decode cX4_swell 5 = .ok (.if_icmp .ge 41, 3) := by decide +kernel
theorem dX4_swell_8 : decode cX4_swell 8 = .ok (.aload_n 0, 1) := by decide +kernel
theorem dX4_swell_9 : decode cX4_swell 9 = .ok (.iload_n 2, 1) := by decide +kernel
theorem dX4_swell_10 : decode cX4_swell 10 = .ok (.invokevirtual 41, 3) := by decide +kernel
theorem dX4_swell_13 : decode cX4_swell 13 = .ok (.ifCond .ne 27, 3) := by decide +kernel
theorem dX4_swell_16 : decode cX4_swell 16 = .ok (.aload_n 0, 1) := by decide +kernel
theorem dX4_swell_17 : decode cX4_swell 17 = .ok (.getfield 15, 3) := by decide +kernel
theorem dX4_swell_20 : decode cX4_swell 20 = .ok (.iload_n 2, 1) := by decide +kernel
theorem dX4_swell_21 : decode cX4_swell 21 = .ok (.bipush 30, 2) := by decide +kernel
theorem dX4_swell_23 : decode cX4_swell 23 = .ok (.aload_n 0, 1) := by decide +kernel
theorem dX4_swell_24 : decode cX4_swell 24 = .ok (.getfield 15, 3) := by decide +kernel
theorem dX4_swell_27 : decode cX4_swell 27 = .ok (.iload_n 2, 1) := by decide +kernel
theorem dX4_swell_28 : decode cX4_swell 28 = .ok (.iaload, 1) := by decide +kernel
theorem dX4_swell_29 : decode cX4_swell 29 = .ok (.aload_n 1, 1) := by decide +kernel
theorem dX4_swell_30 : decode cX4_swell 30 = .ok (.getfield 68, 3) := by decide +kernel
theorem dX4_swell_33 : decode cX4_swell 33 = .ok (.iload_n 2, 1) := by decide +kernel
theorem dX4_swell_34 : decode cX4_swell 34 = .ok (.iaload, 1) := by decide +kernel
theorem dX4_swell_35 : decode cX4_swell 35 = .ok (.iadd, 1) := by decide +kernel
theorem dX4_swell_36 : decode cX4_swell 36 = .ok (.invokestatic 70, 3) := by decide +kernel
theorem dX4_swell_39 : decode cX4_swell 39 = .ok (.iastore, 1) := by decide +kernel
theorem dX4_swell_40 : decode cX4_swell 40 = .ok (.iinc 2 1, 3) := by decide +kernel
theorem dX4_swell_43 : decode cX4_swell 43 = .ok (.goto (-41), 3) := by decide +kernel
theorem dX4_swell_46 : decode cX4_swell 46 = .ok (.return_, 1) := by decide +kernel
theorem dX4_moveLumps_0 : decode cX4_moveLumps 0 = .ok (.iconst 0, 1) := by decide +kernel
theorem dX4_moveLumps_1 : decode cX4_moveLumps 1 = .ok (.istore_n 2, 1) := by decide +kernel
theorem dX4_moveLumps_2 : decode cX4_moveLumps 2 = .ok (.iload_n 2, 1) := by decide +kernel
theorem dX4_moveLumps_3 : decode cX4_moveLumps 3 = .ok (.bipush 6, 2) := by decide +kernel
theorem dX4_moveLumps_5 : decode cX4_moveLumps 5 = .ok (.if_icmp .ge 43, 3) := by decide +kernel
theorem dX4_moveLumps_8 : decode cX4_moveLumps 8 = .ok (.aload_n 0, 1) := by decide +kernel
theorem dX4_moveLumps_9 : decode cX4_moveLumps 9 = .ok (.iload_n 2, 1) := by decide +kernel
theorem dX4_moveLumps_10 : decode cX4_moveLumps 10 = .ok (.invokevirtual 41, 3) := by decide +kernel
theorem dX4_moveLumps_13 : decode cX4_moveLumps 13 = .ok (.ifCond .ne 29, 3) := by decide +kernel
theorem dX4_moveLumps_16 : decode cX4_moveLumps 16 = .ok (.aload_n 0, 1) := by decide +kernel
theorem dX4_moveLumps_17 : decode cX4_moveLumps 17 = .ok (.getfield 9, 3) := by decide +kernel
theorem dX4_moveLumps_20 : decode cX4_moveLumps 20 = .ok (.iload_n 2, 1) := by decide +kernel
theorem dX4_moveLumps_21 : decode cX4_moveLumps 21 = .ok (.aload_n 0, 1) := by decide +kernel
theorem dX4_moveLumps_22 : decode cX4_moveLumps 22 = .ok (.getfield 9, 3) := by decide +kernel
theorem dX4_moveLumps_25 : decode cX4_moveLumps 25 = .ok (.iload_n 2, 1) := by decide +kernel
theorem dX4_moveLumps_26 : decode cX4_moveLumps 26 = .ok (.iaload, 1) := by decide +kernel
theorem dX4_moveLumps_27 : decode cX4_moveLumps 27 = .ok (.aload_n 0, 1) := by decide +kernel
theorem dX4_moveLumps_28 : decode cX4_moveLumps 28 = .ok (.aload_n 0, 1) := by decide +kernel
theorem dX4_moveLumps_29 : decode cX4_moveLumps 29 = .ok (.getfield 18, 3) := by decide +kernel
theorem dX4_moveLumps_32 : decode cX4_moveLumps 32 = .ok (.iload_n 2, 1) := by decide +kernel
theorem dX4_moveLumps_33 : decode cX4_moveLumps 33 = .ok (.iaload, 1) := by decide +kernel
theorem dX4_moveLumps_34 : decode cX4_moveLumps 34 = .ok (.aload_n 1, 1) := by decide +kernel
theorem dX4_moveLumps_35 : decode cX4_moveLumps 35 = .ok (.invokevirtual 73, 3) := by decide +kernel
theorem dX4_moveLumps_38 : decode cX4_moveLumps 38 = .ok (.invokestatic 77, 3) := by decide +kernel
theorem dX4_moveLumps_41 : decode cX4_moveLumps 41 = .ok (.iastore, 1) := by decide +kernel
theorem dX4_moveLumps_42 : decode cX4_moveLumps 42 = .ok (.iinc 2 1, 3) := by decide +kernel
theorem dX4_moveLumps_45 : decode cX4_moveLumps 45 = .ok (.goto (-43), 3) := by decide +kernel
theorem dX4_moveLumps_48 : decode cX4_moveLumps 48 = .ok (.return_, 1) := by decide +kernel
theorem dX4_liftOf_0 : decode cX4_liftOf 0 = .ok (.iconst 0, 1) := by decide +kernel
theorem dX4_liftOf_1 : decode cX4_liftOf 1 = .ok (.istore_n 3, 1) := by decide +kernel
theorem dX4_liftOf_2 : decode cX4_liftOf 2 = .ok (.iconst 0, 1) := by decide +kernel
theorem dX4_liftOf_3 : decode cX4_liftOf 3 = .ok (.istore 4, 2) := by decide +kernel
theorem dX4_liftOf_5 : decode cX4_liftOf 5 = .ok (.iload 4, 2) := by decide +kernel
theorem dX4_liftOf_7 : decode cX4_liftOf 7 = .ok (.bipush 6, 2) := by decide +kernel
theorem dX4_liftOf_9 : decode cX4_liftOf 9 = .ok (.if_icmp .ge 41, 3) := by decide +kernel
theorem dX4_liftOf_12 : decode cX4_liftOf 12 = .ok (.iload_n 1, 1) := by decide +kernel
theorem dX4_liftOf_13 : decode cX4_liftOf 13 = .ok (.iload 4, 2) := by decide +kernel
theorem dX4_liftOf_15 : decode cX4_liftOf 15 = .ok (.ishr, 1) := by decide +kernel
theorem dX4_liftOf_16 : decode cX4_liftOf 16 = .ok (.iconst 1, 1) := by decide +kernel
theorem dX4_liftOf_17 : decode cX4_liftOf 17 = .ok (.iand, 1) := by decide +kernel
theorem dX4_liftOf_18 : decode cX4_liftOf 18 = .ok (.ifCond .eq 26, 3) := by decide +kernel
theorem dX4_liftOf_21 : decode cX4_liftOf 21 = .ok (.iload_n 3, 1) := by decide +kernel
theorem dX4_liftOf_22 : decode cX4_liftOf 22 = .ok (.aload_n 0, 1) := by decide +kernel
theorem dX4_liftOf_23 : decode cX4_liftOf 23 = .ok (.getfield 15, 3) := by decide +kernel
theorem dX4_liftOf_26 : decode cX4_liftOf 26 = .ok (.iload 4, 2) := by decide +kernel
theorem dX4_liftOf_28 : decode cX4_liftOf 28 = .ok (.iaload, 1) := by decide +kernel
theorem dX4_liftOf_29 : decode cX4_liftOf 29 = .ok (.aload_n 0, 1) := by decide +kernel
theorem dX4_liftOf_30 : decode cX4_liftOf 30 = .ok (.getfield 33, 3) := by decide +kernel
theorem dX4_liftOf_33 : decode cX4_liftOf 33 = .ok (.iadd, 1) := by decide +kernel
theorem dX4_liftOf_34 : decode cX4_liftOf 34 = .ok (.aload_n 2, 1) := by decide +kernel
theorem dX4_liftOf_35 : decode cX4_liftOf 35 = .ok (.getfield 80, 3) := by decide +kernel
theorem dX4_liftOf_38 : decode cX4_liftOf 38 = .ok (.iload 4, 2) := by decide +kernel
theorem dX4_liftOf_40 : decode cX4_liftOf 40 = .ok (.iaload, 1) := by decide +kernel
theorem dX4_liftOf_41 : decode cX4_liftOf 41 = .ok (.isub, 1) := by decide +kernel
theorem dX4_liftOf_42 : decode cX4_liftOf 42 = .ok (.iadd, 1) := by decide +kernel
theorem dX4_liftOf_43 : decode cX4_liftOf 43 = .ok (.istore_n 3, 1) := by decide +kernel
theorem dX4_liftOf_44 : decode cX4_liftOf 44 = .ok (.iinc 4 1, 3) := by decide +kernel
theorem dX4_liftOf_47 : decode cX4_liftOf 47 = .ok (.goto (-42), 3) := by decide +kernel
theorem dX4_liftOf_50 : decode cX4_liftOf 50 = .ok (.iload_n 3, 1) := by decide +kernel
theorem dX4_liftOf_51 : decode cX4_liftOf 51 = .ok (.ireturn, 1) := by decide +kernel
theorem dX4_stick_0 : decode cX4_stick 0 = .ok (.iconst 0, 1) := by decide +kernel
theorem dX4_stick_1 : decode cX4_stick 1 = .ok (.istore_n 2, 1) := by decide +kernel
theorem dX4_stick_2 : decode cX4_stick 2 = .ok (.iload_n 2, 1) := by decide +kernel
theorem dX4_stick_3 : decode cX4_stick 3 = .ok (.bipush 6, 2) := by decide +kernel
theorem dX4_stick_5 : decode cX4_stick 5 = .ok (.if_icmp .ge 52, 3) := by decide +kernel
theorem dX4_stick_8 : decode cX4_stick 8 = .ok (.iload_n 2, 1) := by decide +kernel
theorem dX4_stick_9 : decode cX4_stick 9 = .ok (.iconst 1, 1) := by decide +kernel
theorem dX4_stick_10 : decode cX4_stick 10 = .ok (.iadd, 1) := by decide +kernel
theorem dX4_stick_11 : decode cX4_stick 11 = .ok (.istore_n 3, 1) := by decide +kernel
theorem dX4_stick_12 : decode cX4_stick 12 = .ok (.iload_n 3, 1) := by decide +kernel
theorem dX4_stick_13 : decode cX4_stick 13 = .ok (.bipush 6, 2) := by decide +kernel
theorem dX4_stick_15 : decode cX4_stick 15 = .ok (.if_icmp .ge 36, 3) := by decide +kernel
theorem dX4_stick_18 : decode cX4_stick 18 = .ok (.aload_n 0, 1) := by decide +kernel
theorem dX4_stick_19 : decode cX4_stick 19 = .ok (.iload_n 2, 1) := by decide +kernel
theorem dX4_stick_20 : decode cX4_stick 20 = .ok (.iload_n 3, 1) := by decide +kernel
theorem dX4_stick_21 : decode cX4_stick 21 = .ok (.iload_n 1, 1) := by decide +kernel
theorem dX4_stick_22 : decode cX4_stick 22 = .ok (.invokevirtual 83, 3) := by decide +kernel
theorem dX4_stick_25 : decode cX4_stick 25 = .ok (.ifCond .eq 20, 3) := by decide +kernel
theorem dX4_stick_28 : decode cX4_stick 28 = .ok (.aload_n 0, 1) := by decide +kernel
theorem dX4_stick_29 : decode cX4_stick 29 = .ok (.aload_n 0, 1) := by decide +kernel
theorem dX4_stick_30 : decode cX4_stick 30 = .ok (.getfield 18, 3) := by decide +kernel
theorem dX4_stick_33 : decode cX4_stick 33 = .ok (.iload_n 2, 1) := by decide +kernel
theorem dX4_stick_34 : decode cX4_stick 34 = .ok (.iaload, 1) := by decide +kernel
theorem dX4_stick_35 : decode cX4_stick 35 = .ok (.aload_n 0, 1) := by decide +kernel
theorem dX4_stick_36 : decode cX4_stick 36 = .ok (.getfield 18, 3) := by decide +kernel
theorem dX4_stick_39 : decode cX4_stick 39 = .ok (.iload_n 3, 1) := by decide +kernel
theorem dX4_stick_40 : decode cX4_stick 40 = .ok (.iaload, 1) := by decide +kernel
theorem dX4_stick_41 : decode cX4_stick 41 = .ok (.ior, 1) := by decide +kernel
theorem dX4_stick_42 : decode cX4_stick 42 = .ok (.invokevirtual 87, 3) := by decide +kernel
theorem dX4_stick_45 : decode cX4_stick 45 = .ok (.iinc 3 1, 3) := by decide +kernel
theorem dX4_stick_48 : decode cX4_stick 48 = .ok (.goto (-36), 3) := by decide +kernel
theorem dX4_stick_51 : decode cX4_stick 51 = .ok (.iinc 2 1, 3) := by decide +kernel
theorem dX4_stick_54 : decode cX4_stick 54 = .ok (.goto (-52), 3) := by decide +kernel
theorem dX4_stick_57 : decode cX4_stick 57 = .ok (.return_, 1) := by decide +kernel
theorem dX4_canStick_0 : decode cX4_canStick 0 = .ok (.aload_n 0, 1) := by decide +kernel
theorem dX4_canStick_1 : decode cX4_canStick 1 = .ok (.getfield 9, 3) := by decide +kernel
theorem dX4_canStick_4 : decode cX4_canStick 4 = .ok (.iload_n 1, 1) := by decide +kernel
theorem dX4_canStick_5 : decode cX4_canStick 5 = .ok (.iaload, 1) := by decide +kernel
theorem dX4_canStick_6 : decode cX4_canStick 6 = .ok (.iconst 1, 1) := by decide +kernel
theorem dX4_canStick_7 : decode cX4_canStick 7 = .ok (.if_icmp .lt 18, 3) := by decide +kernel
theorem dX4_canStick_10 : decode cX4_canStick 10 = .ok (.aload_n 0, 1) := by decide +kernel
theorem dX4_canStick_11 : decode cX4_canStick 11 = .ok (.getfield 9, 3) := by decide +kernel
theorem dX4_canStick_14 : decode cX4_canStick 14 = .ok (.iload_n 1, 1) := by decide +kernel
theorem dX4_canStick_15 : decode cX4_canStick 15 = .ok (.iaload, 1) := by decide +kernel
theorem dX4_canStick_16 : decode cX4_canStick 16 = .ok (.bipush 10, 2) := by decide +kernel
theorem dX4_canStick_18 : decode cX4_canStick 18 = .ok (.if_icmp .ge 7, 3) := by decide +kernel
theorem dX4_canStick_21 : decode cX4_canStick 21 = .ok (.iconst 1, 1) := by decide +kernel
theorem dX4_canStick_22 : decode cX4_canStick 22 = .ok (.goto 4, 3) := by decide +kernel
theorem dX4_canStick_25 : decode cX4_canStick 25 = .ok (.iconst 0, 1) := by decide +kernel
theorem dX4_canStick_26 : decode cX4_canStick 26 = .ok (.istore 4, 2) := by decide +kernel
theorem dX4_canStick_28 : decode cX4_canStick 28 = .ok (.iload 4, 2) := by decide +kernel
theorem dX4_canStick_30 : decode cX4_canStick 30 = .ok (.ifCond .eq 55, 3) := by decide +kernel
theorem dX4_canStick_33 : decode cX4_canStick 33 = .ok (.aload_n 0, 1) := by decide +kernel
theorem dX4_canStick_34 : decode cX4_canStick 34 = .ok (.getfield 9, 3) := by decide +kernel
theorem dX4_canStick_37 : decode cX4_canStick 37 = .ok (.iload_n 2, 1) := by decide +kernel
theorem dX4_canStick_38 : decode cX4_canStick 38 = .ok (.iaload, 1) := by decide +kernel
theorem dX4_canStick_39 : decode cX4_canStick 39 = .ok (.aload_n 0, 1) := by decide +kernel
theorem dX4_canStick_40 : decode cX4_canStick 40 = .ok (.getfield 9, 3) := by decide +kernel
theorem dX4_canStick_43 : decode cX4_canStick 43 = .ok (.iload_n 1, 1) := by decide +kernel
theorem dX4_canStick_44 : decode cX4_canStick 44 = .ok (.iaload, 1) := by decide +kernel
theorem dX4_canStick_45 : decode cX4_canStick 45 = .ok (.if_icmp .ne 40, 3) := by decide +kernel
theorem dX4_canStick_48 : decode cX4_canStick 48 = .ok (.aload_n 0, 1) := by decide +kernel
theorem dX4_canStick_49 : decode cX4_canStick 49 = .ok (.getfield 18, 3) := by decide +kernel
theorem dX4_canStick_52 : decode cX4_canStick 52 = .ok (.iload_n 1, 1) := by decide +kernel
theorem dX4_canStick_53 : decode cX4_canStick 53 = .ok (.iaload, 1) := by decide +kernel
theorem dX4_canStick_54 : decode cX4_canStick 54 = .ok (.iload_n 2, 1) := by decide +kernel
theorem dX4_canStick_55 : decode cX4_canStick 55 = .ok (.ishr, 1) := by decide +kernel
theorem dX4_canStick_56 : decode cX4_canStick 56 = .ok (.iconst 1, 1) := by decide +kernel
theorem dX4_canStick_57 : decode cX4_canStick 57 = .ok (.iand, 1) := by decide +kernel
theorem dX4_canStick_58 : decode cX4_canStick 58 = .ok (.ifCond .ne 27, 3) := by decide +kernel
theorem dX4_canStick_61 : decode cX4_canStick 61 = .ok (.aload_n 0, 1) := by decide +kernel
theorem dX4_canStick_62 : decode cX4_canStick 62 = .ok (.getfield 15, 3) := by decide +kernel
theorem dX4_canStick_65 : decode cX4_canStick 65 = .ok (.iload_n 1, 1) := by decide +kernel
theorem dX4_canStick_66 : decode cX4_canStick 66 = .ok (.iaload, 1) := by decide +kernel
theorem dX4_canStick_67 : decode cX4_canStick 67 = .ok (.aload_n 0, 1) := by decide +kernel
theorem dX4_canStick_68 : decode cX4_canStick 68 = .ok (.getfield 15, 3) := by decide +kernel
theorem dX4_canStick_71 : decode cX4_canStick 71 = .ok (.iload_n 2, 1) := by decide +kernel
theorem dX4_canStick_72 : decode cX4_canStick 72 = .ok (.iaload, 1) := by decide +kernel
theorem dX4_canStick_73 : decode cX4_canStick 73 = .ok (.isub, 1) := by decide +kernel
theorem dX4_canStick_74 : decode cX4_canStick 74 = .ok (.invokestatic 90, 3) := by decide +kernel
theorem dX4_canStick_77 : decode cX4_canStick 77 = .ok (.iload_n 3, 1) := by decide +kernel
theorem dX4_canStick_78 : decode cX4_canStick 78 = .ok (.if_icmp .gt 7, 3) := by decide +kernel
theorem dX4_canStick_81 : decode cX4_canStick 81 = .ok (.iconst 1, 1) := by decide +kernel
theorem dX4_canStick_82 : decode cX4_canStick 82 = .ok (.goto 4, 3) := by decide +kernel
theorem dX4_canStick_85 : decode cX4_canStick 85 = .ok (.iconst 0, 1) := by decide +kernel
theorem dX4_canStick_86 : decode cX4_canStick 86 = .ok (.ireturn, 1) := by decide +kernel
theorem dX4_join_0 : decode cX4_join 0 = .ok (.iconst 0, 1) := by decide +kernel
theorem dX4_join_1 : decode cX4_join 1 = .ok (.istore_n 2, 1) := by decide +kernel
theorem dX4_join_2 : decode cX4_join 2 = .ok (.iload_n 2, 1) := by decide +kernel
theorem dX4_join_3 : decode cX4_join 3 = .ok (.bipush 6, 2) := by decide +kernel
theorem dX4_join_5 : decode cX4_join 5 = .ok (.if_icmp .ge 24, 3) := by decide +kernel
theorem dX4_join_8 : decode cX4_join 8 = .ok (.iload_n 1, 1) := by decide +kernel
theorem dX4_join_9 : decode cX4_join 9 = .ok (.iload_n 2, 1) := by decide +kernel
theorem dX4_join_10 : decode cX4_join 10 = .ok (.ishr, 1) := by decide +kernel
theorem dX4_join_11 : decode cX4_join 11 = .ok (.iconst 1, 1) := by decide +kernel
theorem dX4_join_12 : decode cX4_join 12 = .ok (.iand, 1) := by decide +kernel
theorem dX4_join_13 : decode cX4_join 13 = .ok (.ifCond .eq 10, 3) := by decide +kernel
theorem dX4_join_16 : decode cX4_join 16 = .ok (.aload_n 0, 1) := by decide +kernel
theorem dX4_join_17 : decode cX4_join 17 = .ok (.getfield 18, 3) := by decide +kernel
theorem dX4_join_20 : decode cX4_join 20 = .ok (.iload_n 2, 1) := by decide +kernel
theorem dX4_join_21 : decode cX4_join 21 = .ok (.iload_n 1, 1) := by decide +kernel
theorem dX4_join_22 : decode cX4_join 22 = .ok (.iastore, 1) := by decide +kernel
theorem dX4_join_23 : decode cX4_join 23 = .ok (.iinc 2 1, 3) := by decide +kernel
theorem dX4_join_26 : decode cX4_join 26 = .ok (.goto (-24), 3) := by decide +kernel
theorem dX4_join_29 : decode cX4_join 29 = .ok (.return_, 1) := by decide +kernel
theorem dX5_init_0 : decode cX5_init 0 = .ok (.aload_n 0, 1) := by decide +kernel
theorem dX5_init_1 : decode cX5_init 1 = .ok (.invokespecial 3, 3) := by decide +kernel
theorem dX5_init_4 : decode cX5_init 4 = .ok (.aload_n 0, 1) := by decide +kernel
theorem dX5_init_5 : decode cX5_init 5 = .ok (.new 9, 3) := by decide +kernel
theorem dX5_init_8 : decode cX5_init 8 = .ok (.dup, 1) := by decide +kernel
theorem dX5_init_9 : decode cX5_init 9 = .ok (.invokespecial 11, 3) := by decide +kernel
theorem dX5_init_12 : decode cX5_init 12 = .ok (.putfield 12, 3) := by decide +kernel
theorem dX5_init_15 : decode cX5_init 15 = .ok (.aload_n 0, 1) := by decide +kernel
theorem dX5_init_16 : decode cX5_init 16 = .ok (.new 16, 3) := by decide +kernel
theorem dX5_init_19 : decode cX5_init 19 = .ok (.dup, 1) := by decide +kernel
theorem dX5_init_20 : decode cX5_init 20 = .ok (.invokespecial 18, 3) := by decide +kernel
theorem dX5_init_23 : decode cX5_init 23 = .ok (.putfield 19, 3) := by decide +kernel
theorem dX5_init_26 : decode cX5_init 26 = .ok (.aload_n 0, 1) := by decide +kernel
theorem dX5_init_27 : decode cX5_init 27 = .ok (.new 16, 3) := by decide +kernel
theorem dX5_init_30 : decode cX5_init 30 = .ok (.dup, 1) := by decide +kernel
theorem dX5_init_31 : decode cX5_init 31 = .ok (.invokespecial 18, 3) := by decide +kernel
theorem dX5_init_34 : decode cX5_init 34 = .ok (.putfield 23, 3) := by decide +kernel
theorem dX5_init_37 : decode cX5_init 37 = .ok (.aload_n 0, 1) := by decide +kernel
theorem dX5_init_38 : decode cX5_init 38 = .ok (.new 26, 3) := by decide +kernel
theorem dX5_init_41 : decode cX5_init 41 = .ok (.dup, 1) := by decide +kernel
theorem dX5_init_42 : decode cX5_init 42 = .ok (.invokespecial 28, 3) := by decide +kernel
theorem dX5_init_45 : decode cX5_init 45 = .ok (.putfield 29, 3) := by decide +kernel
theorem dX5_init_48 : decode cX5_init 48 = .ok (.aload_n 0, 1) := by decide +kernel
theorem dX5_init_49 : decode cX5_init 49 = .ok (.new 26, 3) := by decide +kernel
theorem dX5_init_52 : decode cX5_init 52 = .ok (.dup, 1) := by decide +kernel
theorem dX5_init_53 : decode cX5_init 53 = .ok (.invokespecial 28, 3) := by decide +kernel
theorem dX5_init_56 : decode cX5_init 56 = .ok (.putfield 33, 3) := by decide +kernel
theorem dX5_init_59 : decode cX5_init 59 = .ok (.aload_n 0, 1) := by decide +kernel
theorem dX5_init_60 : decode cX5_init 60 = .ok (.new 36, 3) := by decide +kernel
theorem dX5_init_63 : decode cX5_init 63 = .ok (.dup, 1) := by decide +kernel
theorem dX5_init_64 : decode cX5_init 64 = .ok (.invokespecial 38, 3) := by decide +kernel
theorem dX5_init_67 : decode cX5_init 67 = .ok (.putfield 39, 3) := by decide +kernel
theorem dX5_init_70 : decode cX5_init 70 = .ok (.aload_n 0, 1) := by decide +kernel
theorem dX5_init_71 : decode cX5_init 71 = .ok (.new 26, 3) := by decide +kernel
theorem dX5_init_74 : decode cX5_init 74 = .ok (.dup, 1) := by decide +kernel
theorem dX5_init_75 : decode cX5_init 75 = .ok (.invokespecial 28, 3) := by decide +kernel
theorem dX5_init_78 : decode cX5_init 78 = .ok (.putfield 43, 3) := by decide +kernel
theorem dX5_init_81 : decode cX5_init 81 = .ok (.aload_n 0, 1) := by decide +kernel
theorem dX5_init_82 : decode cX5_init 82 = .ok (.new 26, 3) := by decide +kernel
theorem dX5_init_85 : decode cX5_init 85 = .ok (.dup, 1) := by decide +kernel
theorem dX5_init_86 : decode cX5_init 86 = .ok (.invokespecial 28, 3) := by decide +kernel
theorem dX5_init_89 : decode cX5_init 89 = .ok (.putfield 46, 3) := by decide +kernel
theorem dX5_init_92 : decode cX5_init 92 = .ok (.aload_n 0, 1) := by decide +kernel
theorem dX5_init_93 : decode cX5_init 93 = .ok (.new 49, 3) := by decide +kernel
theorem dX5_init_96 : decode cX5_init 96 = .ok (.dup, 1) := by decide +kernel
theorem dX5_init_97 : decode cX5_init 97 = .ok (.invokespecial 51, 3) := by decide +kernel
theorem dX5_init_100 : decode cX5_init 100 = .ok (.putfield 52, 3) := by decide +kernel
theorem dX5_init_103 : decode cX5_init 103 = .ok (.aload_n 0, 1) := by decide +kernel
theorem dX5_init_104 : decode cX5_init 104 = .ok (.bipush 64, 2) := by decide +kernel
theorem dX5_init_106 : decode cX5_init 106 = .ok (.newarray .int, 2) := by decide +kernel
theorem dX5_init_108 : decode cX5_init 108 = .ok (.putfield 56, 3) := by decide +kernel
theorem dX5_init_111 : decode cX5_init 111 = .ok (.aload_n 0, 1) := by decide +kernel
theorem dX5_init_112 : decode cX5_init 112 = .ok (.bipush 11, 2) := by decide +kernel
theorem dX5_init_114 : decode cX5_init 114 = .ok (.newarray .int, 2) := by decide +kernel
theorem dX5_init_116 : decode cX5_init 116 = .ok (.putfield 60, 3) := by decide +kernel
theorem dX5_init_119 : decode cX5_init 119 = .ok (.aload_n 0, 1) := by decide +kernel
theorem dX5_init_120 : decode cX5_init 120 = .ok (.getfield 19, 3) := by decide +kernel
theorem dX5_init_123 : decode cX5_init 123 = .ok (.invokevirtual 63, 3) := by decide +kernel
theorem dX5_init_126 : decode cX5_init 126 = .ok (.aload_n 0, 1) := by decide +kernel
theorem dX5_init_127 : decode cX5_init 127 = .ok (.getfield 29, 3) := by decide +kernel
theorem dX5_init_130 : decode cX5_init 130 = .ok (.aload_n 0, 1) := by decide +kernel
theorem dX5_init_131 : decode cX5_init 131 = .ok (.getfield 19, 3) := by decide +kernel
theorem dX5_init_134 : decode cX5_init 134 = .ok (.invokevirtual 66, 3) := by decide +kernel
theorem dX5_init_137 : decode cX5_init 137 = .ok (.return_, 1) := by decide +kernel
theorem dX5_type_0 : decode cX5_type 0 = .ok (.iload_n 1, 1) := by decide +kernel
theorem dX5_type_1 : decode cX5_type 1 = .ok (.ifCond .lt 10, 3) := by decide +kernel
theorem dX5_type_4 : decode cX5_type 4 = .ok (.iload_n 1, 1) := by decide +kernel
theorem dX5_type_5 : decode cX5_type 5 = .ok (.sipush 255, 3) := by decide +kernel
theorem dX5_type_8 : decode cX5_type 8 = .ok (.if_icmp .le 5, 3) := by decide +kernel
theorem dX5_type_11 : decode cX5_type 11 = .ok (.iconst (-1), 1) := by decide +kernel
theorem dX5_type_12 : decode cX5_type 12 = .ok (.ireturn, 1) := by decide +kernel
theorem dX5_type_13 : decode cX5_type 13 = .ok (.aload_n 0, 1) := by decide +kernel
theorem dX5_type_14 : decode cX5_type 14 = .ok (.getfield 12, 3) := by decide +kernel
theorem dX5_type_17 : decode cX5_type 17 = .ok (.iload_n 1, 1) := by decide +kernel
theorem dX5_type_18 : decode cX5_type 18 = .ok (.invokevirtual 70, 3) := by decide +kernel
theorem dX5_type_21 : decode cX5_type 21 = .ok (.ifCond .eq 13, 3) := by decide +kernel
theorem dX5_type_24 : decode cX5_type 24 = .ok (.aload_n 0, 1) := by decide +kernel
theorem dX5_type_25 : decode cX5_type 25 = .ok (.getfield 12, 3) := by decide +kernel
theorem dX5_type_28 : decode cX5_type 28 = .ok (.getfield 74, 3) := by decide +kernel
theorem dX5_type_31 : decode cX5_type 31 = .ok (.goto 5, 3) := by decide +kernel
theorem dX5_type_34 : decode cX5_type 34 = .ok (.bipush (-3), 2) := by decide +kernel
theorem dX5_type_36 : decode cX5_type 36 = .ok (.ireturn, 1) := by decide +kernel
theorem dX5_clear_0 : decode cX5_clear 0 = .ok (.aload_n 0, 1) := by decide +kernel
theorem dX5_clear_1 : decode cX5_clear 1 = .ok (.getfield 12, 3) := by decide +kernel
theorem dX5_clear_4 : decode cX5_clear 4 = .ok (.getfield 74, 3) := by decide +kernel
theorem dX5_clear_7 : decode cX5_clear 7 = .ok (.istore_n 1, 1) := by decide +kernel
theorem dX5_clear_8 : decode cX5_clear 8 = .ok (.aload_n 0, 1) := by decide +kernel
theorem dX5_clear_9 : decode cX5_clear 9 = .ok (.getfield 12, 3) := by decide +kernel
theorem dX5_clear_12 : decode cX5_clear 12 = .ok (.iconst 0, 1) := by decide +kernel
theorem dX5_clear_13 : decode cX5_clear 13 = .ok (.putfield 74, 3) := by decide +kernel
theorem dX5_clear_16 : decode cX5_clear 16 = .ok (.iload_n 1, 1) := by decide +kernel
theorem dX5_clear_17 : decode cX5_clear 17 = .ok (.ireturn, 1) := by decide +kernel
theorem dX5_pot_0 : decode cX5_pot 0 = .ok (.aload_n 0, 1) := by decide +kernel
theorem dX5_pot_1 : decode cX5_pot 1 = .ok (.getfield 12, 3) := by decide +kernel
theorem dX5_pot_4 : decode cX5_pot 4 = .ok (.aload_n 0, 1) := by decide +kernel
theorem dX5_pot_5 : decode cX5_pot 5 = .ok (.getfield 23, 3) := by decide +kernel
theorem dX5_pot_8 : decode cX5_pot 8 = .ok (.invokevirtual 78, 3) := by decide +kernel
theorem dX5_pot_11 : decode cX5_pot 11 = .ok (.istore_n 1, 1) := by decide +kernel
theorem dX5_pot_12 : decode cX5_pot 12 = .ok (.iload_n 1, 1) := by decide +kernel
theorem dX5_pot_13 : decode cX5_pot 13 = .ok (.ifCond .ge 5, 3) := by decide +kernel
theorem dX5_pot_16 : decode cX5_pot 16 = .ok (.iload_n 1, 1) := by decide +kernel
theorem dX5_pot_17 : decode cX5_pot 17 = .ok (.ireturn, 1) := by decide +kernel
theorem dX5_pot_18 : decode cX5_pot 18 = .ok (.aload_n 0, 1) := by decide +kernel
theorem dX5_pot_19 : decode cX5_pot 19 = .ok (.getfield 19, 3) := by decide +kernel
theorem dX5_pot_22 : decode cX5_pot 22 = .ok (.aload_n 0, 1) := by decide +kernel
theorem dX5_pot_23 : decode cX5_pot 23 = .ok (.getfield 23, 3) := by decide +kernel
theorem dX5_pot_26 : decode cX5_pot 26 = .ok (.invokevirtual 82, 3) := by decide +kernel
theorem dX5_pot_29 : decode cX5_pot 29 = .ok (.aload_n 0, 1) := by decide +kernel
theorem dX5_pot_30 : decode cX5_pot 30 = .ok (.getfield 29, 3) := by decide +kernel
theorem dX5_pot_33 : decode cX5_pot 33 = .ok (.aload_n 0, 1) := by decide +kernel
theorem dX5_pot_34 : decode cX5_pot 34 = .ok (.getfield 19, 3) := by decide +kernel
theorem dX5_pot_37 : decode cX5_pot 37 = .ok (.invokevirtual 66, 3) := by decide +kernel
theorem dX5_pot_40 : decode cX5_pot 40 = .ok (.aload_n 0, 1) := by decide +kernel
theorem dX5_pot_41 : decode cX5_pot 41 = .ok (.getfield 12, 3) := by decide +kernel
theorem dX5_pot_44 : decode cX5_pot 44 = .ok (.iconst 0, 1) := by decide +kernel
theorem dX5_pot_45 : decode cX5_pot 45 = .ok (.putfield 74, 3) := by decide +kernel
theorem dX5_pot_48 : decode cX5_pot 48 = .ok (.aload_n 0, 1) := by decide +kernel
theorem dX5_pot_49 : decode cX5_pot 49 = .ok (.getfield 39, 3) := by decide +kernel
theorem dX5_pot_52 : decode cX5_pot 52 = .ok (.iconst 0, 1) := by decide +kernel
theorem dX5_pot_53 : decode cX5_pot 53 = .ok (.putfield 85, 3) := by decide +kernel
theorem dX5_pot_56 : decode cX5_pot 56 = .ok (.aload_n 0, 1) := by decide +kernel
theorem dX5_pot_57 : decode cX5_pot 57 = .ok (.iconst 0, 1) := by decide +kernel
theorem dX5_pot_58 : decode cX5_pot 58 = .ok (.putfield 88, 3) := by decide +kernel
theorem dX5_pot_61 : decode cX5_pot 61 = .ok (.aload_n 0, 1) := by decide +kernel
theorem dX5_pot_62 : decode cX5_pot 62 = .ok (.getfield 52, 3) := by decide +kernel
theorem dX5_pot_65 : decode cX5_pot 65 = .ok (.iconst 0, 1) := by decide +kernel
theorem dX5_pot_66 : decode cX5_pot 66 = .ok (.putfield 91, 3) := by decide +kernel
theorem dX5_pot_69 : decode cX5_pot 69 = .ok (.iload_n 1, 1) := by decide +kernel
theorem dX5_pot_70 : decode cX5_pot 70 = .ok (.ireturn, 1) := by decide +kernel
theorem dX5_dumpling_0 : decode cX5_dumpling 0 = .ok (.aload_n 0, 1) := by decide +kernel
theorem dX5_dumpling_1 : decode cX5_dumpling 1 = .ok (.iload_n 1, 1) := by decide +kernel
theorem dX5_dumpling_2 : decode cX5_dumpling 2 = .ok (.invokevirtual 92, 3) := by decide +kernel
theorem dX5_dumpling_5 : decode cX5_dumpling 5 = .ok (.ifCond .ne 5, 3) := by decide +kernel
theorem dX5_dumpling_8 : decode cX5_dumpling 8 = .ok (.iconst (-1), 1) := by decide +kernel
theorem dX5_dumpling_9 : decode cX5_dumpling 9 = .ok (.ireturn, 1) := by decide +kernel
theorem dX5_dumpling_10 : decode cX5_dumpling 10 = .ok (.iload_n 2, 1) := by decide +kernel
theorem dX5_dumpling_11 : decode cX5_dumpling 11 = .ok (.tableswitch 111 0 6 #[41, 51, 61, 71, 81, 91, 101], 41) := by decide +kernel
theorem dX5_dumpling_52 : decode cX5_dumpling 52 = .ok (.aload_n 0, 1) := by decide +kernel
theorem dX5_dumpling_53 : decode cX5_dumpling 53 = .ok (.getfield 19, 3) := by decide +kernel
theorem dX5_dumpling_56 : decode cX5_dumpling 56 = .ok (.getfield 95, 3) := by decide +kernel
theorem dX5_dumpling_59 : decode cX5_dumpling 59 = .ok (.iload_n 1, 1) := by decide +kernel
theorem dX5_dumpling_60 : decode cX5_dumpling 60 = .ok (.iaload, 1) := by decide +kernel
theorem dX5_dumpling_61 : decode cX5_dumpling 61 = .ok (.ireturn, 1) := by decide +kernel
theorem dX5_dumpling_62 : decode cX5_dumpling 62 = .ok (.aload_n 0, 1) := by decide +kernel
theorem dX5_dumpling_63 : decode cX5_dumpling 63 = .ok (.getfield 29, 3) := by decide +kernel
theorem dX5_dumpling_66 : decode cX5_dumpling 66 = .ok (.getfield 98, 3) := by decide +kernel
theorem dX5_dumpling_69 : decode cX5_dumpling 69 = .ok (.iload_n 1, 1) := by decide +kernel
theorem dX5_dumpling_70 : decode cX5_dumpling 70 = .ok (.iaload, 1) := by decide +kernel
theorem dX5_dumpling_71 : decode cX5_dumpling 71 = .ok (.ireturn, 1) := by decide +kernel
theorem dX5_dumpling_72 : decode cX5_dumpling 72 = .ok (.aload_n 0, 1) := by decide +kernel
theorem dX5_dumpling_73 : decode cX5_dumpling 73 = .ok (.getfield 19, 3) := by decide +kernel
theorem dX5_dumpling_76 : decode cX5_dumpling 76 = .ok (.getfield 101, 3) := by decide +kernel
theorem dX5_dumpling_79 : decode cX5_dumpling 79 = .ok (.iload_n 1, 1) := by decide +kernel
theorem dX5_dumpling_80 : decode cX5_dumpling 80 = .ok (.iaload, 1) := by decide +kernel
theorem dX5_dumpling_81 : decode cX5_dumpling 81 = .ok (.ireturn, 1) := by decide +kernel
theorem dX5_dumpling_82 : decode cX5_dumpling 82 = .ok (.aload_n 0, 1) := by decide +kernel
theorem dX5_dumpling_83 : decode cX5_dumpling 83 = .ok (.getfield 19, 3) := by decide +kernel
theorem dX5_dumpling_86 : decode cX5_dumpling 86 = .ok (.getfield 104, 3) := by decide +kernel
theorem dX5_dumpling_89 : decode cX5_dumpling 89 = .ok (.iload_n 1, 1) := by decide +kernel
theorem dX5_dumpling_90 : decode cX5_dumpling 90 = .ok (.iaload, 1) := by decide +kernel
theorem dX5_dumpling_91 : decode cX5_dumpling 91 = .ok (.ireturn, 1) := by decide +kernel
theorem dX5_dumpling_92 : decode cX5_dumpling 92 = .ok (.aload_n 0, 1) := by decide +kernel
theorem dX5_dumpling_93 : decode cX5_dumpling 93 = .ok (.getfield 29, 3) := by decide +kernel
theorem dX5_dumpling_96 : decode cX5_dumpling 96 = .ok (.getfield 107, 3) := by decide +kernel
theorem dX5_dumpling_99 : decode cX5_dumpling 99 = .ok (.iload_n 1, 1) := by decide +kernel
theorem dX5_dumpling_100 : decode cX5_dumpling 100 = .ok (.iaload, 1) := by decide +kernel
theorem dX5_dumpling_101 : decode cX5_dumpling 101 = .ok (.ireturn, 1) := by decide +kernel
theorem dX5_dumpling_102 : decode cX5_dumpling 102 = .ok (.aload_n 0, 1) := by decide +kernel
theorem dX5_dumpling_103 : decode cX5_dumpling 103 = .ok (.getfield 29, 3) := by decide +kernel
theorem dX5_dumpling_106 : decode cX5_dumpling 106 = .ok (.getfield 110, 3) := by decide +kernel
theorem dX5_dumpling_109 : decode cX5_dumpling 109 = .ok (.iload_n 1, 1) := by decide +kernel
theorem dX5_dumpling_110 : decode cX5_dumpling 110 = .ok (.iaload, 1) := by decide +kernel
theorem dX5_dumpling_111 : decode cX5_dumpling 111 = .ok (.ireturn, 1) := by decide +kernel
theorem dX5_dumpling_112 : decode cX5_dumpling 112 = .ok (.aload_n 0, 1) := by decide +kernel
theorem dX5_dumpling_113 : decode cX5_dumpling 113 = .ok (.getfield 29, 3) := by decide +kernel
theorem dX5_dumpling_116 : decode cX5_dumpling 116 = .ok (.getfield 113, 3) := by decide +kernel
theorem dX5_dumpling_119 : decode cX5_dumpling 119 = .ok (.iload_n 1, 1) := by decide +kernel
theorem dX5_dumpling_120 : decode cX5_dumpling 120 = .ok (.iaload, 1) := by decide +kernel
theorem dX5_dumpling_121 : decode cX5_dumpling 121 = .ok (.ireturn, 1) := by decide +kernel
theorem dX5_dumpling_122 : decode cX5_dumpling 122 = .ok (.iconst (-1), 1) := by decide +kernel
theorem dX5_dumpling_123 : decode cX5_dumpling 123 = .ok (.ireturn, 1) := by decide +kernel
theorem dX5_now_0 : decode cX5_now 0 = .ok (.iload_n 1, 1) := by decide +kernel
theorem dX5_now_1 : decode cX5_now 1 = .ok (.tableswitch 96 0 6 #[43, 51, 59, 64, 72, 83, 88], 43) := by decide +kernel
theorem dX5_now_44 : decode cX5_now 44 = .ok (.aload_n 0, 1) := by decide +kernel
theorem dX5_now_45 : decode cX5_now 45 = .ok (.getfield 29, 3) := by decide +kernel
theorem dX5_now_48 : decode cX5_now 48 = .ok (.getfield 116, 3) := by decide +kernel
theorem dX5_now_51 : decode cX5_now 51 = .ok (.ireturn, 1) := by decide +kernel
theorem dX5_now_52 : decode cX5_now 52 = .ok (.aload_n 0, 1) := by decide +kernel
theorem dX5_now_53 : decode cX5_now 53 = .ok (.getfield 29, 3) := by decide +kernel
theorem dX5_now_56 : decode cX5_now 56 = .ok (.getfield 119, 3) := by decide +kernel
theorem dX5_now_59 : decode cX5_now 59 = .ok (.ireturn, 1) := by decide +kernel
theorem dX5_now_60 : decode cX5_now 60 = .ok (.aload_n 0, 1) := by decide +kernel
theorem dX5_now_61 : decode cX5_now 61 = .ok (.invokevirtual 122, 3) := by decide +kernel
