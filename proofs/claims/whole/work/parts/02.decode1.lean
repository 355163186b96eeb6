theorem dX0_init_0 : decode cX0_init 0 = .ok (.aload_n 0, 1) := by decide +kernel
theorem dX0_init_1 : decode cX0_init 1 = .ok (.invokespecial 3, 3) := by decide +kernel
theorem dX0_init_4 : decode cX0_init 4 = .ok (.aload_n 0, 1) := by decide +kernel
theorem dX0_init_5 : decode cX0_init 5 = .ok (.bipush 12, 2) := by decide +kernel
theorem dX0_init_7 : decode cX0_init 7 = .ok (.newarray .int, 2) := by decide +kernel
theorem dX0_init_9 : decode cX0_init 9 = .ok (.putfield 9, 3) := by decide +kernel
theorem dX0_init_12 : decode cX0_init 12 = .ok (.aload_n 0, 1) := by decide +kernel
theorem dX0_init_13 : decode cX0_init 13 = .ok (.bipush 12, 2) := by decide +kernel
theorem dX0_init_15 : decode cX0_init 15 = .ok (.newarray .int, 2) := by decide +kernel
theorem dX0_init_17 : decode cX0_init 17 = .ok (.putfield 15, 3) := by decide +kernel
theorem dX0_init_20 : decode cX0_init 20 = .ok (.aload_n 0, 1) := by decide +kernel
theorem dX0_init_21 : decode cX0_init 21 = .ok (.bipush 12, 2) := by decide +kernel
theorem dX0_init_23 : decode cX0_init 23 = .ok (.newarray .int, 2) := by decide +kernel
theorem dX0_init_25 : decode cX0_init 25 = .ok (.putfield 18, 3) := by decide +kernel
theorem dX0_init_28 : decode cX0_init 28 = .ok (.aload_n 0, 1) := by decide +kernel
theorem dX0_init_29 : decode cX0_init 29 = .ok (.bipush 8, 2) := by decide +kernel
theorem dX0_init_31 : decode cX0_init 31 = .ok (.newarray .int, 2) := by decide +kernel
theorem dX0_init_33 : decode cX0_init 33 = .ok (.putfield 21, 3) := by decide +kernel
theorem dX0_init_36 : decode cX0_init 36 = .ok (.aload_n 0, 1) := by decide +kernel
theorem dX0_init_37 : decode cX0_init 37 = .ok (.bipush 8, 2) := by decide +kernel
theorem dX0_init_39 : decode cX0_init 39 = .ok (.newarray .int, 2) := by decide +kernel
theorem dX0_init_41 : decode cX0_init 41 = .ok (.putfield 24, 3) := by decide +kernel
theorem dX0_init_44 : decode cX0_init 44 = .ok (.aload_n 0, 1) := by decide +kernel
theorem dX0_init_45 : decode cX0_init 45 = .ok (.invokevirtual 27, 3) := by decide +kernel
theorem dX0_init_48 : decode cX0_init 48 = .ok (.return_, 1) := by decide +kernel
theorem dX0_empty_0 : decode cX0_empty 0 = .ok (.aload_n 0, 1) := by decide +kernel
theorem dX0_empty_1 : decode cX0_empty 1 = .ok (.getfield 9, 3) := by decide +kernel
theorem dX0_empty_4 : decode cX0_empty 4 = .ok (.iconst 0, 1) := by decide +kernel
theorem dX0_empty_5 : decode cX0_empty 5 = .ok (.invokestatic 30, 3) := by decide +kernel
theorem dX0_empty_8 : decode cX0_empty 8 = .ok (.aload_n 0, 1) := by decide +kernel
theorem dX0_empty_9 : decode cX0_empty 9 = .ok (.getfield 15, 3) := by decide +kernel
theorem dX0_empty_12 : decode cX0_empty 12 = .ok (.sipush 999, 3) := by decide +kernel
theorem dX0_empty_15 : decode cX0_empty 15 = .ok (.invokestatic 30, 3) := by decide +kernel
theorem dX0_empty_18 : decode cX0_empty 18 = .ok (.aload_n 0, 1) := by decide +kernel
theorem dX0_empty_19 : decode cX0_empty 19 = .ok (.getfield 18, 3) := by decide +kernel
theorem dX0_empty_22 : decode cX0_empty 22 = .ok (.iconst 0, 1) := by decide +kernel
theorem dX0_empty_23 : decode cX0_empty 23 = .ok (.invokestatic 30, 3) := by decide +kernel
theorem dX0_empty_26 : decode cX0_empty 26 = .ok (.aload_n 0, 1) := by decide +kernel
theorem dX0_empty_27 : decode cX0_empty 27 = .ok (.iconst 0, 1) := by decide +kernel
theorem dX0_empty_28 : decode cX0_empty 28 = .ok (.putfield 36, 3) := by decide +kernel
theorem dX0_empty_31 : decode cX0_empty 31 = .ok (.aload_n 0, 1) := by decide +kernel
theorem dX0_empty_32 : decode cX0_empty 32 = .ok (.iconst 0, 1) := by decide +kernel
theorem dX0_empty_33 : decode cX0_empty 33 = .ok (.putfield 40, 3) := by decide +kernel
theorem dX0_empty_36 : decode cX0_empty 36 = .ok (.return_, 1) := by decide +kernel
theorem dX0_read_0 : decode cX0_read 0 = .ok (.aload_n 0, 1) := by decide +kernel
theorem dX0_read_1 : decode cX0_read 1 = .ok (.invokevirtual 27, 3) := by decide +kernel
theorem dX0_read_4 : decode cX0_read 4 = .ok (.aload_n 0, 1) := by decide +kernel
theorem dX0_read_5 : decode cX0_read 5 = .ok (.getfield 40, 3) := by decide +kernel
theorem dX0_read_8 : decode cX0_read 8 = .ok (.sipush 400, 3) := by decide +kernel
theorem dX0_read_11 : decode cX0_read 11 = .ok (.if_icmp .ge 42, 3) := by decide +kernel
theorem dX0_read_14 : decode cX0_read 14 = .ok (.aload_n 1, 1) := by decide +kernel
theorem dX0_read_15 : decode cX0_read 15 = .ok (.iconst 0, 1) := by decide +kernel
theorem dX0_read_16 : decode cX0_read 16 = .ok (.invokevirtual 45, 3) := by decide +kernel
theorem dX0_read_19 : decode cX0_read 19 = .ok (.ifCond .ne 34, 3) := by decide +kernel
theorem dX0_read_22 : decode cX0_read 22 = .ok (.aload_n 0, 1) := by decide +kernel
theorem dX0_read_23 : decode cX0_read 23 = .ok (.aload_n 1, 1) := by decide +kernel
theorem dX0_read_24 : decode cX0_read 24 = .ok (.invokevirtual 49, 3) := by decide +kernel
theorem dX0_read_27 : decode cX0_read 27 = .ok (.ifCond .eq 11, 3) := by decide +kernel
theorem dX0_read_30 : decode cX0_read 30 = .ok (.aload_n 1, 1) := by decide +kernel
theorem dX0_read_31 : decode cX0_read 31 = .ok (.iconst 1, 1) := by decide +kernel
theorem dX0_read_32 : decode cX0_read 32 = .ok (.invokevirtual 53, 3) := by decide +kernel
theorem dX0_read_35 : decode cX0_read 35 = .ok (.ifCond .ne 5, 3) := by decide +kernel
theorem dX0_read_38 : decode cX0_read 38 = .ok (.iconst 0, 1) := by decide +kernel
theorem dX0_read_39 : decode cX0_read 39 = .ok (.ireturn, 1) := by decide +kernel
theorem dX0_read_40 : decode cX0_read 40 = .ok (.aload_n 0, 1) := by decide +kernel
theorem dX0_read_41 : decode cX0_read 41 = .ok (.dup, 1) := by decide +kernel
theorem dX0_read_42 : decode cX0_read 42 = .ok (.getfield 40, 3) := by decide +kernel
theorem dX0_read_45 : decode cX0_read 45 = .ok (.iconst 1, 1) := by decide +kernel
theorem dX0_read_46 : decode cX0_read 46 = .ok (.iadd, 1) := by decide +kernel
theorem dX0_read_47 : decode cX0_read 47 = .ok (.putfield 40, 3) := by decide +kernel
theorem dX0_read_50 : decode cX0_read 50 = .ok (.goto (-46), 3) := by decide +kernel
theorem dX0_read_53 : decode cX0_read 53 = .ok (.aload_n 1, 1) := by decide +kernel
theorem dX0_read_54 : decode cX0_read 54 = .ok (.iconst 0, 1) := by decide +kernel
theorem dX0_read_55 : decode cX0_read 55 = .ok (.invokevirtual 45, 3) := by decide +kernel
theorem dX0_read_58 : decode cX0_read 58 = .ok (.ireturn, 1) := by decide +kernel
theorem dX0_readItem_0 : decode cX0_readItem 0 = .ok (.aload_n 1, 1) := by decide +kernel
theorem dX0_readItem_1 : decode cX0_readItem 1 = .ok (.bipush 6, 2) := by decide +kernel
theorem dX0_readItem_3 : decode cX0_readItem 3 = .ok (.invokevirtual 53, 3) := by decide +kernel
theorem dX0_readItem_6 : decode cX0_readItem 6 = .ok (.ifCond .eq 9, 3) := by decide +kernel
theorem dX0_readItem_9 : decode cX0_readItem 9 = .ok (.aload_n 0, 1) := by decide +kernel
theorem dX0_readItem_10 : decode cX0_readItem 10 = .ok (.aload_n 1, 1) := by decide +kernel
theorem dX0_readItem_11 : decode cX0_readItem 11 = .ok (.invokevirtual 56, 3) := by decide +kernel
theorem dX0_readItem_14 : decode cX0_readItem 14 = .ok (.ireturn, 1) := by decide +kernel
theorem dX0_readItem_15 : decode cX0_readItem 15 = .ok (.aload_n 1, 1) := by decide +kernel
theorem dX0_readItem_16 : decode cX0_readItem 16 = .ok (.bipush 7, 2) := by decide +kernel
theorem dX0_readItem_18 : decode cX0_readItem 18 = .ok (.invokevirtual 53, 3) := by decide +kernel
theorem dX0_readItem_21 : decode cX0_readItem 21 = .ok (.ifCond .eq 9, 3) := by decide +kernel
theorem dX0_readItem_24 : decode cX0_readItem 24 = .ok (.aload_n 0, 1) := by decide +kernel
theorem dX0_readItem_25 : decode cX0_readItem 25 = .ok (.aload_n 1, 1) := by decide +kernel
theorem dX0_readItem_26 : decode cX0_readItem 26 = .ok (.invokevirtual 59, 3) := by decide +kernel
theorem dX0_readItem_29 : decode cX0_readItem 29 = .ok (.ireturn, 1) := by decide +kernel
theorem dX0_readItem_30 : decode cX0_readItem 30 = .ok (.aload_n 0, 1) := by decide +kernel
theorem dX0_readItem_31 : decode cX0_readItem 31 = .ok (.getfield 36, 3) := by decide +kernel
theorem dX0_readItem_34 : decode cX0_readItem 34 = .ok (.bipush 8, 2) := by decide +kernel
theorem dX0_readItem_36 : decode cX0_readItem 36 = .ok (.if_icmp .ge 24, 3) := by decide +kernel
theorem dX0_readItem_39 : decode cX0_readItem 39 = .ok (.aload_n 1, 1) := by decide +kernel
theorem dX0_readItem_40 : decode cX0_readItem 40 = .ok (.bipush 8, 2) := by decide +kernel
theorem dX0_readItem_42 : decode cX0_readItem 42 = .ok (.invokevirtual 53, 3) := by decide +kernel
theorem dX0_readItem_45 : decode cX0_readItem 45 = .ok (.ifCond .eq 15, 3) := by decide +kernel
theorem dX0_readItem_48 : decode cX0_readItem 48 = .ok (.aload_n 0, 1) := by decide +kernel
theorem dX0_readItem_49 : decode cX0_readItem 49 = .ok (.aload_n 1, 1) := by decide +kernel
theorem dX0_readItem_50 : decode cX0_readItem 50 = .ok (.invokevirtual 62, 3) := by decide +kernel
theorem dX0_readItem_53 : decode cX0_readItem 53 = .ok (.ifCond .eq 7, 3) := by decide +kernel
theorem dX0_readItem_56 : decode cX0_readItem 56 = .ok (.iconst 1, 1) := by decide +kernel
theorem dX0_readItem_57 : decode cX0_readItem 57 = .ok (.goto 4, 3) := by decide +kernel
theorem dX0_readItem_60 : decode cX0_readItem 60 = .ok (.iconst 0, 1) := by decide +kernel
theorem dX0_readItem_61 : decode cX0_readItem 61 = .ok (.ireturn, 1) := by decide +kernel
theorem dX0_readStuff_0 : decode cX0_readStuff 0 = .ok (.aload_n 1, 1) := by decide +kernel
theorem dX0_readStuff_1 : decode cX0_readStuff 1 = .ok (.iconst 3, 1) := by decide +kernel
theorem dX0_readStuff_2 : decode cX0_readStuff 2 = .ok (.invokevirtual 53, 3) := by decide +kernel
theorem dX0_readStuff_5 : decode cX0_readStuff 5 = .ok (.ifCond .ne 5, 3) := by decide +kernel
theorem dX0_readStuff_8 : decode cX0_readStuff 8 = .ok (.iconst 0, 1) := by decide +kernel
theorem dX0_readStuff_9 : decode cX0_readStuff 9 = .ok (.ireturn, 1) := by decide +kernel
theorem dX0_readStuff_10 : decode cX0_readStuff 10 = .ok (.aload_n 1, 1) := by decide +kernel
theorem dX0_readStuff_11 : decode cX0_readStuff 11 = .ok (.getfield 65, 3) := by decide +kernel
theorem dX0_readStuff_14 : decode cX0_readStuff 14 = .ok (.istore_n 2, 1) := by decide +kernel
theorem dX0_readStuff_15 : decode cX0_readStuff 15 = .ok (.aload_n 1, 1) := by decide +kernel
theorem dX0_readStuff_16 : decode cX0_readStuff 16 = .ok (.iconst 0, 1) := by decide +kernel
theorem dX0_readStuff_17 : decode cX0_readStuff 17 = .ok (.sipush 999, 3) := by decide +kernel
theorem dX0_readStuff_20 : decode cX0_readStuff 20 = .ok (.invokevirtual 68, 3) := by decide +kernel
theorem dX0_readStuff_23 : decode cX0_readStuff 23 = .ok (.ifCond .ne 5, 3) := by decide +kernel
theorem dX0_readStuff_26 : decode cX0_readStuff 26 = .ok (.iconst 0, 1) := by decide +kernel
theorem dX0_readStuff_27 : decode cX0_readStuff 27 = .ok (.ireturn, 1) := by decide +kernel
theorem dX0_readStuff_28 : decode cX0_readStuff 28 = .ok (.aload_n 1, 1) := by decide +kernel
theorem dX0_readStuff_29 : decode cX0_readStuff 29 = .ok (.getfield 65, 3) := by decide +kernel
theorem dX0_readStuff_32 : decode cX0_readStuff 32 = .ok (.istore_n 3, 1) := by decide +kernel
theorem dX0_readStuff_33 : decode cX0_readStuff 33 = .ok (.aload_n 1, 1) := by decide +kernel
theorem dX0_readStuff_34 : decode cX0_readStuff 34 = .ok (.iload_n 3, 1) := by decide +kernel
theorem dX0_readStuff_35 : decode cX0_readStuff 35 = .ok (.sipush 999, 3) := by decide +kernel
theorem dX0_readStuff_38 : decode cX0_readStuff 38 = .ok (.invokevirtual 68, 3) := by decide +kernel
theorem dX0_readStuff_41 : decode cX0_readStuff 41 = .ok (.ifCond .ne 5, 3) := by decide +kernel
theorem dX0_readStuff_44 : decode cX0_readStuff 44 = .ok (.iconst 0, 1) := by decide +kernel
theorem dX0_readStuff_45 : decode cX0_readStuff 45 = .ok (.ireturn, 1) := by decide +kernel
theorem dX0_readStuff_46 : decode cX0_readStuff 46 = .ok (.aload_n 0, 1) := by decide +kernel
theorem dX0_readStuff_47 : decode cX0_readStuff 47 = .ok (.getfield 9, 3) := by decide +kernel
theorem dX0_readStuff_50 : decode cX0_readStuff 50 = .ok (.iload_n 2, 1) := by decide +kernel
theorem dX0_readStuff_51 : decode cX0_readStuff 51 = .ok (.iload_n 3, 1) := by decide +kernel
theorem dX0_readStuff_52 : decode cX0_readStuff 52 = .ok (.iastore, 1) := by decide +kernel
theorem dX0_readStuff_53 : decode cX0_readStuff 53 = .ok (.aload_n 0, 1) := by decide +kernel
theorem dX0_readStuff_54 : decode cX0_readStuff 54 = .ok (.getfield 15, 3) := by decide +kernel
theorem dX0_readStuff_57 : decode cX0_readStuff 57 = .ok (.iload_n 2, 1) := by decide +kernel
theorem dX0_readStuff_58 : decode cX0_readStuff 58 = .ok (.aload_n 1, 1) := by decide +kernel
theorem dX0_readStuff_59 : decode cX0_readStuff 59 = .ok (.getfield 65, 3) := by decide +kernel
theorem dX0_readStuff_62 : decode cX0_readStuff 62 = .ok (.iastore, 1) := by decide +kernel
theorem dX0_readStuff_63 : decode cX0_readStuff 63 = .ok (.iconst 1, 1) := by decide +kernel
theorem dX0_readStuff_64 : decode cX0_readStuff 64 = .ok (.ireturn, 1) := by decide +kernel
theorem dX0_readAlike_0 : decode cX0_readAlike 0 = .ok (.aload_n 1, 1) := by decide +kernel
theorem dX0_readAlike_1 : decode cX0_readAlike 1 = .ok (.iconst 3, 1) := by decide +kernel
theorem dX0_readAlike_2 : decode cX0_readAlike 2 = .ok (.invokevirtual 53, 3) := by decide +kernel
theorem dX0_readAlike_5 : decode cX0_readAlike 5 = .ok (.ifCond .ne 5, 3) := by decide +kernel
theorem dX0_readAlike_8 : decode cX0_readAlike 8 = .ok (.iconst 0, 1) := by decide +kernel
theorem dX0_readAlike_9 : decode cX0_readAlike 9 = .ok (.ireturn, 1) := by decide +kernel
theorem dX0_readAlike_10 : decode cX0_readAlike 10 = .ok (.aload_n 1, 1) := by decide +kernel
theorem dX0_readAlike_11 : decode cX0_readAlike 11 = .ok (.getfield 65, 3) := by decide +kernel
theorem dX0_readAlike_14 : decode cX0_readAlike 14 = .ok (.istore_n 2, 1) := by decide +kernel
theorem dX0_readAlike_15 : decode cX0_readAlike 15 = .ok (.aload_n 1, 1) := by decide +kernel
theorem dX0_readAlike_16 : decode cX0_readAlike 16 = .ok (.iload_n 2, 1) := by decide +kernel
theorem dX0_readAlike_17 : decode cX0_readAlike 17 = .ok (.invokevirtual 72, 3) := by decide +kernel
theorem dX0_readAlike_20 : decode cX0_readAlike 20 = .ok (.ifCond .ne 5, 3) := by decide +kernel
theorem dX0_readAlike_23 : decode cX0_readAlike 23 = .ok (.iconst 0, 1) := by decide +kernel
theorem dX0_readAlike_24 : decode cX0_readAlike 24 = .ok (.ireturn, 1) := by decide +kernel
theorem dX0_readAlike_25 : decode cX0_readAlike 25 = .ok (.aload_n 0, 1) := by decide +kernel
theorem dX0_readAlike_26 : decode cX0_readAlike 26 = .ok (.getfield 18, 3) := by decide +kernel
theorem dX0_readAlike_29 : decode cX0_readAlike 29 = .ok (.iload_n 2, 1) := by decide +kernel
theorem dX0_readAlike_30 : decode cX0_readAlike 30 = .ok (.dup2, 1) := by decide +kernel
theorem dX0_readAlike_31 : decode cX0_readAlike 31 = .ok (.iaload, 1) := by decide +kernel
theorem dX0_readAlike_32 : decode cX0_readAlike 32 = .ok (.iconst 1, 1) := by decide +kernel
theorem dX0_readAlike_33 : decode cX0_readAlike 33 = .ok (.aload_n 1, 1) := by decide +kernel
theorem dX0_readAlike_34 : decode cX0_readAlike 34 = .ok (.getfield 65, 3) := by decide +kernel
theorem dX0_readAlike_37 : decode cX0_readAlike 37 = .ok (.ishl, 1) := by decide +kernel
theorem dX0_readAlike_38 : decode cX0_readAlike 38 = .ok (.ior, 1) := by decide +kernel
theorem dX0_readAlike_39 : decode cX0_readAlike 39 = .ok (.iastore, 1) := by decide +kernel
theorem dX0_readAlike_40 : decode cX0_readAlike 40 = .ok (.aload_n 0, 1) := by decide +kernel
theorem dX0_readAlike_41 : decode cX0_readAlike 41 = .ok (.getfield 18, 3) := by decide +kernel
theorem dX0_readAlike_44 : decode cX0_readAlike 44 = .ok (.aload_n 1, 1) := by decide +kernel
theorem dX0_readAlike_45 : decode cX0_readAlike 45 = .ok (.getfield 65, 3) := by decide +kernel
theorem dX0_readAlike_48 : decode cX0_readAlike 48 = .ok (.dup2, 1) := by decide +kernel
theorem dX0_readAlike_49 : decode cX0_readAlike 49 = .ok (.iaload, 1) := by decide +kernel
theorem dX0_readAlike_50 : decode cX0_readAlike 50 = .ok (.iconst 1, 1) := by decide +kernel
theorem dX0_readAlike_51 : decode cX0_readAlike 51 = .ok (.iload_n 2, 1) := by decide +kernel
theorem dX0_readAlike_52 : decode cX0_readAlike 52 = .ok (.ishl, 1) := by decide +kernel
theorem dX0_readAlike_53 : decode cX0_readAlike 53 = .ok (.ior, 1) := by decide +kernel
theorem dX0_readAlike_54 : decode cX0_readAlike 54 = .ok (.iastore, 1) := by decide +kernel
theorem dX0_readAlike_55 : decode cX0_readAlike 55 = .ok (.iconst 1, 1) := by decide +kernel
theorem dX0_readAlike_56 : decode cX0_readAlike 56 = .ok (.ireturn, 1) := by decide +kernel
theorem dX0_readBill_0 : decode cX0_readBill 0 = .ok (.aload_n 1, 1) := by decide +kernel
theorem dX0_readBill_1 : decode cX0_readBill 1 = .ok (.iconst 0, 1) := by decide +kernel
theorem dX0_readBill_2 : decode cX0_readBill 2 = .ok (.sipush 999, 3) := by decide +kernel
theorem dX0_readBill_5 : decode cX0_readBill 5 = .ok (.invokevirtual 68, 3) := by decide +kernel
theorem dX0_readBill_8 : decode cX0_readBill 8 = .ok (.ifCond .ne 5, 3) := by decide +kernel
theorem dX0_readBill_11 : decode cX0_readBill 11 = .ok (.iconst 0, 1) := by decide +kernel
theorem dX0_readBill_12 : decode cX0_readBill 12 = .ok (.ireturn, 1) := by decide +kernel
theorem dX0_readBill_13 : decode cX0_readBill 13 = .ok (.aload_n 0, 1) := by decide +kernel
theorem dX0_readBill_14 : decode cX0_readBill 14 = .ok (.getfield 21, 3) := by decide +kernel
theorem dX0_readBill_17 : decode cX0_readBill 17 = .ok (.aload_n 0, 1) := by decide +kernel
theorem dX0_readBill_18 : decode cX0_readBill 18 = .ok (.getfield 36, 3) := by decide +kernel
theorem dX0_readBill_21 : decode cX0_readBill 21 = .ok (.aload_n 1, 1) := by decide +kernel
theorem dX0_readBill_22 : decode cX0_readBill 22 = .ok (.getfield 65, 3) := by decide +kernel
theorem dX0_readBill_25 : decode cX0_readBill 25 = .ok (.iastore, 1) := by decide +kernel
theorem dX0_readBill_26 : decode cX0_readBill 26 = .ok (.aload_n 1, 1) := by decide +kernel
theorem dX0_readBill_27 : decode cX0_readBill 27 = .ok (.iconst 3, 1) := by decide +kernel
theorem dX0_readBill_28 : decode cX0_readBill 28 = .ok (.invokevirtual 53, 3) := by decide +kernel
theorem dX0_readBill_31 : decode cX0_readBill 31 = .ok (.ifCond .ne 5, 3) := by decide +kernel
theorem dX0_readBill_34 : decode cX0_readBill 34 = .ok (.iconst 0, 1) := by decide +kernel
theorem dX0_readBill_35 : decode cX0_readBill 35 = .ok (.ireturn, 1) := by decide +kernel
theorem dX0_readBill_36 : decode cX0_readBill 36 = .ok (.aload_n 0, 1) := by decide +kernel
theorem dX0_readBill_37 : decode cX0_readBill 37 = .ok (.getfield 24, 3) := by decide +kernel
theorem dX0_readBill_40 : decode cX0_readBill 40 = .ok (.aload_n 0, 1) := by decide +kernel
theorem dX0_readBill_41 : decode cX0_readBill 41 = .ok (.getfield 36, 3) := by decide +kernel
theorem dX0_readBill_44 : decode cX0_readBill 44 = .ok (.aload_n 1, 1) := by decide +kernel
theorem dX0_readBill_45 : decode cX0_readBill 45 = .ok (.getfield 65, 3) := by decide +kernel
theorem dX0_readBill_48 : decode cX0_readBill 48 = .ok (.iastore, 1) := by decide +kernel
theorem dX0_readBill_49 : decode cX0_readBill 49 = .ok (.aload_n 0, 1) := by decide +kernel
theorem dX0_readBill_50 : decode cX0_readBill 50 = .ok (.dup, 1) := by decide +kernel
theorem dX0_readBill_51 : decode cX0_readBill 51 = .ok (.getfield 36, 3) := by decide +kernel
theorem dX0_readBill_54 : decode cX0_readBill 54 = .ok (.iconst 1, 1) := by decide +kernel
theorem dX0_readBill_55 : decode cX0_readBill 55 = .ok (.iadd, 1) := by decide +kernel
theorem dX0_readBill_56 : decode cX0_readBill 56 = .ok (.putfield 36, 3) := by decide +kernel
theorem dX0_readBill_59 : decode cX0_readBill 59 = .ok (.iconst 1, 1) := by decide +kernel
theorem dX0_readBill_60 : decode cX0_readBill 60 = .ok (.ireturn, 1) := by decide +kernel
theorem dX1_init_0 : decode cX1_init 0 = .ok (.aload_n 0, 1) := by decide +kernel
theorem dX1_init_1 : decode cX1_init 1 = .ok (.invokespecial 3, 3) := by decide +kernel
theorem dX1_init_4 : decode cX1_init 4 = .ok (.aload_n 0, 1) := by decide +kernel
theorem dX1_init_5 : decode cX1_init 5 = .ok (.bipush 10, 2) := by decide +kernel
theorem dX1_init_7 : decode cX1_init 7 = .ok (.newarray .int, 2) := by decide +kernel
theorem dX1_init_9 : decode cX1_init 9 = .ok (.putfield 9, 3) := by decide +kernel
theorem dX1_init_12 : decode cX1_init 12 = .ok (.aload_n 0, 1) := by decide +kernel
theorem dX1_init_13 : decode cX1_init 13 = .ok (.bipush 10, 2) := by decide +kernel
theorem dX1_init_15 : decode cX1_init 15 = .ok (.newarray .int, 2) := by decide +kernel
theorem dX1_init_17 : decode cX1_init 17 = .ok (.putfield 15, 3) := by decide +kernel
theorem dX1_init_20 : decode cX1_init 20 = .ok (.return_, 1) := by decide +kernel
theorem dX1_read_0 : decode cX1_read 0 = .ok (.aload_n 1, 1) := by decide +kernel
theorem dX1_read_1 : decode cX1_read 1 = .ok (.iconst 4, 1) := by decide +kernel
theorem dX1_read_2 : decode cX1_read 2 = .ok (.invokevirtual 20, 3) := by decide +kernel
theorem dX1_read_5 : decode cX1_read 5 = .ok (.ifCond .eq 12, 3) := by decide +kernel
theorem dX1_read_8 : decode cX1_read 8 = .ok (.aload_n 1, 1) := by decide +kernel
theorem dX1_read_9 : decode cX1_read 9 = .ok (.iconst 0, 1) := by decide +kernel
theorem dX1_read_10 : decode cX1_read 10 = .ok (.iconst 5, 1) := by decide +kernel
theorem dX1_read_11 : decode cX1_read 11 = .ok (.invokevirtual 24, 3) := by decide +kernel
theorem dX1_read_14 : decode cX1_read 14 = .ok (.ifCond .ne 5, 3) := by decide +kernel
theorem dX1_read_17 : decode cX1_read 17 = .ok (.iconst 0, 1) := by decide +kernel
theorem dX1_read_18 : decode cX1_read 18 = .ok (.ireturn, 1) := by decide +kernel
theorem dX1_read_19 : decode cX1_read 19 = .ok (.aload_n 0, 1) := by decide +kernel
theorem dX1_read_20 : decode cX1_read 20 = .ok (.aload_n 1, 1) := by decide +kernel
theorem dX1_read_21 : decode cX1_read 21 = .ok (.getfield 28, 3) := by decide +kernel
theorem dX1_read_24 : decode cX1_read 24 = .ok (.putfield 32, 3) := by decide +kernel
theorem dX1_read_27 : decode cX1_read 27 = .ok (.aload_n 0, 1) := by decide +kernel
theorem dX1_read_28 : decode cX1_read 28 = .ok (.aload_n 1, 1) := by decide +kernel
theorem dX1_read_29 : decode cX1_read 29 = .ok (.iconst 5, 1) := by decide +kernel
theorem dX1_read_30 : decode cX1_read 30 = .ok (.invokevirtual 20, 3) := by decide +kernel
theorem dX1_read_33 : decode cX1_read 33 = .ok (.putfield 35, 3) := by decide +kernel
theorem dX1_read_36 : decode cX1_read 36 = .ok (.aload_n 0, 1) := by decide +kernel
theorem dX1_read_37 : decode cX1_read 37 = .ok (.aload_n 1, 1) := by decide +kernel
theorem dX1_read_38 : decode cX1_read 38 = .ok (.invokevirtual 39, 3) := by decide +kernel
theorem dX1_read_41 : decode cX1_read 41 = .ok (.ifCond .eq 23, 3) := by decide +kernel
theorem dX1_read_44 : decode cX1_read 44 = .ok (.aload_n 1, 1) := by decide +kernel
theorem dX1_read_45 : decode cX1_read 45 = .ok (.iconst 1, 1) := by decide +kernel
theorem dX1_read_46 : decode cX1_read 46 = .ok (.invokevirtual 20, 3) := by decide +kernel
theorem dX1_read_49 : decode cX1_read 49 = .ok (.ifCond .eq 15, 3) := by decide +kernel
theorem dX1_read_52 : decode cX1_read 52 = .ok (.aload_n 1, 1) := by decide +kernel
theorem dX1_read_53 : decode cX1_read 53 = .ok (.iconst 0, 1) := by decide +kernel
theorem dX1_read_54 : decode cX1_read 54 = .ok (.invokevirtual 43, 3) := by decide +kernel
theorem dX1_read_57 : decode cX1_read 57 = .ok (.ifCond .eq 7, 3) := by decide +kernel
theorem dX1_read_60 : decode cX1_read 60 = .ok (.iconst 1, 1) := by decide +kernel
theorem dX1_read_61 : decode cX1_read 61 = .ok (.goto 4, 3) := by decide +kernel
theorem dX1_read_64 : decode cX1_read 64 = .ok (.iconst 0, 1) := by decide +kernel
theorem dX1_read_65 : decode cX1_read 65 = .ok (.ireturn, 1) := by decide +kernel
theorem dX1_readCoats_0 : decode cX1_readCoats 0 = .ok (.aload_n 0, 1) := by decide +kernel
theorem dX1_readCoats_1 : decode cX1_readCoats 1 = .ok (.iconst 0, 1) := by decide +kernel
theorem dX1_readCoats_2 : decode cX1_readCoats 2 = .ok (.putfield 46, 3) := by decide +kernel
theorem dX1_readCoats_5 : decode cX1_readCoats 5 = .ok (.aload_n 0, 1) := by decide +kernel
theorem dX1_readCoats_6 : decode cX1_readCoats 6 = .ok (.getfield 46, 3) := by decide +kernel
theorem dX1_readCoats_9 : decode cX1_readCoats 9 = .ok (.bipush 10, 2) := by decide +kernel
theorem dX1_readCoats_11 : decode cX1_readCoats 11 = .ok (.if_icmp .ge 62, 3) := by decide +kernel
theorem dX1_readCoats_14 : decode cX1_readCoats 14 = .ok (.aload_n 1, 1) := by decide +kernel
theorem dX1_readCoats_15 : decode cX1_readCoats 15 = .ok (.iconst 3, 1) := by decide +kernel
theorem dX1_readCoats_16 : decode cX1_readCoats 16 = .ok (.invokevirtual 20, 3) := by decide +kernel
theorem dX1_readCoats_19 : decode cX1_readCoats 19 = .ok (.ifCond .eq 54, 3) := by decide +kernel
theorem dX1_readCoats_22 : decode cX1_readCoats 22 = .ok (.aload_n 0, 1) := by decide +kernel
theorem dX1_readCoats_23 : decode cX1_readCoats 23 = .ok (.getfield 9, 3) := by decide +kernel
theorem dX1_readCoats_26 : decode cX1_readCoats 26 = .ok (.aload_n 0, 1) := by decide +kernel
theorem dX1_readCoats_27 : decode cX1_readCoats 27 = .ok (.getfield 46, 3) := by decide +kernel
theorem dX1_readCoats_30 : decode cX1_readCoats 30 = .ok (.aload_n 1, 1) := by decide +kernel
theorem dX1_readCoats_31 : decode cX1_readCoats 31 = .ok (.getfield 28, 3) := by decide +kernel
theorem dX1_readCoats_34 : decode cX1_readCoats 34 = .ok (.iastore, 1) := by decide +kernel
theorem dX1_readCoats_35 : decode cX1_readCoats 35 = .ok (.aload_n 1, 1) := by decide +kernel
theorem dX1_readCoats_36 : decode cX1_readCoats 36 = .ok (.iconst 0, 1) := by decide +kernel
theorem dX1_readCoats_37 : decode cX1_readCoats 37 = .ok (.bipush 9, 2) := by decide +kernel
theorem dX1_readCoats_39 : decode cX1_readCoats 39 = .ok (.invokevirtual 24, 3) := by decide +kernel
theorem dX1_readCoats_42 : decode cX1_readCoats 42 = .ok (.ifCond .ne 5, 3) := by decide +kernel
theorem dX1_readCoats_45 : decode cX1_readCoats 45 = .ok (.iconst 0, 1) := by decide +kernel
theorem dX1_readCoats_46 : decode cX1_readCoats 46 = .ok (.ireturn, 1) := by decide +kernel
theorem dX1_readCoats_47 : decode cX1_readCoats 47 = .ok (.aload_n 0, 1) := by decide +kernel
theorem dX1_readCoats_48 : decode cX1_readCoats 48 = .ok (.getfield 15, 3) := by decide +kernel
theorem dX1_readCoats_51 : decode cX1_readCoats 51 = .ok (.aload_n 0, 1) := by decide +kernel
theorem dX1_readCoats_52 : decode cX1_readCoats 52 = .ok (.getfield 46, 3) := by decide +kernel
theorem dX1_readCoats_55 : decode cX1_readCoats 55 = .ok (.aload_n 1, 1) := by decide +kernel
theorem dX1_readCoats_56 : decode cX1_readCoats 56 = .ok (.getfield 28, 3) := by decide +kernel
theorem dX1_readCoats_59 : decode cX1_readCoats 59 = .ok (.iastore, 1) := by decide +kernel
theorem dX1_readCoats_60 : decode cX1_readCoats 60 = .ok (.aload_n 0, 1) := by decide +kernel
theorem dX1_readCoats_61 : decode cX1_readCoats 61 = .ok (.dup, 1) := by decide +kernel
theorem dX1_readCoats_62 : decode cX1_readCoats 62 = .ok (.getfield 46, 3) := by decide +kernel
theorem dX1_readCoats_65 : decode cX1_readCoats 65 = .ok (.iconst 1, 1) := by decide +kernel
theorem dX1_readCoats_66 : decode cX1_readCoats 66 = .ok (.iadd, 1) := by decide +kernel
theorem dX1_readCoats_67 : decode cX1_readCoats 67 = .ok (.putfield 46, 3) := by decide +kernel
theorem dX1_readCoats_70 : decode cX1_readCoats 70 = .ok (.goto (-65), 3) := by decide +kernel
theorem dX1_readCoats_73 : decode cX1_readCoats 73 = .ok (.aload_n 0, 1) := by decide +kernel
theorem dX1_readCoats_74 : decode cX1_readCoats 74 = .ok (.getfield 46, 3) := by decide +kernel
theorem dX1_readCoats_77 : decode cX1_readCoats 77 = .ok (.ifCond .le 7, 3) := by decide +kernel
theorem dX1_readCoats_80 : decode cX1_readCoats 80 = .ok (.iconst 1, 1) := by decide +kernel
theorem dX1_readCoats_81 : decode cX1_readCoats 81 = .ok (.goto 4, 3) := by decide +kernel
theorem dX1_readCoats_84 : decode cX1_readCoats 84 = .ok (.iconst 0, 1) := by decide +kernel
theorem dX1_readCoats_85 : decode cX1_readCoats 85 = .ok (.ireturn, 1) := by decide +kernel
theorem dX1_copy_0 : decode cX1_copy 0 = .ok (.aload_n 0, 1) := by decide +kernel
theorem dX1_copy_1 : decode cX1_copy 1 = .ok (.aload_n 1, 1) := by decide +kernel
theorem dX1_copy_2 : decode cX1_copy 2 = .ok (.getfield 32, 3) := by decide +kernel
theorem dX1_copy_5 : decode cX1_copy 5 = .ok (.putfield 32, 3) := by decide +kernel
theorem dX1_copy_8 : decode cX1_copy 8 = .ok (.aload_n 0, 1) := by decide +kernel
theorem dX1_copy_9 : decode cX1_copy 9 = .ok (.aload_n 1, 1) := by decide +kernel
theorem dX1_copy_10 : decode cX1_copy 10 = .ok (.getfield 46, 3) := by decide +kernel
theorem dX1_copy_13 : decode cX1_copy 13 = .ok (.putfield 46, 3) := by decide +kernel
theorem dX1_copy_16 : decode cX1_copy 16 = .ok (.aload_n 0, 1) := by decide +kernel
theorem dX1_copy_17 : decode cX1_copy 17 = .ok (.aload_n 1, 1) := by decide +kernel
theorem dX1_copy_18 : decode cX1_copy 18 = .ok (.getfield 35, 3) := by decide +kernel
theorem dX1_copy_21 : decode cX1_copy 21 = .ok (.putfield 35, 3) := by decide +kernel
theorem dX1_copy_24 : decode cX1_copy 24 = .ok (.aload_n 1, 1) := by decide +kernel
theorem dX1_copy_25 : decode cX1_copy 25 = .ok (.getfield 9, 3) := by decide +kernel
theorem dX1_copy_28 : decode cX1_copy 28 = .ok (.iconst 0, 1) := by decide +kernel
theorem dX1_copy_29 : decode cX1_copy 29 = .ok (.aload_n 0, 1) := by decide +kernel
theorem dX1_copy_30 : decode cX1_copy 30 = .ok (.getfield 9, 3) := by decide +kernel
theorem dX1_copy_33 : decode cX1_copy 33 = .ok (.iconst 0, 1) := by decide +kernel
theorem dX1_copy_34 : decode cX1_copy 34 = .ok (.bipush 10, 2) := by decide +kernel
theorem dX1_copy_36 : decode cX1_copy 36 = .ok (.invokestatic 49, 3) := by decide +kernel
theorem dX1_copy_39 : decode cX1_copy 39 = .ok (.aload_n 1, 1) := by decide +kernel
theorem dX1_copy_40 : decode cX1_copy 40 = .ok (.getfield 15, 3) := by decide +kernel
theorem dX1_copy_43 : decode cX1_copy 43 = .ok (.iconst 0, 1) := by decide +kernel
theorem dX1_copy_44 : decode cX1_copy 44 = .ok (.aload_n 0, 1) := by decide +kernel
theorem dX1_copy_45 : decode cX1_copy 45 = .ok (.getfield 15, 3) := by decide +kernel
theorem dX1_copy_48 : decode cX1_copy 48 = .ok (.iconst 0, 1) := by decide +kernel
theorem dX1_copy_49 : decode cX1_copy 49 = .ok (.bipush 10, 2) := by decide +kernel
theorem dX1_copy_51 : decode cX1_copy 51 = .ok (.invokestatic 49, 3) := by decide +kernel
theorem dX1_copy_54 : decode cX1_copy 54 = .ok (.return_, 1) := by decide +kernel
theorem dX2_init_0 : decode cX2_init 0 = .ok (.aload_n 0, 1) := by decide +kernel
theorem dX2_init_1 : decode cX2_init 1 = .ok (.invokespecial 3, 3) := by decide +kernel
theorem dX2_init_4 : decode cX2_init 4 = .ok (.aload_n 0, 1) := by decide +kernel
theorem dX2_init_5 : decode cX2_init 5 = .ok (.bipush 121, 2) := by decide +kernel
theorem dX2_init_7 : decode cX2_init 7 = .ok (.newarray .int, 2) := by decide +kernel
theorem dX2_init_9 : decode cX2_init 9 = .ok (.putfield 11, 3) := by decide +kernel
theorem dX2_init_12 : decode cX2_init 12 = .ok (.aload_n 0, 1) := by decide +kernel
theorem dX2_init_13 : decode cX2_init 13 = .ok (.bipush 121, 2) := by decide +kernel
theorem dX2_init_15 : decode cX2_init 15 = .ok (.newarray .long, 2) := by decide +kernel
theorem dX2_init_17 : decode cX2_init 17 = .ok (.putfield 15, 3) := by decide +kernel
theorem dX2_init_20 : decode cX2_init 20 = .ok (.return_, 1) := by decide +kernel
theorem dX2_lay_0 : decode cX2_lay 0 = .ok (.aload_n 0, 1) := by decide +kernel
theorem dX2_lay_1 : decode cX2_lay 1 = .ok (.aload_n 1, 1) := by decide +kernel
theorem dX2_lay_2 : decode cX2_lay 2 = .ok (.putfield 19, 3) := by decide +kernel
theorem dX2_lay_5 : decode cX2_lay 5 = .ok (.aload_n 0, 1) := by decide +kernel
theorem dX2_lay_6 : decode cX2_lay 6 = .ok (.aload_n 2, 1) := by decide +kernel
theorem dX2_lay_7 : decode cX2_lay 7 = .ok (.putfield 23, 3) := by decide +kernel
theorem dX2_lay_10 : decode cX2_lay 10 = .ok (.aload_n 0, 1) := by decide +kernel
theorem dX2_lay_11 : decode cX2_lay 11 = .ok (.aload_n 3, 1) := by decide +kernel
theorem dX2_lay_12 : decode cX2_lay 12 = .ok (.putfield 26, 3) := by decide +kernel
theorem dX2_lay_15 : decode cX2_lay 15 = .ok (.aload_n 0, 1) := by decide +kernel
theorem dX2_lay_16 : decode cX2_lay 16 = .ok (.iload 4, 2) := by decide +kernel
theorem dX2_lay_18 : decode cX2_lay 18 = .ok (.putfield 29, 3) := by decide +kernel
theorem dX2_lay_21 : decode cX2_lay 21 = .ok (.aload_n 0, 1) := by decide +kernel
theorem dX2_lay_22 : decode cX2_lay 22 = .ok (.iload 5, 2) := by decide +kernel
theorem dX2_lay_24 : decode cX2_lay 24 = .ok (.putfield 33, 3) := by decide +kernel
theorem dX2_lay_27 : decode cX2_lay 27 = .ok (.aload_n 0, 1) := by decide +kernel
theorem dX2_lay_28 : decode cX2_lay 28 = .ok (.getfield 19, 3) := by decide +kernel
theorem dX2_lay_31 : decode cX2_lay 31 = .ok (.getfield 36, 3) := by decide +kernel
theorem dX2_lay_34 : decode cX2_lay 34 = .ok (.istore 6, 2) := by decide +kernel
theorem dX2_lay_36 : decode cX2_lay 36 = .ok (.iload 6, 2) := by decide +kernel
theorem dX2_lay_38 : decode cX2_lay 38 = .ok (.ifCond .lt 37, 3) := by decide +kernel
theorem dX2_lay_41 : decode cX2_lay 41 = .ok (.aload_n 0, 1) := by decide +kernel
theorem dX2_lay_42 : decode cX2_lay 42 = .ok (.getfield 23, 3) := by decide +kernel
theorem dX2_lay_45 : decode cX2_lay 45 = .ok (.getfield 36, 3) := by decide +kernel
theorem dX2_lay_48 : decode cX2_lay 48 = .ok (.istore 7, 2) := by decide +kernel
theorem dX2_lay_50 : decode cX2_lay 50 = .ok (.iload 7, 2) := by decide +kernel
theorem dX2_lay_52 : decode cX2_lay 52 = .ok (.ifCond .lt 17, 3) := by decide +kernel
theorem dX2_lay_55 : decode cX2_lay 55 = .ok (.aload_n 0, 1) := by decide +kernel
theorem dX2_lay_56 : decode cX2_lay 56 = .ok (.iload 6, 2) := by decide +kernel
theorem dX2_lay_58 : decode cX2_lay 58 = .ok (.iload 7, 2) := by decide +kernel
theorem dX2_lay_60 : decode cX2_lay 60 = .ok (.invokevirtual 41, 3) := by decide +kernel
theorem dX2_lay_63 : decode cX2_lay 63 = .ok (.iinc 7 (-1), 3) := by decide +kernel
theorem dX2_lay_66 : decode cX2_lay 66 = .ok (.goto (-16), 3) := by decide +kernel
theorem dX2_lay_69 : decode cX2_lay 69 = .ok (.iinc 6 (-1), 3) := by decide +kernel
theorem dX2_lay_72 : decode cX2_lay 72 = .ok (.goto (-36), 3) := by decide +kernel
theorem dX2_lay_75 : decode cX2_lay 75 = .ok (.return_, 1) := by decide +kernel
theorem dX2_leastCost_0 : decode cX2_leastCost 0 = .ok (.aload_n 0, 1) := by decide +kernel
theorem dX2_leastCost_1 : decode cX2_leastCost 1 = .ok (.getfield 11, 3) := by decide +kernel
theorem dX2_leastCost_4 : decode cX2_leastCost 4 = .ok (.iconst 0, 1) := by decide +kernel
theorem dX2_leastCost_5 : decode cX2_leastCost 5 = .ok (.iaload, 1) := by decide +kernel
theorem dX2_leastCost_6 : decode cX2_leastCost 6 = .ok (.ireturn, 1) := by decide +kernel
theorem dX2_leastWays_0 : decode cX2_leastWays 0 = .ok (.aload_n 0, 1) := by decide +kernel
theorem dX2_leastWays_1 : decode cX2_leastWays 1 = .ok (.getfield 15, 3) := by decide +kernel
theorem dX2_leastWays_4 : decode cX2_leastWays 4 = .ok (.iconst 0, 1) := by decide +kernel
theorem dX2_leastWays_5 : decode cX2_leastWays 5 = .ok (.laload, 1) := by decide +kernel
theorem dX2_leastWays_6 : decode cX2_leastWays 6 = .ok (.lreturn, 1) := by decide +kernel
theorem dX2_beside_0 : decode cX2_beside 0 = .ok (.iconst 0, 1) := by decide +kernel
theorem dX2_beside_1 : decode cX2_beside 1 = .ok (.istore_n 2, 1) := by decide +kernel
theorem dX2_beside_2 : decode cX2_beside 2 = .ok (.bipush (-9), 2) := by decide +kernel
theorem dX2_beside_4 : decode cX2_beside 4 = .ok (.istore_n 3, 1) := by decide +kernel
theorem dX2_beside_5 : decode cX2_beside 5 = .ok (.iconst 0, 1) := by decide +kernel
theorem dX2_beside_6 : decode cX2_beside 6 = .ok (.istore 4, 2) := by decide +kernel
theorem dX2_beside_8 : decode cX2_beside 8 = .ok (.iload 4, 2) := by decide +kernel
theorem dX2_beside_10 : decode cX2_beside 10 = .ok (.iload_n 1, 1) := by decide +kernel
theorem dX2_beside_11 : decode cX2_beside 11 = .ok (.if_icmp .gt 27, 3) := by decide +kernel
theorem dX2_beside_14 : decode cX2_beside 14 = .ok (.aload_n 0, 1) := by decide +kernel
theorem dX2_beside_15 : decode cX2_beside 15 = .ok (.iload 4, 2) := by decide +kernel
theorem dX2_beside_17 : decode cX2_beside 17 = .ok (.iload_n 2, 1) := by decide +kernel
theorem dX2_beside_18 : decode cX2_beside 18 = .ok (.invokevirtual 45, 3) := by decide +kernel
theorem dX2_beside_21 : decode cX2_beside 21 = .ok (.istore_n 3, 1) := by decide +kernel
theorem dX2_beside_22 : decode cX2_beside 22 = .ok (.iload_n 3, 1) := by decide +kernel
theorem dX2_beside_23 : decode cX2_beside 23 = .ok (.bipush (-9), 2) := by decide +kernel
theorem dX2_beside_25 : decode cX2_beside 25 = .ok (.if_icmp .eq 7, 3) := by decide +kernel
theorem dX2_beside_28 : decode cX2_beside 28 = .ok (.iload_n 3, 1) := by decide +kernel
theorem dX2_beside_29 : decode cX2_beside 29 = .ok (.iconst 1, 1) := by decide +kernel
theorem dX2_beside_30 : decode cX2_beside 30 = .ok (.iadd, 1) := by decide +kernel
theorem dX2_beside_31 : decode cX2_beside 31 = .ok (.istore_n 2, 1) := by decide +kernel
theorem dX2_beside_32 : decode cX2_beside 32 = .ok (.iinc 4 1, 3) := by decide +kernel
theorem dX2_beside_35 : decode cX2_beside 35 = .ok (.goto (-27), 3) := by decide +kernel
theorem dX2_beside_38 : decode cX2_beside 38 = .ok (.iload_n 3, 1) := by decide +kernel
theorem dX2_beside_39 : decode cX2_beside 39 = .ok (.ireturn, 1) := by decide +kernel
theorem dX2_nearest_0 : decode cX2_nearest 0 = .ok (.iload_n 2, 1) := by decide +kernel
theorem dX2_nearest_1 : decode cX2_nearest 1 = .ok (.istore_n 3, 1) := by decide +kernel
theorem dX2_nearest_2 : decode cX2_nearest 2 = .ok (.iload_n 3, 1) := by decide +kernel
theorem dX2_nearest_3 : decode cX2_nearest 3 = .ok (.aload_n 0, 1) := by decide +kernel
theorem dX2_nearest_4 : decode cX2_nearest 4 = .ok (.getfield 23, 3) := by decide +kernel
theorem dX2_nearest_7 : decode cX2_nearest 7 = .ok (.getfield 36, 3) := by decide +kernel
theorem dX2_nearest_10 : decode cX2_nearest 10 = .ok (.if_icmp .ge 41, 3) := by decide +kernel
theorem dX2_nearest_13 : decode cX2_nearest 13 = .ok (.aload_n 0, 1) := by decide +kernel
theorem dX2_nearest_14 : decode cX2_nearest 14 = .ok (.iload_n 1, 1) := by decide +kernel
theorem dX2_nearest_15 : decode cX2_nearest 15 = .ok (.iload_n 3, 1) := by decide +kernel
theorem dX2_nearest_16 : decode cX2_nearest 16 = .ok (.invokevirtual 49, 3) := by decide +kernel
theorem dX2_nearest_19 : decode cX2_nearest 19 = .ok (.ifCond .eq 26, 3) := by decide +kernel
theorem dX2_nearest_22 : decode cX2_nearest 22 = .ok (.aload_n 0, 1) := by decide +kernel
theorem dX2_nearest_23 : decode cX2_nearest 23 = .ok (.iload_n 1, 1) := by decide +kernel
theorem dX2_nearest_24 : decode cX2_nearest 24 = .ok (.iload_n 3, 1) := by decide +kernel
theorem dX2_nearest_25 : decode cX2_nearest 25 = .ok (.iload_n 2, 1) := by decide +kernel
theorem dX2_nearest_26 : decode cX2_nearest 26 = .ok (.invokevirtual 53, 3) := by decide +kernel
theorem dX2_nearest_29 : decode cX2_nearest 29 = .ok (.aload_n 0, 1) := by decide +kernel
theorem dX2_nearest_30 : decode cX2_nearest 30 = .ok (.getfield 11, 3) := by decide +kernel
theorem dX2_nearest_33 : decode cX2_nearest 33 = .ok (.iload_n 1, 1) := by decide +kernel
theorem dX2_nearest_34 : decode cX2_nearest 34 = .ok (.bipush 11, 2) := by decide +kernel
theorem dX2_nearest_36 : decode cX2_nearest 36 = .ok (.imul, 1) := by decide +kernel
theorem dX2_nearest_37 : decode cX2_nearest 37 = .ok (.iload_n 2, 1) := by decide +kernel
theorem dX2_nearest_38 : decode cX2_nearest 38 = .ok (.iadd, 1) := by decide +kernel
theorem dX2_nearest_39 : decode cX2_nearest 39 = .ok (.iaload, 1) := by decide +kernel
theorem dX2_nearest_40 : decode cX2_nearest 40 = .ok (.if_icmp .ne 5, 3) := by decide +kernel
theorem dX2_nearest_43 : decode cX2_nearest 43 = .ok (.iload_n 3, 1) := by decide +kernel
theorem dX2_nearest_44 : decode cX2_nearest 44 = .ok (.ireturn, 1) := by decide +kernel
theorem dX2_nearest_45 : decode cX2_nearest 45 = .ok (.iinc 3 1, 3) := by decide +kernel
theorem dX2_nearest_48 : decode cX2_nearest 48 = .ok (.goto (-46), 3) := by decide +kernel
theorem dX2_nearest_51 : decode cX2_nearest 51 = .ok (.bipush (-9), 2) := by decide +kernel
theorem dX2_nearest_53 : decode cX2_nearest 53 = .ok (.ireturn, 1) := by decide +kernel
theorem dX2_fill_0 : decode cX2_fill 0 = .ok (.iload_n 1, 1) := by decide +kernel
theorem dX2_fill_1 : decode cX2_fill 1 = .ok (.bipush 11, 2) := by decide +kernel
theorem dX2_fill_3 : decode cX2_fill 3 = .ok (.imul, 1) := by decide +kernel
theorem dX2_fill_4 : decode cX2_fill 4 = .ok (.iload_n 2, 1) := by decide +kernel
theorem dX2_fill_5 : decode cX2_fill 5 = .ok (.iadd, 1) := by decide +kernel
theorem dX2_fill_6 : decode cX2_fill 6 = .ok (.istore_n 3, 1) := by decide +kernel
theorem dX2_fill_7 : decode cX2_fill 7 = .ok (.iload_n 1, 1) := by decide +kernel
theorem dX2_fill_8 : decode cX2_fill 8 = .ok (.aload_n 0, 1) := by decide +kernel
theorem dX2_fill_9 : decode cX2_fill 9 = .ok (.getfield 19, 3) := by decide +kernel
theorem dX2_fill_12 : decode cX2_fill 12 = .ok (.getfield 36, 3) := by decide +kernel
theorem dX2_fill_15 : decode cX2_fill 15 = .ok (.if_icmp .ne 31, 3) := by decide +kernel
theorem dX2_fill_18 : decode cX2_fill 18 = .ok (.aload_n 0, 1) := by decide +kernel
theorem dX2_fill_19 : decode cX2_fill 19 = .ok (.getfield 11, 3) := by decide +kernel
theorem dX2_fill_22 : decode cX2_fill 22 = .ok (.iload_n 3, 1) := by decide +kernel
theorem dX2_fill_23 : decode cX2_fill 23 = .ok (.aload_n 0, 1) := by decide +kernel
theorem dX2_fill_24 : decode cX2_fill 24 = .ok (.getfield 29, 3) := by decide +kernel
theorem dX2_fill_27 : decode cX2_fill 27 = .ok (.aload_n 0, 1) := by decide +kernel
theorem dX2_fill_28 : decode cX2_fill 28 = .ok (.getfield 23, 3) := by decide +kernel
theorem dX2_fill_31 : decode cX2_fill 31 = .ok (.getfield 36, 3) := by decide +kernel
theorem dX2_fill_34 : decode cX2_fill 34 = .ok (.iload_n 2, 1) := by decide +kernel
theorem dX2_fill_35 : decode cX2_fill 35 = .ok (.isub, 1) := by decide +kernel
theorem dX2_fill_36 : decode cX2_fill 36 = .ok (.imul, 1) := by decide +kernel
theorem dX2_fill_37 : decode cX2_fill 37 = .ok (.iastore, 1) := by decide +kernel
theorem dX2_fill_38 : decode cX2_fill 38 = .ok (.aload_n 0, 1) := by decide +kernel
theorem dX2_fill_39 : decode cX2_fill 39 = .ok (.getfield 15, 3) := by decide +kernel
theorem dX2_fill_42 : decode cX2_fill 42 = .ok (.iload_n 3, 1) := by decide +kernel
theorem dX2_fill_43 : decode cX2_fill 43 = .ok (.lconst 1, 1) := by decide +kernel
theorem dX2_fill_44 : decode cX2_fill 44 = .ok (.lastore, 1) := by decide +kernel
theorem dX2_fill_45 : decode cX2_fill 45 = .ok (.return_, 1) := by decide +kernel
theorem dX2_fill_46 : decode cX2_fill 46 = .ok (.aload_n 0, 1) := by decide +kernel
theorem dX2_fill_47 : decode cX2_fill 47 = .ok (.getfield 29, 3) := by decide +kernel
theorem dX2_fill_50 : decode cX2_fill 50 = .ok (.aload_n 0, 1) := by decide +kernel
theorem dX2_fill_51 : decode cX2_fill 51 = .ok (.getfield 11, 3) := by decide +kernel
theorem dX2_fill_54 : decode cX2_fill 54 = .ok (.iload_n 3, 1) := by decide +kernel
theorem dX2_fill_55 : decode cX2_fill 55 = .ok (.bipush 11, 2) := by decide +kernel
theorem dX2_fill_57 : decode cX2_fill 57 = .ok (.iadd, 1) := by decide +kernel
theorem dX2_fill_58 : decode cX2_fill 58 = .ok (.iaload, 1) := by decide +kernel
theorem dX2_fill_59 : decode cX2_fill 59 = .ok (.iadd, 1) := by decide +kernel
theorem dX2_fill_60 : decode cX2_fill 60 = .ok (.istore 4, 2) := by decide +kernel
theorem dX2_fill_62 : decode cX2_fill 62 = .ok (.aload_n 0, 1) := by decide +kernel
theorem dX2_fill_63 : decode cX2_fill 63 = .ok (.getfield 15, 3) := by decide +kernel
theorem dX2_fill_66 : decode cX2_fill 66 = .ok (.iload_n 3, 1) := by decide +kernel
theorem dX2_fill_67 : decode cX2_fill 67 = .ok (.bipush 11, 2) := by decide +kernel
theorem dX2_fill_69 : decode cX2_fill 69 = .ok (.iadd, 1) := by decide +kernel
theorem dX2_fill_70 : decode cX2_fill 70 = .ok (.laload, 1) := by decide +kernel
theorem dX2_fill_71 : decode cX2_fill 71 = .ok (.lstore 5, 2) := by decide +kernel
theorem dX2_fill_73 : decode cX2_fill 73 = .ok (.iload_n 2, 1) := by decide +kernel
theorem dX2_fill_74 : decode cX2_fill 74 = .ok (.istore 7, 2) := by decide +kernel
theorem dX2_fill_76 : decode cX2_fill 76 = .ok (.iload 7, 2) := by decide +kernel
theorem dX2_fill_78 : decode cX2_fill 78 = .ok (.aload_n 0, 1) := by decide +kernel
theorem dX2_fill_79 : decode cX2_fill 79 = .ok (.getfield 23, 3) := by decide +kernel
theorem dX2_fill_82 : decode cX2_fill 82 = .ok (.getfield 36, 3) := by decide +kernel
theorem dX2_fill_85 : decode cX2_fill 85 = .ok (.if_icmp .ge 74, 3) := by decide +kernel
theorem dX2_fill_88 : decode cX2_fill 88 = .ok (.aload_n 0, 1) := by decide +kernel
theorem dX2_fill_89 : decode cX2_fill 89 = .ok (.iload_n 1, 1) := by decide +kernel
theorem dX2_fill_90 : decode cX2_fill 90 = .ok (.iload 7, 2) := by decide +kernel
theorem dX2_fill_92 : decode cX2_fill 92 = .ok (.invokevirtual 49, 3) := by decide +kernel
theorem dX2_fill_95 : decode cX2_fill 95 = .ok (.ifCond .ne 6, 3) := by decide +kernel
theorem dX2_fill_98 : decode cX2_fill 98 = .ok (.goto 55, 3) := by decide +kernel
theorem dX2_fill_101 : decode cX2_fill 101 = .ok (.aload_n 0, 1) := by decide +kernel
theorem dX2_fill_102 : decode cX2_fill 102 = .ok (.iload_n 1, 1) := by decide +kernel
theorem dX2_fill_103 : decode cX2_fill 103 = .ok (.iload 7, 2) := by decide +kernel
theorem dX2_fill_105 : decode cX2_fill 105 = .ok (.iload_n 2, 1) := by decide +kernel
theorem dX2_fill_106 : decode cX2_fill 106 = .ok (.invokevirtual 53, 3) := by decide +kernel
theorem dX2_fill_109 : decode cX2_fill 109 = .ok (.istore 8, 2) := by decide +kernel
theorem dX2_fill_111 : decode cX2_fill 111 = .ok (.iload 8, 2) := by decide +kernel
theorem dX2_fill_113 : decode cX2_fill 113 = .ok (.iload 4, 2) := by decide +kernel
theorem dX2_fill_115 : decode cX2_fill 115 = .ok (.if_icmp .ge 10, 3) := by decide +kernel
theorem dX2_fill_118 : decode cX2_fill 118 = .ok (.iload 8, 2) := by decide +kernel
theorem dX2_fill_120 : decode cX2_fill 120 = .ok (.istore 4, 2) := by decide +kernel
theorem dX2_fill_122 : decode cX2_fill 122 = .ok (.lconst 0, 1) := by decide +kernel
theorem dX2_fill_123 : decode cX2_fill 123 = .ok (.lstore 5, 2) := by decide +kernel
theorem dX2_fill_125 : decode cX2_fill 125 = .ok (.iload 8, 2) := by decide +kernel
theorem dX2_fill_127 : decode cX2_fill 127 = .ok (.iload 4, 2) := by decide +kernel
theorem dX2_fill_129 : decode cX2_fill 129 = .ok (.if_icmp .ne 24, 3) := by decide +kernel
theorem dX2_fill_132 : decode cX2_fill 132 = .ok (.lload 5, 2) := by decide +kernel
theorem dX2_fill_134 : decode cX2_fill 134 = .ok (.aload_n 0, 1) := by decide +kernel
theorem dX2_fill_135 : decode cX2_fill 135 = .ok (.getfield 15, 3) := by decide +kernel
theorem dX2_fill_138 : decode cX2_fill 138 = .ok (.iload_n 1, 1) := by decide +kernel
theorem dX2_fill_139 : decode cX2_fill 139 = .ok (.iconst 1, 1) := by decide +kernel
theorem dX2_fill_140 : decode cX2_fill 140 = .ok (.iadd, 1) := by decide +kernel
theorem dX2_fill_141 : decode cX2_fill 141 = .ok (.bipush 11, 2) := by decide +kernel
theorem dX2_fill_143 : decode cX2_fill 143 = .ok (.imul, 1) := by decide +kernel
theorem dX2_fill_144 : decode cX2_fill 144 = .ok (.iload 7, 2) := by decide +kernel
theorem dX2_fill_146 : decode cX2_fill 146 = .ok (.iadd, 1) := by decide +kernel
theorem dX2_fill_147 : decode cX2_fill 147 = .ok (.iconst 1, 1) := by decide +kernel
theorem dX2_fill_148 : decode cX2_fill 148 = .ok (.iadd, 1) := by decide +kernel
theorem dX2_fill_149 : decode cX2_fill 149 = .ok (.laload, 1) := by decide +kernel
theorem dX2_fill_150 : decode cX2_fill 150 = .ok (.ladd, 1) := by decide +kernel
theorem dX2_fill_151 : decode cX2_fill 151 = .ok (.lstore 5, 2) := by decide +kernel
theorem dX2_fill_153 : decode cX2_fill 153 = .ok (.iinc 7 1, 3) := by decide +kernel
theorem dX2_fill_156 : decode cX2_fill 156 = .ok (.goto (-80), 3) := by decide +kernel
theorem dX2_fill_159 : decode cX2_fill 159 = .ok (.aload_n 0, 1) := by decide +kernel
theorem dX2_fill_160 : decode cX2_fill 160 = .ok (.getfield 11, 3) := by decide +kernel
theorem dX2_fill_163 : decode cX2_fill 163 = .ok (.iload_n 3, 1) := by decide +kernel
theorem dX2_fill_164 : decode cX2_fill 164 = .ok (.iload 4, 2) := by decide +kernel
theorem dX2_fill_166 : decode cX2_fill 166 = .ok (.iastore, 1) := by decide +kernel
theorem dX2_fill_167 : decode cX2_fill 167 = .ok (.aload_n 0, 1) := by decide +kernel
theorem dX2_fill_168 : decode cX2_fill 168 = .ok (.getfield 15, 3) := by decide +kernel
theorem dX2_fill_171 : decode cX2_fill 171 = .ok (.iload_n 3, 1) := by decide +kernel
theorem dX2_fill_172 : decode cX2_fill 172 = .ok (.lload 5, 2) := by decide +kernel
theorem dX2_fill_174 : decode cX2_fill 174 = .ok (.lastore, 1) := by decide +kernel
theorem dX2_fill_175 : decode cX2_fill 175 = .ok (.return_, 1) := by decide +kernel
theorem dX2_isSame_0 : decode cX2_isSame 0 = .ok (.aload_n 0, 1) := by decide +kernel
theorem dX2_isSame_1 : decode cX2_isSame 1 = .ok (.getfield 26, 3) := by decide +kernel
theorem dX2_isSame_4 : decode cX2_isSame 4 = .ok (.aload_n 0, 1) := by decide +kernel
theorem dX2_isSame_5 : decode cX2_isSame 5 = .ok (.getfield 19, 3) := by decide +kernel
theorem dX2_isSame_8 : decode cX2_isSame 8 = .ok (.getfield 57, 3) := by decide +kernel
theorem dX2_isSame_11 : decode cX2_isSame 11 = .ok (.iload_n 1, 1) := by decide +kernel
theorem dX2_isSame_12 : decode cX2_isSame 12 = .ok (.iaload, 1) := by decide +kernel
theorem dX2_isSame_13 : decode cX2_isSame 13 = .ok (.iaload, 1) := by decide +kernel
theorem dX2_isSame_14 : decode cX2_isSame 14 = .ok (.aload_n 0, 1) := by decide +kernel
theorem dX2_isSame_15 : decode cX2_isSame 15 = .ok (.getfield 23, 3) := by decide +kernel
theorem dX2_isSame_18 : decode cX2_isSame 18 = .ok (.getfield 57, 3) := by decide +kernel
theorem dX2_isSame_21 : decode cX2_isSame 21 = .ok (.iload_n 2, 1) := by decide +kernel
theorem dX2_isSame_22 : decode cX2_isSame 22 = .ok (.iaload, 1) := by decide +kernel
theorem dX2_isSame_23 : decode cX2_isSame 23 = .ok (.ishr, 1) := by decide +kernel
theorem dX2_isSame_24 : decode cX2_isSame 24 = .ok (.iconst 1, 1) := by decide +kernel
theorem dX2_isSame_25 : decode cX2_isSame 25 = .ok (.iand, 1) := by decide +kernel
theorem dX2_isSame_26 : decode cX2_isSame 26 = .ok (.ifCond .eq 7, 3) := by decide +kernel
theorem dX2_isSame_29 : decode cX2_isSame 29 = .ok (.iconst 1, 1) := by decide +kernel
theorem dX2_isSame_30 : decode cX2_isSame 30 = .ok (.goto 4, 3) := by decide +kernel
theorem dX2_isSame_33 : decode cX2_isSame 33 = .ok (.iconst 0, 1) := by decide +kernel
theorem dX2_isSame_34 : decode cX2_isSame 34 = .ok (.ireturn, 1) := by decide +kernel
theorem dX2_costBeside_0 : decode cX2_costBeside 0 = .ok (.aload_n 0, 1) := by decide +kernel
theorem dX2_costBeside_1 : decode cX2_costBeside 1 = .ok (.getfield 19, 3) := by decide +kernel
theorem dX2_costBeside_4 : decode cX2_costBeside 4 = .ok (.getfield 60, 3) := by decide +kernel
theorem dX2_costBeside_7 : decode cX2_costBeside 7 = .ok (.iload_n 1, 1) := by decide +kernel
theorem dX2_costBeside_8 : decode cX2_costBeside 8 = .ok (.iaload, 1) := by decide +kernel
theorem dX2_costBeside_9 : decode cX2_costBeside 9 = .ok (.aload_n 0, 1) := by decide +kernel
theorem dX2_costBeside_10 : decode cX2_costBeside 10 = .ok (.getfield 23, 3) := by decide +kernel
theorem dX2_costBeside_13 : decode cX2_costBeside 13 = .ok (.getfield 60, 3) := by decide +kernel
theorem dX2_costBeside_16 : decode cX2_costBeside 16 = .ok (.iload_n 2, 1) := by decide +kernel
theorem dX2_costBeside_17 : decode cX2_costBeside 17 = .ok (.iaload, 1) := by decide +kernel
theorem dX2_costBeside_18 : decode cX2_costBeside 18 = .ok (.isub, 1) := by decide +kernel
theorem dX2_costBeside_19 : decode cX2_costBeside 19 = .ok (.invokestatic 63, 3) := by decide +kernel
theorem dX2_costBeside_22 : decode cX2_costBeside 22 = .ok (.istore 4, 2) := by decide +kernel
theorem dX2_costBeside_24 : decode cX2_costBeside 24 = .ok (.aload_n 0, 1) := by decide +kernel
theorem dX2_costBeside_25 : decode cX2_costBeside 25 = .ok (.getfield 29, 3) := by decide +kernel
theorem dX2_costBeside_28 : decode cX2_costBeside 28 = .ok (.iload_n 2, 1) := by decide +kernel
theorem dX2_costBeside_29 : decode cX2_costBeside 29 = .ok (.iload_n 3, 1) := by decide +kernel
theorem dX2_costBeside_30 : decode cX2_costBeside 30 = .ok (.isub, 1) := by decide +kernel
theorem dX2_costBeside_31 : decode cX2_costBeside 31 = .ok (.imul, 1) := by decide +kernel
theorem dX2_costBeside_32 : decode cX2_costBeside 32 = .ok (.aload_n 0, 1) := by decide +kernel
theorem dX2_costBeside_33 : decode cX2_costBeside 33 = .ok (.getfield 33, 3) := by decide +kernel
theorem dX2_costBeside_36 : decode cX2_costBeside 36 = .ok (.iload 4, 2) := by decide +kernel
theorem dX2_costBeside_38 : decode cX2_costBeside 38 = .ok (.imul, 1) := by decide +kernel
theorem dX2_costBeside_39 : decode cX2_costBeside 39 = .ok (.iadd, 1) := by decide +kernel
theorem dX2_costBeside_40 : decode cX2_costBeside 40 = .ok (.aload_n 0, 1) := by decide +kernel
theorem dX2_costBeside_41 : decode cX2_costBeside 41 = .ok (.getfield 11, 3) := by decide +kernel
theorem dX2_costBeside_44 : decode cX2_costBeside 44 = .ok (.iload_n 1, 1) := by decide +kernel
theorem dX2_costBeside_45 : decode cX2_costBeside 45 = .ok (.iconst 1, 1) := by decide +kernel
theorem dX2_costBeside_46 : decode cX2_costBeside 46 = .ok (.iadd, 1) := by decide +kernel
theorem dX2_costBeside_47 : decode cX2_costBeside 47 = .ok (.bipush 11, 2) := by decide +kernel
theorem dX2_costBeside_49 : decode cX2_costBeside 49 = .ok (.imul, 1) := by decide +kernel
theorem dX2_costBeside_50 : decode cX2_costBeside 50 = .ok (.iload_n 2, 1) := by decide +kernel
theorem dX2_costBeside_51 : decode cX2_costBeside 51 = .ok (.iadd, 1) := by decide +kernel
theorem dX2_costBeside_52 : decode cX2_costBeside 52 = .ok (.iconst 1, 1) := by decide +kernel
theorem dX2_costBeside_53 : decode cX2_costBeside 53 = .ok (.iadd, 1) := by decide +kernel
theorem dX2_costBeside_54 : decode cX2_costBeside 54 = .ok (.iaload, 1) := by decide +kernel
theorem dX2_costBeside_55 : decode cX2_costBeside 55 = .ok (.iadd, 1) := by decide +kernel
theorem dX2_costBeside_56 : decode cX2_costBeside 56 = .ok (.ireturn, 1) := by decide +kernel
theorem dX3_init_0 : decode cX3_init 0 = .ok (.aload_n 0, 1) := by decide +kernel
theorem dX3_init_1 : decode cX3_init 1 = .ok (.invokespecial 3, 3) := by decide +kernel
theorem dX3_init_4 : decode cX3_init 4 = .ok (.aload_n 0, 1) := by decide +kernel
theorem dX3_init_5 : decode cX3_init 5 = .ok (.bipush 40, 2) := by decide +kernel
theorem dX3_init_7 : decode cX3_init 7 = .ok (.newarray .int, 2) := by decide +kernel
theorem dX3_init_9 : decode cX3_init 9 = .ok (.putfield 9, 3) := by decide +kernel
theorem dX3_init_12 : decode cX3_init 12 = .ok (.aload_n 0, 1) := by decide +kernel
theorem dX3_init_13 : decode cX3_init 13 = .ok (.bipush 40, 2) := by decide +kernel
theorem dX3_init_15 : decode cX3_init 15 = .ok (.newarray .int, 2) := by decide +kernel
theorem dX3_init_17 : decode cX3_init 17 = .ok (.putfield 15, 3) := by decide +kernel
theorem dX3_init_20 : decode cX3_init 20 = .ok (.aload_n 0, 1) := by decide +kernel
theorem dX3_init_21 : decode cX3_init 21 = .ok (.bipush 40, 2) := by decide +kernel
theorem dX3_init_23 : decode cX3_init 23 = .ok (.newarray .int, 2) := by decide +kernel
theorem dX3_init_25 : decode cX3_init 25 = .ok (.putfield 18, 3) := by decide +kernel
theorem dX3_init_28 : decode cX3_init 28 = .ok (.aload_n 0, 1) := by decide +kernel
theorem dX3_init_29 : decode cX3_init 29 = .ok (.bipush 40, 2) := by decide +kernel
theorem dX3_init_31 : decode cX3_init 31 = .ok (.newarray .int, 2) := by decide +kernel
theorem dX3_init_33 : decode cX3_init 33 = .ok (.putfield 21, 3) := by decide +kernel
theorem dX3_init_36 : decode cX3_init 36 = .ok (.aload_n 0, 1) := by decide +kernel
theorem dX3_init_37 : decode cX3_init 37 = .ok (.bipush 64, 2) := by decide +kernel
theorem dX3_init_39 : decode cX3_init 39 = .ok (.newarray .byte, 2) := by decide +kernel
theorem dX3_init_41 : decode cX3_init 41 = .ok (.putfield 24, 3) := by decide +kernel
theorem dX3_init_44 : decode cX3_init 44 = .ok (.aload_n 0, 1) := by decide +kernel
theorem dX3_init_45 : decode cX3_init 45 = .ok (.iconst 4, 1) := by decide +kernel
theorem dX3_init_46 : decode cX3_init 46 = .ok (.newarray .int, 2) := by decide +kernel
theorem dX3_init_48 : decode cX3_init 48 = .ok (.putfield 28, 3) := by decide +kernel
theorem dX3_init_51 : decode cX3_init 51 = .ok (.aload_n 0, 1) := by decide +kernel
theorem dX3_init_52 : decode cX3_init 52 = .ok (.iconst 4, 1) := by decide +kernel
theorem dX3_init_53 : decode cX3_init 53 = .ok (.newarray .int, 2) := by decide +kernel
theorem dX3_init_55 : decode cX3_init 55 = .ok (.putfield 31, 3) := by decide +kernel
theorem dX3_init_58 : decode cX3_init 58 = .ok (.aload_n 0, 1) := by decide +kernel
theorem dX3_init_59 : decode cX3_init 59 = .ok (.iconst 4, 1) := by decide +kernel
theorem dX3_init_60 : decode cX3_init 60 = .ok (.newarray .int, 2) := by decide +kernel
theorem dX3_init_62 : decode cX3_init 62 = .ok (.putfield 34, 3) := by decide +kernel
theorem dX3_init_65 : decode cX3_init 65 = .ok (.aload_n 0, 1) := by decide +kernel
theorem dX3_init_66 : decode cX3_init 66 = .ok (.bipush 12, 2) := by decide +kernel
theorem dX3_init_68 : decode cX3_init 68 = .ok (.newarray .int, 2) := by decide +kernel
theorem dX3_init_70 : decode cX3_init 70 = .ok (.putfield 37, 3) := by decide +kernel
theorem dX3_init_73 : decode cX3_init 73 = .ok (.aload_n 0, 1) := by decide +kernel
theorem dX3_init_74 : decode cX3_init 74 = .ok (.bipush 12, 2) := by decide +kernel
theorem dX3_init_76 : decode cX3_init 76 = .ok (.newarray .int, 2) := by decide +kernel
theorem dX3_init_78 : decode cX3_init 78 = .ok (.putfield 40, 3) := by decide +kernel
theorem dX3_init_81 : decode cX3_init 81 = .ok (.return_, 1) := by decide +kernel
theorem dX3_find_0 : decode cX3_find 0 = .ok (.aload_n 0, 1) := by decide +kernel
theorem dX3_find_1 : decode cX3_find 1 = .ok (.aload_n 1, 1) := by decide +kernel
theorem dX3_find_2 : decode cX3_find 2 = .ok (.putfield 43, 3) := by decide +kernel
theorem dX3_find_5 : decode cX3_find 5 = .ok (.aload_n 0, 1) := by decide +kernel
theorem dX3_find_6 : decode cX3_find 6 = .ok (.aload_n 2, 1) := by decide +kernel
theorem dX3_find_7 : decode cX3_find 7 = .ok (.putfield 47, 3) := by decide +kernel
theorem dX3_find_10 : decode cX3_find 10 = .ok (.iconst 1, 1) := by decide +kernel
theorem dX3_find_11 : decode cX3_find 11 = .ok (.istore_n 3, 1) := by decide +kernel
theorem dX3_find_12 : decode cX3_find 12 = .ok (.iconst 0, 1) := by decide +kernel
theorem dX3_find_13 : decode cX3_find 13 = .ok (.istore 4, 2) := by decide +kernel
theorem dX3_find_15 : decode cX3_find 15 = .ok (.iload 4, 2) := by decide +kernel
theorem dX3_find_17 : decode cX3_find 17 = .ok (.aload_n 0, 1) := by decide +kernel
theorem dX3_find_18 : decode cX3_find 18 = .ok (.getfield 43, 3) := by decide +kernel
theorem dX3_find_21 : decode cX3_find 21 = .ok (.getfield 50, 3) := by decide +kernel
theorem dX3_find_24 : decode cX3_find 24 = .ok (.if_icmp .ge 35, 3) := by decide +kernel
theorem dX3_find_27 : decode cX3_find 27 = .ok (.aload_n 0, 1) := by decide +kernel
theorem dX3_find_28 : decode cX3_find 28 = .ok (.getfield 28, 3) := by decide +kernel
theorem dX3_find_31 : decode cX3_find 31 = .ok (.iload 4, 2) := by decide +kernel
theorem dX3_find_33 : decode cX3_find 33 = .ok (.iload_n 3, 1) := by decide +kernel
theorem dX3_find_34 : decode cX3_find 34 = .ok (.iastore, 1) := by decide +kernel
theorem dX3_find_35 : decode cX3_find 35 = .ok (.iload_n 3, 1) := by decide +kernel
theorem dX3_find_36 : decode cX3_find 36 = .ok (.aload_n 0, 1) := by decide +kernel
theorem dX3_find_37 : decode cX3_find 37 = .ok (.getfield 43, 3) := by decide +kernel
theorem dX3_find_40 : decode cX3_find 40 = .ok (.getfield 56, 3) := by decide +kernel
theorem dX3_find_43 : decode cX3_find 43 = .ok (.iload 4, 2) := by decide +kernel
theorem dX3_find_45 : decode cX3_find 45 = .ok (.aaload, 1) := by decide +kernel
theorem dX3_find_46 : decode cX3_find 46 = .ok (.getfield 60, 3) := by decide +kernel
theorem dX3_find_49 : decode cX3_find 49 = .ok (.iconst 1, 1) := by decide +kernel
theorem dX3_find_50 : decode cX3_find 50 = .ok (.iadd, 1) := by decide +kernel
theorem dX3_find_51 : decode cX3_find 51 = .ok (.imul, 1) := by decide +kernel
theorem dX3_find_52 : decode cX3_find 52 = .ok (.istore_n 3, 1) := by decide +kernel
theorem dX3_find_53 : decode cX3_find 53 = .ok (.iinc 4 1, 3) := by decide +kernel
theorem dX3_find_56 : decode cX3_find 56 = .ok (.goto (-41), 3) := by decide +kernel
theorem dX3_find_59 : decode cX3_find 59 = .ok (.aload_n 0, 1) := by decide +kernel
theorem dX3_find_60 : decode cX3_find 60 = .ok (.getfield 43, 3) := by decide +kernel
theorem dX3_find_63 : decode cX3_find 63 = .ok (.getfield 50, 3) := by decide +kernel
theorem dX3_find_66 : decode cX3_find 66 = .ok (.ifCond .le 20, 3) := by decide +kernel
theorem dX3_find_69 : decode cX3_find 69 = .ok (.aload_n 0, 1) := by decide +kernel
theorem dX3_find_70 : decode cX3_find 70 = .ok (.getfield 43, 3) := by decide +kernel
theorem dX3_find_73 : decode cX3_find 73 = .ok (.getfield 56, 3) := by decide +kernel
theorem dX3_find_76 : decode cX3_find 76 = .ok (.iconst 0, 1) := by decide +kernel
theorem dX3_find_77 : decode cX3_find 77 = .ok (.aaload, 1) := by decide +kernel
theorem dX3_find_78 : decode cX3_find 78 = .ok (.getfield 60, 3) := by decide +kernel
theorem dX3_find_81 : decode cX3_find 81 = .ok (.iconst 1, 1) := by decide +kernel
theorem dX3_find_82 : decode cX3_find 82 = .ok (.iadd, 1) := by decide +kernel
theorem dX3_find_83 : decode cX3_find 83 = .ok (.goto 4, 3) := by decide +kernel
theorem dX3_find_86 : decode cX3_find 86 = .ok (.iconst 1, 1) := by decide +kernel
theorem dX3_find_87 : decode cX3_find 87 = .ok (.istore 4, 2) := by decide +kernel
theorem dX3_find_89 : decode cX3_find 89 = .ok (.aload_n 0, 1) := by decide +kernel
theorem dX3_find_90 : decode cX3_find 90 = .ok (.iconst 0, 1) := by decide +kernel
theorem dX3_find_91 : decode cX3_find 91 = .ok (.putfield 65, 3) := by decide +kernel
theorem dX3_find_94 : decode cX3_find 94 = .ok (.iload_n 3, 1) := by decide +kernel
theorem dX3_find_95 : decode cX3_find 95 = .ok (.sipush 14641, 3) := by decide +kernel
theorem dX3_find_98 : decode cX3_find 98 = .ok (.if_icmp .gt 15, 3) := by decide +kernel
theorem dX3_find_101 : decode cX3_find 101 = .ok (.iload 4, 2) := by decide +kernel
theorem dX3_find_103 : decode cX3_find 103 = .ok (.iconst 1, 1) := by decide +kernel
theorem dX3_find_104 : decode cX3_find 104 = .ok (.if_icmp .lt 9, 3) := by decide +kernel
theorem dX3_find_107 : decode cX3_find 107 = .ok (.iload 4, 2) := by decide +kernel
theorem dX3_find_109 : decode cX3_find 109 = .ok (.iload_n 3, 1) := by decide +kernel
theorem dX3_find_110 : decode cX3_find 110 = .ok (.if_icmp .le 4, 3) := by decide +kernel
theorem dX3_find_113 : decode cX3_find 113 = .ok (.return_, 1) := by decide +kernel
theorem dX3_find_114 : decode cX3_find 114 = .ok (.aload_n 0, 1) := by decide +kernel
theorem dX3_find_115 : decode cX3_find 115 = .ok (.iload_n 3, 1) := by decide +kernel
theorem dX3_find_116 : decode cX3_find 116 = .ok (.invokevirtual 66, 3) := by decide +kernel
theorem dX3_find_119 : decode cX3_find 119 = .ok (.iload_n 3, 1) := by decide +kernel
theorem dX3_find_120 : decode cX3_find 120 = .ok (.iload 4, 2) := by decide +kernel
theorem dX3_find_122 : decode cX3_find 122 = .ok (.isub, 1) := by decide +kernel
theorem dX3_find_123 : decode cX3_find 123 = .ok (.istore 5, 2) := by decide +kernel
theorem dX3_find_125 : decode cX3_find 125 = .ok (.iload 5, 2) := by decide +kernel
theorem dX3_find_127 : decode cX3_find 127 = .ok (.ifCond .lt 31, 3) := by decide +kernel
theorem dX3_find_130 : decode cX3_find 130 = .ok (.aload_n 0, 1) := by decide +kernel
theorem dX3_find_131 : decode cX3_find 131 = .ok (.iload 5, 2) := by decide +kernel
theorem dX3_find_133 : decode cX3_find 133 = .ok (.invokevirtual 70, 3) := by decide +kernel
theorem dX3_find_136 : decode cX3_find 136 = .ok (.aload_n 0, 1) := by decide +kernel
theorem dX3_find_137 : decode cX3_find 137 = .ok (.invokevirtual 73, 3) := by decide +kernel
theorem dX3_find_140 : decode cX3_find 140 = .ok (.aload_n 0, 1) := by decide +kernel
theorem dX3_find_141 : decode cX3_find 141 = .ok (.iload 5, 2) := by decide +kernel
theorem dX3_find_143 : decode cX3_find 143 = .ok (.iload 4, 2) := by decide +kernel
theorem dX3_find_145 : decode cX3_find 145 = .ok (.invokevirtual 76, 3) := by decide +kernel
theorem dX3_find_148 : decode cX3_find 148 = .ok (.iload 5, 2) := by decide +kernel
theorem dX3_find_150 : decode cX3_find 150 = .ok (.iload 4, 2) := by decide +kernel
theorem dX3_find_152 : decode cX3_find 152 = .ok (.isub, 1) := by decide +kernel
theorem dX3_find_153 : decode cX3_find 153 = .ok (.istore 5, 2) := by decide +kernel
theorem dX3_find_155 : decode cX3_find 155 = .ok (.goto (-30), 3) := by decide +kernel
theorem dX3_find_158 : decode cX3_find 158 = .ok (.aload_n 0, 1) := by decide +kernel
theorem dX3_find_159 : decode cX3_find 159 = .ok (.invokevirtual 80, 3) := by decide +kernel
theorem dX3_find_162 : decode cX3_find 162 = .ok (.return_, 1) := by decide +kernel
theorem dX3_makeRoom_0 : decode cX3_makeRoom 0 = .ok (.iload_n 1, 1) := by decide +kernel
theorem dX3_makeRoom_1 : decode cX3_makeRoom 1 = .ok (.aload_n 0, 1) := by decide +kernel
theorem dX3_makeRoom_2 : decode cX3_makeRoom 2 = .ok (.getfield 24, 3) := by decide +kernel
theorem dX3_makeRoom_5 : decode cX3_makeRoom 5 = .ok (.arraylength, 1) := by decide +kernel
theorem dX3_makeRoom_6 : decode cX3_makeRoom 6 = .ok (.if_icmp .le 26, 3) := by decide +kernel
theorem dX3_makeRoom_9 : decode cX3_makeRoom 9 = .ok (.aload_n 0, 1) := by decide +kernel
theorem dX3_makeRoom_10 : decode cX3_makeRoom 10 = .ok (.sipush 14641, 3) := by decide +kernel
theorem dX3_makeRoom_13 : decode cX3_makeRoom 13 = .ok (.iload_n 1, 1) := by decide +kernel
theorem dX3_makeRoom_14 : decode cX3_makeRoom 14 = .ok (.iconst 2, 1) := by decide +kernel
theorem dX3_makeRoom_15 : decode cX3_makeRoom 15 = .ok (.aload_n 0, 1) := by decide +kernel
theorem dX3_makeRoom_16 : decode cX3_makeRoom 16 = .ok (.getfield 24, 3) := by decide +kernel
theorem dX3_makeRoom_19 : decode cX3_makeRoom 19 = .ok (.arraylength, 1) := by decide +kernel
theorem dX3_makeRoom_20 : decode cX3_makeRoom 20 = .ok (.imul, 1) := by decide +kernel
theorem dX3_makeRoom_21 : decode cX3_makeRoom 21 = .ok (.invokestatic 83, 3) := by decide +kernel
theorem dX3_makeRoom_24 : decode cX3_makeRoom 24 = .ok (.invokestatic 89, 3) := by decide +kernel
theorem dX3_makeRoom_27 : decode cX3_makeRoom 27 = .ok (.newarray .byte, 2) := by decide +kernel
theorem dX3_makeRoom_29 : decode cX3_makeRoom 29 = .ok (.putfield 24, 3) := by decide +kernel
theorem dX3_makeRoom_32 : decode cX3_makeRoom 32 = .ok (.return_, 1) := by decide +kernel
theorem dX3_notIn_0 : decode cX3_notIn 0 = .ok (.iconst 0, 1) := by decide +kernel
theorem dX3_notIn_1 : decode cX3_notIn 1 = .ok (.istore_n 2, 1) := by decide +kernel
theorem dX3_notIn_2 : decode cX3_notIn 2 = .ok (.iconst 0, 1) := by decide +kernel
theorem dX3_notIn_3 : decode cX3_notIn 3 = .ok (.istore_n 3, 1) := by decide +kernel
theorem dX3_notIn_4 : decode cX3_notIn 4 = .ok (.iload_n 3, 1) := by decide +kernel
theorem dX3_notIn_5 : decode cX3_notIn 5 = .ok (.aload_n 0, 1) := by decide +kernel
theorem dX3_notIn_6 : decode cX3_notIn 6 = .ok (.getfield 65, 3) := by decide +kernel
theorem dX3_notIn_9 : decode cX3_notIn 9 = .ok (.if_icmp .ge 23, 3) := by decide +kernel
theorem dX3_notIn_12 : decode cX3_notIn 12 = .ok (.aload_n 0, 1) := by decide +kernel
theorem dX3_notIn_13 : decode cX3_notIn 13 = .ok (.getfield 15, 3) := by decide +kernel
theorem dX3_notIn_16 : decode cX3_notIn 16 = .ok (.iload_n 3, 1) := by decide +kernel
theorem dX3_notIn_17 : decode cX3_notIn 17 = .ok (.iaload, 1) := by decide +kernel
theorem dX3_notIn_18 : decode cX3_notIn 18 = .ok (.iload_n 1, 1) := by decide +kernel
theorem dX3_notIn_19 : decode cX3_notIn 19 = .ok (.iand, 1) := by decide +kernel
theorem dX3_notIn_20 : decode cX3_notIn 20 = .ok (.ifCond .ne 6, 3) := by decide +kernel
theorem dX3_notIn_23 : decode cX3_notIn 23 = .ok (.iinc 2 1, 3) := by decide +kernel
theorem dX3_notIn_26 : decode cX3_notIn 26 = .ok (.iinc 3 1, 3) := by decide +kernel
theorem dX3_notIn_29 : decode cX3_notIn 29 = .ok (.goto (-25), 3) := by decide +kernel
theorem dX3_notIn_32 : decode cX3_notIn 32 = .ok (.iload_n 2, 1) := by decide +kernel
theorem dX3_notIn_33 : decode cX3_notIn 33 = .ok (.ireturn, 1) := by decide +kernel
theorem dX3_findServing_0 : decode cX3_findServing 0 = .ok (.aload_n 0, 1) := by decide +kernel
theorem dX3_findServing_1 : decode cX3_findServing 1 = .ok (.iconst 0, 1) := by decide +kernel
theorem dX3_findServing_2 : decode cX3_findServing 2 = .ok (.putfield 92, 3) := by decide +kernel
theorem dX3_findServing_5 : decode cX3_findServing 5 = .ok (.iconst 0, 1) := by decide +kernel
theorem dX3_findServing_6 : decode cX3_findServing 6 = .ok (.istore_n 1, 1) := by decide +kernel
theorem dX3_findServing_7 : decode cX3_findServing 7 = .ok (.iload_n 1, 1) := by decide +kernel
theorem dX3_findServing_8 : decode cX3_findServing 8 = .ok (.bipush 12, 2) := by decide +kernel
theorem dX3_findServing_10 : decode cX3_findServing 10 = .ok (.if_icmp .ge 50, 3) := by decide +kernel
theorem dX3_findServing_13 : decode cX3_findServing 13 = .ok (.aload_n 0, 1) := by decide +kernel
theorem dX3_findServing_14 : decode cX3_findServing 14 = .ok (.iload_n 1, 1) := by decide +kernel
theorem dX3_findServing_15 : decode cX3_findServing 15 = .ok (.iconst 1, 1) := by decide +kernel
theorem dX3_findServing_16 : decode cX3_findServing 16 = .ok (.invokevirtual 95, 3) := by decide +kernel
theorem dX3_findServing_19 : decode cX3_findServing 19 = .ok (.istore_n 2, 1) := by decide +kernel
theorem dX3_findServing_20 : decode cX3_findServing 20 = .ok (.iload_n 2, 1) := by decide +kernel
theorem dX3_findServing_21 : decode cX3_findServing 21 = .ok (.ifCond .le 33, 3) := by decide +kernel
theorem dX3_findServing_24 : decode cX3_findServing 24 = .ok (.aload_n 0, 1) := by decide +kernel
theorem dX3_findServing_25 : decode cX3_findServing 25 = .ok (.getfield 37, 3) := by decide +kernel
theorem dX3_findServing_28 : decode cX3_findServing 28 = .ok (.aload_n 0, 1) := by decide +kernel
theorem dX3_findServing_29 : decode cX3_findServing 29 = .ok (.getfield 92, 3) := by decide +kernel
theorem dX3_findServing_32 : decode cX3_findServing 32 = .ok (.iload_n 1, 1) := by decide +kernel
theorem dX3_findServing_33 : decode cX3_findServing 33 = .ok (.iastore, 1) := by decide +kernel
theorem dX3_findServing_34 : decode cX3_findServing 34 = .ok (.aload_n 0, 1) := by decide +kernel
theorem dX3_findServing_35 : decode cX3_findServing 35 = .ok (.getfield 40, 3) := by decide +kernel
theorem dX3_findServing_38 : decode cX3_findServing 38 = .ok (.aload_n 0, 1) := by decide +kernel
theorem dX3_findServing_39 : decode cX3_findServing 39 = .ok (.getfield 92, 3) := by decide +kernel
theorem dX3_findServing_42 : decode cX3_findServing 42 = .ok (.iload_n 2, 1) := by decide +kernel
theorem dX3_findServing_43 : decode cX3_findServing 43 = .ok (.iastore, 1) := by decide +kernel
theorem dX3_findServing_44 : decode cX3_findServing 44 = .ok (.aload_n 0, 1) := by decide +kernel
theorem dX3_findServing_45 : decode cX3_findServing 45 = .ok (.dup, 1) := by decide +kernel
theorem dX3_findServing_46 : decode cX3_findServing 46 = .ok (.getfield 92, 3) := by decide +kernel
theorem dX3_findServing_49 : decode cX3_findServing 49 = .ok (.iconst 1, 1) := by decide +kernel
theorem dX3_findServing_50 : decode cX3_findServing 50 = .ok (.iadd, 1) := by decide +kernel
theorem dX3_findServing_51 : decode cX3_findServing 51 = .ok (.putfield 92, 3) := by decide +kernel
theorem dX3_findServing_54 : decode cX3_findServing 54 = .ok (.iinc 1 1, 3) := by decide +kernel
theorem dX3_findServing_57 : decode cX3_findServing 57 = .ok (.goto (-50), 3) := by decide +kernel
theorem dX3_findServing_60 : decode cX3_findServing 60 = .ok (.return_, 1) := by decide +kernel
theorem dX3_fillRow_0 : decode cX3_fillRow 0 = .ok (.iload_n 2, 1) := by decide +kernel
theorem dX3_fillRow_1 : decode cX3_fillRow 1 = .ok (.iconst 1, 1) := by decide +kernel
theorem dX3_fillRow_2 : decode cX3_fillRow 2 = .ok (.isub, 1) := by decide +kernel
theorem dX3_fillRow_3 : decode cX3_fillRow 3 = .ok (.istore_n 3, 1) := by decide +kernel
theorem dX3_fillRow_4 : decode cX3_fillRow 4 = .ok (.iload_n 3, 1) := by decide +kernel
theorem dX3_fillRow_5 : decode cX3_fillRow 5 = .ok (.ifCond .lt 182, 3) := by decide +kernel
theorem dX3_fillRow_8 : decode cX3_fillRow 8 = .ok (.iload_n 1, 1) := by decide +kernel
theorem dX3_fillRow_9 : decode cX3_fillRow 9 = .ok (.iload_n 3, 1) := by decide +kernel
theorem dX3_fillRow_10 : decode cX3_fillRow 10 = .ok (.iadd, 1) := by decide +kernel
theorem dX3_fillRow_11 : decode cX3_fillRow 11 = .ok (.istore 4, 2) := by decide +kernel
theorem dX3_fillRow_13 : decode cX3_fillRow 13 = .ok (.iload_n 3, 1) := by decide +kernel
theorem dX3_fillRow_14 : decode cX3_fillRow 14 = .ok (.iload_n 2, 1) := by decide +kernel
theorem dX3_fillRow_15 : decode cX3_fillRow 15 = .ok (.iconst 1, 1) := by decide +kernel
theorem dX3_fillRow_16 : decode cX3_fillRow 16 = .ok (.isub, 1) := by decide +kernel
theorem dX3_fillRow_17 : decode cX3_fillRow 17 = .ok (.if_icmp .ge 7, 3) := by decide +kernel
theorem dX3_fillRow_20 : decode cX3_fillRow 20 = .ok (.iconst 1, 1) := by decide +kernel
theorem dX3_fillRow_21 : decode cX3_fillRow 21 = .ok (.goto 4, 3) := by decide +kernel
theorem dX3_fillRow_24 : decode cX3_fillRow 24 = .ok (.iconst 0, 1) := by decide +kernel
theorem dX3_fillRow_25 : decode cX3_fillRow 25 = .ok (.istore 5, 2) := by decide +kernel
theorem dX3_fillRow_27 : decode cX3_fillRow 27 = .ok (.iload 5, 2) := by decide +kernel
theorem dX3_fillRow_29 : decode cX3_fillRow 29 = .ok (.ifCond .eq 22, 3) := by decide +kernel
theorem dX3_fillRow_32 : decode cX3_fillRow 32 = .ok (.iconst 1, 1) := by decide +kernel
theorem dX3_fillRow_33 : decode cX3_fillRow 33 = .ok (.aload_n 0, 1) := by decide +kernel
theorem dX3_fillRow_34 : decode cX3_fillRow 34 = .ok (.getfield 43, 3) := by decide +kernel
theorem dX3_fillRow_37 : decode cX3_fillRow 37 = .ok (.getfield 56, 3) := by decide +kernel
theorem dX3_fillRow_40 : decode cX3_fillRow 40 = .ok (.iconst 0, 1) := by decide +kernel
theorem dX3_fillRow_41 : decode cX3_fillRow 41 = .ok (.aaload, 1) := by decide +kernel
theorem dX3_fillRow_42 : decode cX3_fillRow 42 = .ok (.getfield 98, 3) := by decide +kernel
theorem dX3_fillRow_45 : decode cX3_fillRow 45 = .ok (.iload_n 3, 1) := by decide +kernel
theorem dX3_fillRow_46 : decode cX3_fillRow 46 = .ok (.iaload, 1) := by decide +kernel
theorem dX3_fillRow_47 : decode cX3_fillRow 47 = .ok (.ishl, 1) := by decide +kernel
theorem dX3_fillRow_48 : decode cX3_fillRow 48 = .ok (.goto 4, 3) := by decide +kernel
theorem dX3_fillRow_51 : decode cX3_fillRow 51 = .ok (.iconst 0, 1) := by decide +kernel
theorem dX3_fillRow_52 : decode cX3_fillRow 52 = .ok (.istore 6, 2) := by decide +kernel
theorem dX3_fillRow_54 : decode cX3_fillRow 54 = .ok (.iload 5, 2) := by decide +kernel
theorem dX3_fillRow_56 : decode cX3_fillRow 56 = .ok (.ifCond .eq 15, 3) := by decide +kernel
theorem dX3_fillRow_59 : decode cX3_fillRow 59 = .ok (.aload_n 0, 1) := by decide +kernel
theorem dX3_fillRow_60 : decode cX3_fillRow 60 = .ok (.getfield 24, 3) := by decide +kernel
theorem dX3_fillRow_63 : decode cX3_fillRow 63 = .ok (.iload 4, 2) := by decide +kernel
theorem dX3_fillRow_65 : decode cX3_fillRow 65 = .ok (.iconst 1, 1) := by decide +kernel
theorem dX3_fillRow_66 : decode cX3_fillRow 66 = .ok (.iadd, 1) := by decide +kernel
theorem dX3_fillRow_67 : decode cX3_fillRow 67 = .ok (.baload, 1) := by decide +kernel
theorem dX3_fillRow_68 : decode cX3_fillRow 68 = .ok (.goto 5, 3) := by decide +kernel
theorem dX3_fillRow_71 : decode cX3_fillRow 71 = .ok (.bipush 40, 2) := by decide +kernel
theorem dX3_fillRow_73 : decode cX3_fillRow 73 = .ok (.istore 7, 2) := by decide +kernel
theorem dX3_fillRow_75 : decode cX3_fillRow 75 = .ok (.iconst 0, 1) := by decide +kernel
theorem dX3_fillRow_76 : decode cX3_fillRow 76 = .ok (.istore 8, 2) := by decide +kernel
theorem dX3_fillRow_78 : decode cX3_fillRow 78 = .ok (.iload 8, 2) := by decide +kernel
theorem dX3_fillRow_80 : decode cX3_fillRow 80 = .ok (.aload_n 0, 1) := by decide +kernel
theorem dX3_fillRow_81 : decode cX3_fillRow 81 = .ok (.getfield 92, 3) := by decide +kernel
theorem dX3_fillRow_84 : decode cX3_fillRow 84 = .ok (.if_icmp .ge 69, 3) := by decide +kernel
theorem dX3_fillRow_87 : decode cX3_fillRow 87 = .ok (.aload_n 0, 1) := by decide +kernel
theorem dX3_fillRow_88 : decode cX3_fillRow 88 = .ok (.getfield 40, 3) := by decide +kernel
theorem dX3_fillRow_91 : decode cX3_fillRow 91 = .ok (.iload 8, 2) := by decide +kernel
theorem dX3_fillRow_93 : decode cX3_fillRow 93 = .ok (.iaload, 1) := by decide +kernel
theorem dX3_fillRow_94 : decode cX3_fillRow 94 = .ok (.aload_n 0, 1) := by decide +kernel
theorem dX3_fillRow_95 : decode cX3_fillRow 95 = .ok (.getfield 47, 3) := by decide +kernel
theorem dX3_fillRow_98 : decode cX3_fillRow 98 = .ok (.aload_n 0, 1) := by decide +kernel
theorem dX3_fillRow_99 : decode cX3_fillRow 99 = .ok (.getfield 37, 3) := by decide +kernel
theorem dX3_fillRow_102 : decode cX3_fillRow 102 = .ok (.iload 8, 2) := by decide +kernel
theorem dX3_fillRow_104 : decode cX3_fillRow 104 = .ok (.iaload, 1) := by decide +kernel
theorem dX3_fillRow_105 : decode cX3_fillRow 105 = .ok (.iaload, 1) := by decide +kernel
theorem dX3_fillRow_106 : decode cX3_fillRow 106 = .ok (.iload 6, 2) := by decide +kernel
theorem dX3_fillRow_108 : decode cX3_fillRow 108 = .ok (.iand, 1) := by decide +kernel
theorem dX3_fillRow_109 : decode cX3_fillRow 109 = .ok (.ifCond .eq 7, 3) := by decide +kernel
theorem dX3_fillRow_112 : decode cX3_fillRow 112 = .ok (.iconst 1, 1) := by decide +kernel
theorem dX3_fillRow_113 : decode cX3_fillRow 113 = .ok (.goto 4, 3) := by decide +kernel
theorem dX3_fillRow_116 : decode cX3_fillRow 116 = .ok (.iconst 0, 1) := by decide +kernel
theorem dX3_fillRow_117 : decode cX3_fillRow 117 = .ok (.iadd, 1) := by decide +kernel
theorem dX3_fillRow_118 : decode cX3_fillRow 118 = .ok (.istore 9, 2) := by decide +kernel
theorem dX3_fillRow_120 : decode cX3_fillRow 120 = .ok (.aload_n 0, 1) := by decide +kernel
theorem dX3_fillRow_121 : decode cX3_fillRow 121 = .ok (.getfield 24, 3) := by decide +kernel
theorem dX3_fillRow_124 : decode cX3_fillRow 124 = .ok (.iload 4, 2) := by decide +kernel
theorem dX3_fillRow_126 : decode cX3_fillRow 126 = .ok (.iload 9, 2) := by decide +kernel
theorem dX3_fillRow_128 : decode cX3_fillRow 128 = .ok (.iadd, 1) := by decide +kernel
theorem dX3_fillRow_129 : decode cX3_fillRow 129 = .ok (.baload, 1) := by decide +kernel
theorem dX3_fillRow_130 : decode cX3_fillRow 130 = .ok (.iload 7, 2) := by decide +kernel
theorem dX3_fillRow_132 : decode cX3_fillRow 132 = .ok (.if_icmp .ge 15, 3) := by decide +kernel
theorem dX3_fillRow_135 : decode cX3_fillRow 135 = .ok (.aload_n 0, 1) := by decide +kernel
theorem dX3_fillRow_136 : decode cX3_fillRow 136 = .ok (.getfield 24, 3) := by decide +kernel
theorem dX3_fillRow_139 : decode cX3_fillRow 139 = .ok (.iload 4, 2) := by decide +kernel
theorem dX3_fillRow_141 : decode cX3_fillRow 141 = .ok (.iload 9, 2) := by decide +kernel
theorem dX3_fillRow_143 : decode cX3_fillRow 143 = .ok (.iadd, 1) := by decide +kernel
theorem dX3_fillRow_144 : decode cX3_fillRow 144 = .ok (.baload, 1) := by decide +kernel
theorem dX3_fillRow_145 : decode cX3_fillRow 145 = .ok (.istore 7, 2) := by decide +kernel
theorem dX3_fillRow_147 : decode cX3_fillRow 147 = .ok (.iinc 8 1, 3) := by decide +kernel
theorem dX3_fillRow_150 : decode cX3_fillRow 150 = .ok (.goto (-72), 3) := by decide +kernel
theorem dX3_fillRow_153 : decode cX3_fillRow 153 = .ok (.aload_n 0, 1) := by decide +kernel
theorem dX3_fillRow_154 : decode cX3_fillRow 154 = .ok (.getfield 24, 3) := by decide +kernel
theorem dX3_fillRow_157 : decode cX3_fillRow 157 = .ok (.iload 4, 2) := by decide +kernel
theorem dX3_fillRow_159 : decode cX3_fillRow 159 = .ok (.iload 5, 2) := by decide +kernel
theorem dX3_fillRow_161 : decode cX3_fillRow 161 = .ok (.ifCond .ne 10, 3) := by decide +kernel
theorem dX3_fillRow_164 : decode cX3_fillRow 164 = .ok (.aload_n 0, 1) := by decide +kernel
theorem dX3_fillRow_165 : decode cX3_fillRow 165 = .ok (.getfield 92, 3) := by decide +kernel
theorem dX3_fillRow_168 : decode cX3_fillRow 168 = .ok (.ifCond .le 11, 3) := by decide +kernel
theorem dX3_fillRow_171 : decode cX3_fillRow 171 = .ok (.iload 7, 2) := by decide +kernel
theorem dX3_fillRow_173 : decode cX3_fillRow 173 = .ok (.iconst 1, 1) := by decide +kernel
theorem dX3_fillRow_174 : decode cX3_fillRow 174 = .ok (.iadd, 1) := by decide +kernel
theorem dX3_fillRow_175 : decode cX3_fillRow 175 = .ok (.i2b, 1) := by decide +kernel
theorem dX3_fillRow_176 : decode cX3_fillRow 176 = .ok (.goto 4, 3) := by decide +kernel
theorem dX3_fillRow_179 : decode cX3_fillRow 179 = .ok (.iconst 0, 1) := by decide +kernel
theorem dX3_fillRow_180 : decode cX3_fillRow 180 = .ok (.bastore, 1) := by decide +kernel
theorem dX3_fillRow_181 : decode cX3_fillRow 181 = .ok (.iinc 3 (-1), 3) := by decide +kernel
theorem dX3_fillRow_184 : decode cX3_fillRow 184 = .ok (.goto (-180), 3) := by decide +kernel
theorem dX3_fillRow_187 : decode cX3_fillRow 187 = .ok (.return_, 1) := by decide +kernel
theorem dX3_walk_0 : decode cX3_walk 0 = .ok (.iconst 0, 1) := by decide +kernel
theorem dX3_walk_1 : decode cX3_walk 1 = .ok (.istore_n 1, 1) := by decide +kernel
theorem dX3_walk_2 : decode cX3_walk 2 = .ok (.aload_n 0, 1) := by decide +kernel
theorem dX3_walk_3 : decode cX3_walk 3 = .ok (.getfield 65, 3) := by decide +kernel
theorem dX3_walk_6 : decode cX3_walk 6 = .ok (.bipush 40, 2) := by decide +kernel
theorem dX3_walk_8 : decode cX3_walk 8 = .ok (.if_icmp .ge 60, 3) := by decide +kernel
theorem dX3_walk_11 : decode cX3_walk 11 = .ok (.aload_n 0, 1) := by decide +kernel
theorem dX3_walk_12 : decode cX3_walk 12 = .ok (.getfield 24, 3) := by decide +kernel
theorem dX3_walk_15 : decode cX3_walk 15 = .ok (.iload_n 1, 1) := by decide +kernel
theorem dX3_walk_16 : decode cX3_walk 16 = .ok (.baload, 1) := by decide +kernel
theorem dX3_walk_17 : decode cX3_walk 17 = .ok (.ifCond .le 51, 3) := by decide +kernel
theorem dX3_walk_20 : decode cX3_walk 20 = .ok (.aload_n 0, 1) := by decide +kernel
theorem dX3_walk_21 : decode cX3_walk 21 = .ok (.iload_n 1, 1) := by decide +kernel
theorem dX3_walk_22 : decode cX3_walk 22 = .ok (.invokevirtual 70, 3) := by decide +kernel
theorem dX3_walk_25 : decode cX3_walk 25 = .ok (.aload_n 0, 1) := by decide +kernel
theorem dX3_walk_26 : decode cX3_walk 26 = .ok (.iload_n 1, 1) := by decide +kernel
theorem dX3_walk_27 : decode cX3_walk 27 = .ok (.invokevirtual 99, 3) := by decide +kernel
theorem dX3_walk_30 : decode cX3_walk 30 = .ok (.istore_n 2, 1) := by decide +kernel
theorem dX3_walk_31 : decode cX3_walk 31 = .ok (.aload_n 0, 1) := by decide +kernel
theorem dX3_walk_32 : decode cX3_walk 32 = .ok (.getfield 9, 3) := by decide +kernel
theorem dX3_walk_35 : decode cX3_walk 35 = .ok (.aload_n 0, 1) := by decide +kernel
theorem dX3_walk_36 : decode cX3_walk 36 = .ok (.getfield 65, 3) := by decide +kernel
theorem dX3_walk_39 : decode cX3_walk 39 = .ok (.iload_n 2, 1) := by decide +kernel
theorem dX3_walk_40 : decode cX3_walk 40 = .ok (.iastore, 1) := by decide +kernel
theorem dX3_walk_41 : decode cX3_walk 41 = .ok (.aload_n 0, 1) := by decide +kernel
theorem dX3_walk_42 : decode cX3_walk 42 = .ok (.iload_n 2, 1) := by decide +kernel
theorem dX3_walk_43 : decode cX3_walk 43 = .ok (.invokevirtual 103, 3) := by decide +kernel
theorem dX3_walk_46 : decode cX3_walk 46 = .ok (.aload_n 0, 1) := by decide +kernel
theorem dX3_walk_47 : decode cX3_walk 47 = .ok (.dup, 1) := by decide +kernel
theorem dX3_walk_48 : decode cX3_walk 48 = .ok (.getfield 65, 3) := by decide +kernel
theorem dX3_walk_51 : decode cX3_walk 51 = .ok (.iconst 1, 1) := by decide +kernel
theorem dX3_walk_52 : decode cX3_walk 52 = .ok (.iadd, 1) := by decide +kernel
theorem dX3_walk_53 : decode cX3_walk 53 = .ok (.putfield 65, 3) := by decide +kernel
theorem dX3_walk_56 : decode cX3_walk 56 = .ok (.iload_n 1, 1) := by decide +kernel
theorem dX3_walk_57 : decode cX3_walk 57 = .ok (.aload_n 0, 1) := by decide +kernel
theorem dX3_walk_58 : decode cX3_walk 58 = .ok (.iload_n 2, 1) := by decide +kernel
theorem dX3_walk_59 : decode cX3_walk 59 = .ok (.iconst 0, 1) := by decide +kernel
theorem dX3_walk_60 : decode cX3_walk 60 = .ok (.invokevirtual 95, 3) := by decide +kernel
theorem dX3_walk_63 : decode cX3_walk 63 = .ok (.iadd, 1) := by decide +kernel
theorem dX3_walk_64 : decode cX3_walk 64 = .ok (.istore_n 1, 1) := by decide +kernel
theorem dX3_walk_65 : decode cX3_walk 65 = .ok (.goto (-63), 3) := by decide +kernel
theorem dX3_walk_68 : decode cX3_walk 68 = .ok (.return_, 1) := by decide +kernel
theorem dX3_firstColour_0 : decode cX3_firstColour 0 = .ok (.iconst 0, 1) := by decide +kernel
theorem dX3_firstColour_1 : decode cX3_firstColour 1 = .ok (.istore_n 2, 1) := by decide +kernel
theorem dX3_firstColour_2 : decode cX3_firstColour 2 = .ok (.iload_n 2, 1) := by decide +kernel
theorem dX3_firstColour_3 : decode cX3_firstColour 3 = .ok (.bipush 12, 2) := by decide +kernel
theorem dX3_firstColour_5 : decode cX3_firstColour 5 = .ok (.if_icmp .ge 41, 3) := by decide +kernel
theorem dX3_firstColour_8 : decode cX3_firstColour 8 = .ok (.aload_n 0, 1) := by decide +kernel
theorem dX3_firstColour_9 : decode cX3_firstColour 9 = .ok (.iload_n 2, 1) := by decide +kernel
theorem dX3_firstColour_10 : decode cX3_firstColour 10 = .ok (.iconst 0, 1) := by decide +kernel
theorem dX3_firstColour_11 : decode cX3_firstColour 11 = .ok (.invokevirtual 95, 3) := by decide +kernel
theorem dX3_firstColour_14 : decode cX3_firstColour 14 = .ok (.istore_n 3, 1) := by decide +kernel
theorem dX3_firstColour_15 : decode cX3_firstColour 15 = .ok (.iload_n 3, 1) := by decide +kernel
theorem dX3_firstColour_16 : decode cX3_firstColour 16 = .ok (.ifCond .le 24, 3) := by decide +kernel
theorem dX3_firstColour_19 : decode cX3_firstColour 19 = .ok (.aload_n 0, 1) := by decide +kernel
theorem dX3_firstColour_20 : decode cX3_firstColour 20 = .ok (.getfield 24, 3) := by decide +kernel
theorem dX3_firstColour_23 : decode cX3_firstColour 23 = .ok (.iload_n 1, 1) := by decide +kernel
theorem dX3_firstColour_24 : decode cX3_firstColour 24 = .ok (.iload_n 3, 1) := by decide +kernel
theorem dX3_firstColour_25 : decode cX3_firstColour 25 = .ok (.iadd, 1) := by decide +kernel
theorem dX3_firstColour_26 : decode cX3_firstColour 26 = .ok (.baload, 1) := by decide +kernel
theorem dX3_firstColour_27 : decode cX3_firstColour 27 = .ok (.aload_n 0, 1) := by decide +kernel
theorem dX3_firstColour_28 : decode cX3_firstColour 28 = .ok (.getfield 24, 3) := by decide +kernel
theorem dX3_firstColour_31 : decode cX3_firstColour 31 = .ok (.iload_n 1, 1) := by decide +kernel
theorem dX3_firstColour_32 : decode cX3_firstColour 32 = .ok (.baload, 1) := by decide +kernel
theorem dX3_firstColour_33 : decode cX3_firstColour 33 = .ok (.iconst 1, 1) := by decide +kernel
theorem dX3_firstColour_34 : decode cX3_firstColour 34 = .ok (.isub, 1) := by decide +kernel
theorem dX3_firstColour_35 : decode cX3_firstColour 35 = .ok (.if_icmp .ne 5, 3) := by decide +kernel
theorem dX3_firstColour_38 : decode cX3_firstColour 38 = .ok (.iload_n 2, 1) := by decide +kernel
theorem dX3_firstColour_39 : decode cX3_firstColour 39 = .ok (.ireturn, 1) := by decide +kernel
theorem dX3_firstColour_40 : decode cX3_firstColour 40 = .ok (.iinc 2 1, 3) := by decide +kernel
theorem dX3_firstColour_43 : decode cX3_firstColour 43 = .ok (.goto (-41), 3) := by decide +kernel
theorem dX3_firstColour_46 : decode cX3_firstColour 46 = .ok (.iconst 0, 1) := by decide +kernel
theorem dX3_firstColour_47 : decode cX3_firstColour 47 = .ok (.ireturn, 1) := by decide +kernel
theorem dX3_paint_0 : decode cX3_paint 0 = .ok (.aload_n 0, 1) := by decide +kernel
theorem dX3_paint_1 : decode cX3_paint 1 = .ok (.getfield 15, 3) := by decide +kernel
theorem dX3_paint_4 : decode cX3_paint 4 = .ok (.aload_n 0, 1) := by decide +kernel
theorem dX3_paint_5 : decode cX3_paint 5 = .ok (.getfield 65, 3) := by decide +kernel
theorem dX3_paint_8 : decode cX3_paint 8 = .ok (.iconst 0, 1) := by decide +kernel
theorem dX3_paint_9 : decode cX3_paint 9 = .ok (.iastore, 1) := by decide +kernel
theorem dX3_paint_10 : decode cX3_paint 10 = .ok (.aload_n 0, 1) := by decide +kernel
theorem dX3_paint_11 : decode cX3_paint 11 = .ok (.getfield 18, 3) := by decide +kernel
theorem dX3_paint_14 : decode cX3_paint 14 = .ok (.aload_n 0, 1) := by decide +kernel
theorem dX3_paint_15 : decode cX3_paint 15 = .ok (.getfield 65, 3) := by decide +kernel
theorem dX3_paint_18 : decode cX3_paint 18 = .ok (.iconst 0, 1) := by decide +kernel
theorem dX3_paint_19 : decode cX3_paint 19 = .ok (.iastore, 1) := by decide +kernel
theorem dX3_paint_20 : decode cX3_paint 20 = .ok (.iconst 0, 1) := by decide +kernel
theorem dX3_paint_21 : decode cX3_paint 21 = .ok (.istore_n 2, 1) := by decide +kernel
theorem dX3_paint_22 : decode cX3_paint 22 = .ok (.iload_n 2, 1) := by decide +kernel
theorem dX3_paint_23 : decode cX3_paint 23 = .ok (.aload_n 0, 1) := by decide +kernel
theorem dX3_paint_24 : decode cX3_paint 24 = .ok (.getfield 43, 3) := by decide +kernel
theorem dX3_paint_27 : decode cX3_paint 27 = .ok (.getfield 50, 3) := by decide +kernel
theorem dX3_paint_30 : decode cX3_paint 30 = .ok (.if_icmp .ge 100, 3) := by decide +kernel
theorem dX3_paint_33 : decode cX3_paint 33 = .ok (.aload_n 0, 1) := by decide +kernel
theorem dX3_paint_34 : decode cX3_paint 34 = .ok (.getfield 47, 3) := by decide +kernel
theorem dX3_paint_37 : decode cX3_paint 37 = .ok (.iload_n 1, 1) := by decide +kernel
theorem dX3_paint_38 : decode cX3_paint 38 = .ok (.iaload, 1) := by decide +kernel
theorem dX3_paint_39 : decode cX3_paint 39 = .ok (.aload_n 0, 1) := by decide +kernel
theorem dX3_paint_40 : decode cX3_paint 40 = .ok (.getfield 34, 3) := by decide +kernel
theorem dX3_paint_43 : decode cX3_paint 43 = .ok (.iload_n 2, 1) := by decide +kernel
theorem dX3_paint_44 : decode cX3_paint 44 = .ok (.iaload, 1) := by decide +kernel
theorem dX3_paint_45 : decode cX3_paint 45 = .ok (.iand, 1) := by decide +kernel
theorem dX3_paint_46 : decode cX3_paint 46 = .ok (.ifCond .eq 78, 3) := by decide +kernel
theorem dX3_paint_49 : decode cX3_paint 49 = .ok (.aload_n 0, 1) := by decide +kernel
theorem dX3_paint_50 : decode cX3_paint 50 = .ok (.getfield 15, 3) := by decide +kernel
theorem dX3_paint_53 : decode cX3_paint 53 = .ok (.aload_n 0, 1) := by decide +kernel
theorem dX3_paint_54 : decode cX3_paint 54 = .ok (.getfield 65, 3) := by decide +kernel
theorem dX3_paint_57 : decode cX3_paint 57 = .ok (.dup2, 1) := by decide +kernel
theorem dX3_paint_58 : decode cX3_paint 58 = .ok (.iaload, 1) := by decide +kernel
theorem dX3_paint_59 : decode cX3_paint 59 = .ok (.iconst 1, 1) := by decide +kernel
theorem dX3_paint_60 : decode cX3_paint 60 = .ok (.iload_n 2, 1) := by decide +kernel
theorem dX3_paint_61 : decode cX3_paint 61 = .ok (.ishl, 1) := by decide +kernel
theorem dX3_paint_62 : decode cX3_paint 62 = .ok (.ior, 1) := by decide +kernel
theorem dX3_paint_63 : decode cX3_paint 63 = .ok (.iastore, 1) := by decide +kernel
theorem dX3_paint_64 : decode cX3_paint 64 = .ok (.aload_n 0, 1) := by decide +kernel
theorem dX3_paint_65 : decode cX3_paint 65 = .ok (.getfield 18, 3) := by decide +kernel
theorem dX3_paint_68 : decode cX3_paint 68 = .ok (.aload_n 0, 1) := by decide +kernel
theorem dX3_paint_69 : decode cX3_paint 69 = .ok (.getfield 65, 3) := by decide +kernel
theorem dX3_paint_72 : decode cX3_paint 72 = .ok (.aload_n 0, 1) := by decide +kernel
theorem dX3_paint_73 : decode cX3_paint 73 = .ok (.getfield 18, 3) := by decide +kernel
theorem dX3_paint_76 : decode cX3_paint 76 = .ok (.aload_n 0, 1) := by decide +kernel
theorem dX3_paint_77 : decode cX3_paint 77 = .ok (.getfield 65, 3) := by decide +kernel
theorem dX3_paint_80 : decode cX3_paint 80 = .ok (.iaload, 1) := by decide +kernel
theorem dX3_paint_81 : decode cX3_paint 81 = .ok (.aload_n 0, 1) := by decide +kernel
theorem dX3_paint_82 : decode cX3_paint 82 = .ok (.getfield 43, 3) := by decide +kernel
theorem dX3_paint_85 : decode cX3_paint 85 = .ok (.getfield 56, 3) := by decide +kernel
theorem dX3_paint_88 : decode cX3_paint 88 = .ok (.iload_n 2, 1) := by decide +kernel
theorem dX3_paint_89 : decode cX3_paint 89 = .ok (.aaload, 1) := by decide +kernel
theorem dX3_paint_90 : decode cX3_paint 90 = .ok (.getfield 106, 3) := by decide +kernel
theorem dX3_paint_93 : decode cX3_paint 93 = .ok (.aload_n 0, 1) := by decide +kernel
theorem dX3_paint_94 : decode cX3_paint 94 = .ok (.getfield 31, 3) := by decide +kernel
theorem dX3_paint_97 : decode cX3_paint 97 = .ok (.iload_n 2, 1) := by decide +kernel
theorem dX3_paint_98 : decode cX3_paint 98 = .ok (.iaload, 1) := by decide +kernel
theorem dX3_paint_99 : decode cX3_paint 99 = .ok (.iaload, 1) := by decide +kernel
theorem dX3_paint_100 : decode cX3_paint 100 = .ok (.invokestatic 83, 3) := by decide +kernel
theorem dX3_paint_103 : decode cX3_paint 103 = .ok (.iastore, 1) := by decide +kernel
theorem dX3_paint_104 : decode cX3_paint 104 = .ok (.aload_n 0, 1) := by decide +kernel
theorem dX3_paint_105 : decode cX3_paint 105 = .ok (.getfield 21, 3) := by decide +kernel
theorem dX3_paint_108 : decode cX3_paint 108 = .ok (.iload_n 2, 1) := by decide +kernel
theorem dX3_paint_109 : decode cX3_paint 109 = .ok (.bipush 10, 2) := by decide +kernel
theorem dX3_paint_111 : decode cX3_paint 111 = .ok (.imul, 1) := by decide +kernel
theorem dX3_paint_112 : decode cX3_paint 112 = .ok (.aload_n 0, 1) := by decide +kernel
theorem dX3_paint_113 : decode cX3_paint 113 = .ok (.getfield 31, 3) := by decide +kernel
theorem dX3_paint_116 : decode cX3_paint 116 = .ok (.iload_n 2, 1) := by decide +kernel
theorem dX3_paint_117 : decode cX3_paint 117 = .ok (.iaload, 1) := by decide +kernel
theorem dX3_paint_118 : decode cX3_paint 118 = .ok (.iadd, 1) := by decide +kernel
theorem dX3_paint_119 : decode cX3_paint 119 = .ok (.aload_n 0, 1) := by decide +kernel
theorem dX3_paint_120 : decode cX3_paint 120 = .ok (.getfield 65, 3) := by decide +kernel
theorem dX3_paint_123 : decode cX3_paint 123 = .ok (.iastore, 1) := by decide +kernel
theorem dX3_paint_124 : decode cX3_paint 124 = .ok (.iinc 2 1, 3) := by decide +kernel
theorem dX3_paint_127 : decode cX3_paint 127 = .ok (.goto (-105), 3) := by decide +kernel
theorem dX3_paint_130 : decode cX3_paint 130 = .ok (.return_, 1) := by decide +kernel
theorem dX3_look_0 : decode cX3_look 0 = .ok (.iload_n 1, 1) := by decide +kernel
theorem dX3_look_1 : decode cX3_look 1 = .ok (.istore_n 2, 1) := by decide +kernel
theorem dX3_look_2 : decode cX3_look 2 = .ok (.iconst 0, 1) := by decide +kernel
theorem dX3_look_3 : decode cX3_look 3 = .ok (.istore_n 3, 1) := by decide +kernel
theorem dX3_look_4 : decode cX3_look 4 = .ok (.iload_n 3, 1) := by decide +kernel
theorem dX3_look_5 : decode cX3_look 5 = .ok (.aload_n 0, 1) := by decide +kernel
theorem dX3_look_6 : decode cX3_look 6 = .ok (.getfield 43, 3) := by decide +kernel
theorem dX3_look_9 : decode cX3_look 9 = .ok (.getfield 50, 3) := by decide +kernel
theorem dX3_look_12 : decode cX3_look 12 = .ok (.if_icmp .ge 86, 3) := by decide +kernel
theorem dX3_look_15 : decode cX3_look 15 = .ok (.aload_n 0, 1) := by decide +kernel
theorem dX3_look_16 : decode cX3_look 16 = .ok (.getfield 43, 3) := by decide +kernel
theorem dX3_look_19 : decode cX3_look 19 = .ok (.getfield 56, 3) := by decide +kernel
theorem dX3_look_22 : decode cX3_look 22 = .ok (.iload_n 3, 1) := by decide +kernel
theorem dX3_look_23 : decode cX3_look 23 = .ok (.aaload, 1) := by decide +kernel
theorem dX3_look_24 : decode cX3_look 24 = .ok (.astore 4, 2) := by decide +kernel
theorem dX3_look_26 : decode cX3_look 26 = .ok (.iconst 1, 1) := by decide +kernel
theorem dX3_look_27 : decode cX3_look 27 = .ok (.aload 4, 2) := by decide +kernel
theorem dX3_look_29 : decode cX3_look 29 = .ok (.getfield 60, 3) := by decide +kernel
theorem dX3_look_32 : decode cX3_look 32 = .ok (.iconst 1, 1) := by decide +kernel
theorem dX3_look_33 : decode cX3_look 33 = .ok (.iadd, 1) := by decide +kernel
theorem dX3_look_34 : decode cX3_look 34 = .ok (.invokestatic 83, 3) := by decide +kernel
theorem dX3_look_37 : decode cX3_look 37 = .ok (.istore 5, 2) := by decide +kernel
theorem dX3_look_39 : decode cX3_look 39 = .ok (.aload_n 0, 1) := by decide +kernel
theorem dX3_look_40 : decode cX3_look 40 = .ok (.getfield 31, 3) := by decide +kernel
theorem dX3_look_43 : decode cX3_look 43 = .ok (.iload_n 3, 1) := by decide +kernel
theorem dX3_look_44 : decode cX3_look 44 = .ok (.iload_n 2, 1) := by decide +kernel
theorem dX3_look_45 : decode cX3_look 45 = .ok (.iload 5, 2) := by decide +kernel
theorem dX3_look_47 : decode cX3_look 47 = .ok (.irem, 1) := by decide +kernel
theorem dX3_look_48 : decode cX3_look 48 = .ok (.iastore, 1) := by decide +kernel
theorem dX3_look_49 : decode cX3_look 49 = .ok (.iload_n 2, 1) := by decide +kernel
theorem dX3_look_50 : decode cX3_look 50 = .ok (.iload 5, 2) := by decide +kernel
theorem dX3_look_52 : decode cX3_look 52 = .ok (.idiv, 1) := by decide +kernel
theorem dX3_look_53 : decode cX3_look 53 = .ok (.istore_n 2, 1) := by decide +kernel
theorem dX3_look_54 : decode cX3_look 54 = .ok (.aload_n 0, 1) := by decide +kernel
theorem dX3_look_55 : decode cX3_look 55 = .ok (.getfield 34, 3) := by decide +kernel
theorem dX3_look_58 : decode cX3_look 58 = .ok (.iload_n 3, 1) := by decide +kernel
theorem dX3_look_59 : decode cX3_look 59 = .ok (.aload_n 0, 1) := by decide +kernel
theorem dX3_look_60 : decode cX3_look 60 = .ok (.getfield 31, 3) := by decide +kernel
theorem dX3_look_63 : decode cX3_look 63 = .ok (.iload_n 3, 1) := by decide +kernel
theorem dX3_look_64 : decode cX3_look 64 = .ok (.iaload, 1) := by decide +kernel
theorem dX3_look_65 : decode cX3_look 65 = .ok (.aload 4, 2) := by decide +kernel
theorem dX3_look_67 : decode cX3_look 67 = .ok (.getfield 60, 3) := by decide +kernel
theorem dX3_look_70 : decode cX3_look 70 = .ok (.if_icmp .ge 20, 3) := by decide +kernel
theorem dX3_look_73 : decode cX3_look 73 = .ok (.iconst 1, 1) := by decide +kernel
theorem dX3_look_74 : decode cX3_look 74 = .ok (.aload 4, 2) := by decide +kernel
theorem dX3_look_76 : decode cX3_look 76 = .ok (.getfield 98, 3) := by decide +kernel
theorem dX3_look_79 : decode cX3_look 79 = .ok (.aload_n 0, 1) := by decide +kernel
theorem dX3_look_80 : decode cX3_look 80 = .ok (.getfield 31, 3) := by decide +kernel
theorem dX3_look_83 : decode cX3_look 83 = .ok (.iload_n 3, 1) := by decide +kernel
theorem dX3_look_84 : decode cX3_look 84 = .ok (.iaload, 1) := by decide +kernel
theorem dX3_look_85 : decode cX3_look 85 = .ok (.iaload, 1) := by decide +kernel
theorem dX3_look_86 : decode cX3_look 86 = .ok (.ishl, 1) := by decide +kernel
theorem dX3_look_87 : decode cX3_look 87 = .ok (.goto 4, 3) := by decide +kernel
theorem dX3_look_90 : decode cX3_look 90 = .ok (.iconst 0, 1) := by decide +kernel
theorem dX3_look_91 : decode cX3_look 91 = .ok (.iastore, 1) := by decide +kernel
theorem dX3_look_92 : decode cX3_look 92 = .ok (.iinc 3 1, 3) := by decide +kernel
theorem dX3_look_95 : decode cX3_look 95 = .ok (.goto (-91), 3) := by decide +kernel
theorem dX3_look_98 : decode cX3_look 98 = .ok (.return_, 1) := by decide +kernel
theorem dX3_strideOf_0 : decode cX3_strideOf 0 = .ok (.iconst 0, 1) := by decide +kernel
theorem dX3_strideOf_1 : decode cX3_strideOf 1 = .ok (.istore_n 3, 1) := by decide +kernel
theorem dX3_strideOf_2 : decode cX3_strideOf 2 = .ok (.iload_n 2, 1) := by decide +kernel
theorem dX3_strideOf_3 : decode cX3_strideOf 3 = .ok (.istore 4, 2) := by decide +kernel
theorem dX3_strideOf_5 : decode cX3_strideOf 5 = .ok (.iload 4, 2) := by decide +kernel
theorem dX3_strideOf_7 : decode cX3_strideOf 7 = .ok (.aload_n 0, 1) := by decide +kernel
theorem dX3_strideOf_8 : decode cX3_strideOf 8 = .ok (.getfield 43, 3) := by decide +kernel
theorem dX3_strideOf_11 : decode cX3_strideOf 11 = .ok (.getfield 50, 3) := by decide +kernel
theorem dX3_strideOf_14 : decode cX3_strideOf 14 = .ok (.if_icmp .ge 36, 3) := by decide +kernel
theorem dX3_strideOf_17 : decode cX3_strideOf 17 = .ok (.aload_n 0, 1) := by decide +kernel
theorem dX3_strideOf_18 : decode cX3_strideOf 18 = .ok (.getfield 47, 3) := by decide +kernel
theorem dX3_strideOf_21 : decode cX3_strideOf 21 = .ok (.iload_n 1, 1) := by decide +kernel
theorem dX3_strideOf_22 : decode cX3_strideOf 22 = .ok (.iaload, 1) := by decide +kernel
theorem dX3_strideOf_23 : decode cX3_strideOf 23 = .ok (.aload_n 0, 1) := by decide +kernel
theorem dX3_strideOf_24 : decode cX3_strideOf 24 = .ok (.getfield 34, 3) := by decide +kernel
theorem dX3_strideOf_27 : decode cX3_strideOf 27 = .ok (.iload 4, 2) := by decide +kernel
theorem dX3_strideOf_29 : decode cX3_strideOf 29 = .ok (.iaload, 1) := by decide +kernel
theorem dX3_strideOf_30 : decode cX3_strideOf 30 = .ok (.iand, 1) := by decide +kernel
theorem dX3_strideOf_31 : decode cX3_strideOf 31 = .ok (.ifCond .eq 13, 3) := by decide +kernel
theorem dX3_strideOf_34 : decode cX3_strideOf 34 = .ok (.iload_n 3, 1) := by decide +kernel
theorem dX3_strideOf_35 : decode cX3_strideOf 35 = .ok (.aload_n 0, 1) := by decide +kernel
theorem dX3_strideOf_36 : decode cX3_strideOf 36 = .ok (.getfield 28, 3) := by decide +kernel
theorem dX3_strideOf_39 : decode cX3_strideOf 39 = .ok (.iload 4, 2) := by decide +kernel
theorem dX3_strideOf_41 : decode cX3_strideOf 41 = .ok (.iaload, 1) := by decide +kernel
theorem dX3_strideOf_42 : decode cX3_strideOf 42 = .ok (.iadd, 1) := by decide +kernel
theorem dX3_strideOf_43 : decode cX3_strideOf 43 = .ok (.istore_n 3, 1) := by decide +kernel
theorem dX3_strideOf_44 : decode cX3_strideOf 44 = .ok (.iinc 4 1, 3) := by decide +kernel
theorem dX3_strideOf_47 : decode cX3_strideOf 47 = .ok (.goto (-42), 3) := by decide +kernel
theorem dX3_strideOf_50 : decode cX3_strideOf 50 = .ok (.iload_n 3, 1) := by decide +kernel
theorem dX3_strideOf_51 : decode cX3_strideOf 51 = .ok (.ireturn, 1) := by decide +kernel
theorem dX4_init_0 : decode cX4_init 0 = .ok (.aload_n 0, 1) := by decide +kernel
theorem dX4_init_1 : decode cX4_init 1 = .ok (.invokespecial 3, 3) := by decide +kernel
theorem dX4_init_4 : decode cX4_init 4 = .ok (.aload_n 0, 1) := by decide +kernel
theorem dX4_init_5 : decode cX4_init 5 = .ok (.iconst 4, 1) := by decide +kernel
theorem dX4_init_6 : decode cX4_init 6 = .ok (.anewarray 9, 3) := by decide +kernel
theorem dX4_init_9 : decode cX4_init 9 = .ok (.putfield 11, 3) := by decide +kernel
theorem dX4_init_12 : decode cX4_init 12 = .ok (.iconst 0, 1) := by decide +kernel
theorem dX4_init_13 : decode cX4_init 13 = .ok (.istore_n 1, 1) := by decide +kernel
theorem dX4_init_14 : decode cX4_init 14 = .ok (.iload_n 1, 1) := by decide +kernel
theorem dX4_init_15 : decode cX4_init 15 = .ok (.iconst 4, 1) := by decide +kernel
theorem dX4_init_16 : decode cX4_init 16 = .ok (.if_icmp .ge 22, 3) := by decide +kernel
theorem dX4_init_19 : decode cX4_init 19 = .ok (.aload_n 0, 1) := by decide +kernel
theorem dX4_init_20 : decode cX4_init 20 = .ok (.getfield 11, 3) := by decide +kernel
theorem dX4_init_23 : decode cX4_init 23 = .ok (.iload_n 1, 1) := by decide +kernel
theorem dX4_init_24 : decode cX4_init 24 = .ok (.new 9, 3) := by decide +kernel
theorem dX4_init_27 : decode cX4_init 27 = .ok (.dup, 1) := by decide +kernel
theorem dX4_init_28 : decode cX4_init 28 = .ok (.invokespecial 17, 3) := by decide +kernel
theorem dX4_init_31 : decode cX4_init 31 = .ok (.aastore, 1) := by decide +kernel
theorem dX4_init_32 : decode cX4_init 32 = .ok (.iinc 1 1, 3) := by decide +kernel
theorem dX4_init_35 : decode cX4_init 35 = .ok (.goto (-21), 3) := by decide +kernel
theorem dX4_init_38 : decode cX4_init 38 = .ok (.return_, 1) := by decide +kernel
theorem dX4_takeOut_0 : decode cX4_takeOut 0 = .ok (.aload_n 0, 1) := by decide +kernel
theorem dX4_takeOut_1 : decode cX4_takeOut 1 = .ok (.getfield 11, 3) := by decide +kernel
theorem dX4_takeOut_4 : decode cX4_takeOut 4 = .ok (.iload_n 1, 1) := by decide +kernel
theorem dX4_takeOut_5 : decode cX4_takeOut 5 = .ok (.aaload, 1) := by decide +kernel
theorem dX4_takeOut_6 : decode cX4_takeOut 6 = .ok (.astore_n 2, 1) := by decide +kernel
theorem dX4_takeOut_7 : decode cX4_takeOut 7 = .ok (.iload_n 1, 1) := by decide +kernel
theorem dX4_takeOut_8 : decode cX4_takeOut 8 = .ok (.istore_n 3, 1) := by decide +kernel
theorem dX4_takeOut_9 : decode cX4_takeOut 9 = .ok (.iload_n 3, 1) := by decide +kernel
theorem dX4_takeOut_10 : decode cX4_takeOut 10 = .ok (.iconst 1, 1) := by decide +kernel
theorem dX4_takeOut_11 : decode cX4_takeOut 11 = .ok (.iadd, 1) := by decide +kernel
theorem dX4_takeOut_12 : decode cX4_takeOut 12 = .ok (.aload_n 0, 1) := by decide +kernel
theorem dX4_takeOut_13 : decode cX4_takeOut 13 = .ok (.getfield 18, 3) := by decide +kernel
theorem dX4_takeOut_16 : decode cX4_takeOut 16 = .ok (.if_icmp .ge 23, 3) := by decide +kernel
theorem dX4_takeOut_19 : decode cX4_takeOut 19 = .ok (.aload_n 0, 1) := by decide +kernel
theorem dX4_takeOut_20 : decode cX4_takeOut 20 = .ok (.getfield 11, 3) := by decide +kernel
theorem dX4_takeOut_23 : decode cX4_takeOut 23 = .ok (.iload_n 3, 1) := by decide +kernel
theorem dX4_takeOut_24 : decode cX4_takeOut 24 = .ok (.aload_n 0, 1) := by decide +kernel
theorem dX4_takeOut_25 : decode cX4_takeOut 25 = .ok (.getfield 11, 3) := by decide +kernel
theorem dX4_takeOut_28 : decode cX4_takeOut 28 = .ok (.iload_n 3, 1) := by decide +kernel
theorem dX4_takeOut_29 : decode cX4_takeOut 29 = .ok (.iconst 1, 1) := by decide +kernel
theorem dX4_takeOut_30 : decode cX4_takeOut 30 = .ok (.iadd, 1) := by decide +kernel
theorem dX4_takeOut_31 : decode cX4_takeOut 31 = .ok (.aaload, 1) := by decide +kernel
theorem dX4_takeOut_32 : decode cX4_takeOut 32 = .ok (.aastore, 1) := by decide +kernel
theorem dX4_takeOut_33 : decode cX4_takeOut 33 = .ok (.iinc 3 1, 3) := by decide +kernel
theorem dX4_takeOut_36 : decode cX4_takeOut 36 = .ok (.goto (-27), 3) := by decide +kernel
theorem dX4_takeOut_39 : decode cX4_takeOut 39 = .ok (.aload_n 0, 1) := by decide +kernel
theorem dX4_takeOut_40 : decode cX4_takeOut 40 = .ok (.dup, 1) := by decide +kernel
theorem dX4_takeOut_41 : decode cX4_takeOut 41 = .ok (.getfield 18, 3) := by decide +kernel
theorem dX4_takeOut_44 : decode cX4_takeOut 44 = .ok (.iconst 1, 1) := by decide +kernel
theorem dX4_takeOut_45 : decode cX4_takeOut 45 = .ok (.isub, 1) := by decide +kernel
theorem dX4_takeOut_46 : decode cX4_takeOut 46 = .ok (.putfield 18, 3) := by decide +kernel
theorem dX4_takeOut_49 : decode cX4_takeOut 49 = .ok (.aload_n 0, 1) := by decide +kernel
theorem dX4_takeOut_50 : decode cX4_takeOut 50 = .ok (.getfield 11, 3) := by decide +kernel
theorem dX4_takeOut_53 : decode cX4_takeOut 53 = .ok (.aload_n 0, 1) := by decide +kernel
theorem dX4_takeOut_54 : decode cX4_takeOut 54 = .ok (.getfield 18, 3) := by decide +kernel
theorem dX4_takeOut_57 : decode cX4_takeOut 57 = .ok (.aload_n 2, 1) := by decide +kernel
theorem dX4_takeOut_58 : decode cX4_takeOut 58 = .ok (.aastore, 1) := by decide +kernel
theorem dX4_takeOut_59 : decode cX4_takeOut 59 = .ok (.return_, 1) := by decide +kernel
theorem dX4_copy_0 : decode cX4_copy 0 = .ok (.aload_n 0, 1) := by decide +kernel
theorem dX4_copy_1 : decode cX4_copy 1 = .ok (.aload_n 1, 1) := by decide +kernel
theorem dX4_copy_2 : decode cX4_copy 2 = .ok (.getfield 18, 3) := by decide +kernel
theorem dX4_copy_5 : decode cX4_copy 5 = .ok (.putfield 18, 3) := by decide +kernel
theorem dX4_copy_8 : decode cX4_copy 8 = .ok (.iconst 0, 1) := by decide +kernel
theorem dX4_copy_9 : decode cX4_copy 9 = .ok (.istore_n 2, 1) := by decide +kernel
theorem dX4_copy_10 : decode cX4_copy 10 = .ok (.iload_n 2, 1) := by decide +kernel
theorem dX4_copy_11 : decode cX4_copy 11 = .ok (.aload_n 0, 1) := by decide +kernel
theorem dX4_copy_12 : decode cX4_copy 12 = .ok (.getfield 18, 3) := by decide +kernel
theorem dX4_copy_15 : decode cX4_copy 15 = .ok (.if_icmp .ge 24, 3) := by decide +kernel
theorem dX4_copy_18 : decode cX4_copy 18 = .ok (.aload_n 0, 1) := by decide +kernel
theorem dX4_copy_19 : decode cX4_copy 19 = .ok (.getfield 11, 3) := by decide +kernel
theorem dX4_copy_22 : decode cX4_copy 22 = .ok (.iload_n 2, 1) := by decide +kernel
theorem dX4_copy_23 : decode cX4_copy 23 = .ok (.aaload, 1) := by decide +kernel
theorem dX4_copy_24 : decode cX4_copy 24 = .ok (.aload_n 1, 1) := by decide +kernel
theorem dX4_copy_25 : decode cX4_copy 25 = .ok (.getfield 11, 3) := by decide +kernel
theorem dX4_copy_28 : decode cX4_copy 28 = .ok (.iload_n 2, 1) := by decide +kernel
theorem dX4_copy_29 : decode cX4_copy 29 = .ok (.aaload, 1) := by decide +kernel
theorem dX4_copy_30 : decode cX4_copy 30 = .ok (.invokevirtual 22, 3) := by decide +kernel
theorem dX4_copy_33 : decode cX4_copy 33 = .ok (.iinc 2 1, 3) := by decide +kernel
theorem dX4_copy_36 : decode cX4_copy 36 = .ok (.goto (-26), 3) := by decide +kernel
theorem dX4_copy_39 : decode cX4_copy 39 = .ok (.return_, 1) := by decide +kernel
theorem dX4_coats_0 : decode cX4_coats 0 = .ok (.iconst 0, 1) := by decide +kernel
theorem dX4_coats_1 : decode cX4_coats 1 = .ok (.istore_n 1, 1) := by decide +kernel
theorem dX4_coats_2 : decode cX4_coats 2 = .ok (.iconst 0, 1) := by decide +kernel
theorem dX4_coats_3 : decode cX4_coats 3 = .ok (.istore_n 2, 1) := by decide +kernel
theorem dX4_coats_4 : decode cX4_coats 4 = .ok (.iload_n 2, 1) := by decide +kernel
theorem dX4_coats_5 : decode cX4_coats 5 = .ok (.aload_n 0, 1) := by decide +kernel
theorem dX4_coats_6 : decode cX4_coats 6 = .ok (.getfield 18, 3) := by decide +kernel
theorem dX4_coats_9 : decode cX4_coats 9 = .ok (.if_icmp .ge 21, 3) := by decide +kernel
theorem dX4_coats_12 : decode cX4_coats 12 = .ok (.iload_n 1, 1) := by decide +kernel
theorem dX4_coats_13 : decode cX4_coats 13 = .ok (.aload_n 0, 1) := by decide +kernel
theorem dX4_coats_14 : decode cX4_coats 14 = .ok (.getfield 11, 3) := by decide +kernel
theorem dX4_coats_17 : decode cX4_coats 17 = .ok (.iload_n 2, 1) := by decide +kernel
