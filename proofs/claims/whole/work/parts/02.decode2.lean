theorem dX4_coats_18 : decode cX4_coats 18 = .ok (.aaload, 1) := by decide +kernel
theorem dX4_coats_19 : decode cX4_coats 19 = .ok (.getfield 26, 3) := by decide +kernel
theorem dX4_coats_22 : decode cX4_coats 22 = .ok (.iadd, 1) := by decide +kernel
theorem dX4_coats_23 : decode cX4_coats 23 = .ok (.istore_n 1, 1) := by decide +kernel
theorem dX4_coats_24 : decode cX4_coats 24 = .ok (.iinc 2 1, 3) := by decide +kernel
theorem dX4_coats_27 : decode cX4_coats 27 = .ok (.goto (-23), 3) := by decide +kernel
theorem dX4_coats_30 : decode cX4_coats 30 = .ok (.iload_n 1, 1) := by decide +kernel
theorem dX4_coats_31 : decode cX4_coats 31 = .ok (.ireturn, 1) := by decide +kernel
theorem dX4_inRoom_0 : decode cX4_inRoom 0 = .ok (.iconst 0, 1) := by decide +kernel
theorem dX4_inRoom_1 : decode cX4_inRoom 1 = .ok (.istore_n 2, 1) := by decide +kernel
theorem dX4_inRoom_2 : decode cX4_inRoom 2 = .ok (.iconst 0, 1) := by decide +kernel
theorem dX4_inRoom_3 : decode cX4_inRoom 3 = .ok (.istore_n 3, 1) := by decide +kernel
theorem dX4_inRoom_4 : decode cX4_inRoom 4 = .ok (.iload_n 3, 1) := by decide +kernel
theorem dX4_inRoom_5 : decode cX4_inRoom 5 = .ok (.aload_n 0, 1) := by decide +kernel
theorem dX4_inRoom_6 : decode cX4_inRoom 6 = .ok (.getfield 18, 3) := by decide +kernel
theorem dX4_inRoom_9 : decode cX4_inRoom 9 = .ok (.if_icmp .ge 28, 3) := by decide +kernel
theorem dX4_inRoom_12 : decode cX4_inRoom 12 = .ok (.aload_n 0, 1) := by decide +kernel
theorem dX4_inRoom_13 : decode cX4_inRoom 13 = .ok (.getfield 11, 3) := by decide +kernel
theorem dX4_inRoom_16 : decode cX4_inRoom 16 = .ok (.iload_n 3, 1) := by decide +kernel
theorem dX4_inRoom_17 : decode cX4_inRoom 17 = .ok (.aaload, 1) := by decide +kernel
theorem dX4_inRoom_18 : decode cX4_inRoom 18 = .ok (.getfield 29, 3) := by decide +kernel
theorem dX4_inRoom_21 : decode cX4_inRoom 21 = .ok (.iload_n 1, 1) := by decide +kernel
theorem dX4_inRoom_22 : decode cX4_inRoom 22 = .ok (.if_icmp .ne 9, 3) := by decide +kernel
theorem dX4_inRoom_25 : decode cX4_inRoom 25 = .ok (.iload_n 2, 1) := by decide +kernel
theorem dX4_inRoom_26 : decode cX4_inRoom 26 = .ok (.iconst 1, 1) := by decide +kernel
theorem dX4_inRoom_27 : decode cX4_inRoom 27 = .ok (.iload_n 3, 1) := by decide +kernel
theorem dX4_inRoom_28 : decode cX4_inRoom 28 = .ok (.ishl, 1) := by decide +kernel
theorem dX4_inRoom_29 : decode cX4_inRoom 29 = .ok (.ior, 1) := by decide +kernel
theorem dX4_inRoom_30 : decode cX4_inRoom 30 = .ok (.istore_n 2, 1) := by decide +kernel
theorem dX4_inRoom_31 : decode cX4_inRoom 31 = .ok (.iinc 3 1, 3) := by decide +kernel
theorem dX4_inRoom_34 : decode cX4_inRoom 34 = .ok (.goto (-30), 3) := by decide +kernel
theorem dX4_inRoom_37 : decode cX4_inRoom 37 = .ok (.iload_n 2, 1) := by decide +kernel
theorem dX4_inRoom_38 : decode cX4_inRoom 38 = .ok (.ireturn, 1) := by decide +kernel
theorem dX5_init_0 : decode cX5_init 0 = .ok (.aload_n 0, 1) := by decide +kernel
theorem dX5_init_1 : decode cX5_init 1 = .ok (.invokespecial 3, 3) := by decide +kernel
theorem dX5_init_4 : decode cX5_init 4 = .ok (.aload_n 0, 1) := by decide +kernel
theorem dX5_init_5 : decode cX5_init 5 = .ok (.sipush 400, 3) := by decide +kernel
theorem dX5_init_8 : decode cX5_init 8 = .ok (.newarray .byte, 2) := by decide +kernel
theorem dX5_init_10 : decode cX5_init 10 = .ok (.putfield 9, 3) := by decide +kernel
theorem dX5_init_13 : decode cX5_init 13 = .ok (.aload_n 0, 1) := by decide +kernel
theorem dX5_init_14 : decode cX5_init 14 = .ok (.sipush 401, 3) := by decide +kernel
theorem dX5_init_17 : decode cX5_init 17 = .ok (.newarray .int, 2) := by decide +kernel
theorem dX5_init_19 : decode cX5_init 19 = .ok (.putfield 15, 3) := by decide +kernel
theorem dX5_init_22 : decode cX5_init 22 = .ok (.aload_n 0, 1) := by decide +kernel
theorem dX5_init_23 : decode cX5_init 23 = .ok (.sipush 401, 3) := by decide +kernel
theorem dX5_init_26 : decode cX5_init 26 = .ok (.newarray .int, 2) := by decide +kernel
theorem dX5_init_28 : decode cX5_init 28 = .ok (.putfield 19, 3) := by decide +kernel
theorem dX5_init_31 : decode cX5_init 31 = .ok (.aload_n 0, 1) := by decide +kernel
theorem dX5_init_32 : decode cX5_init 32 = .ok (.sipush 401, 3) := by decide +kernel
theorem dX5_init_35 : decode cX5_init 35 = .ok (.newarray .int, 2) := by decide +kernel
theorem dX5_init_37 : decode cX5_init 37 = .ok (.putfield 22, 3) := by decide +kernel
theorem dX5_init_40 : decode cX5_init 40 = .ok (.return_, 1) := by decide +kernel
theorem dX5_add_0 : decode cX5_add 0 = .ok (.iload_n 3, 1) := by decide +kernel
theorem dX5_add_1 : decode cX5_add 1 = .ok (.sipush 400, 3) := by decide +kernel
theorem dX5_add_4 : decode cX5_add 4 = .ok (.aload_n 0, 1) := by decide +kernel
theorem dX5_add_5 : decode cX5_add 5 = .ok (.getfield 25, 3) := by decide +kernel
theorem dX5_add_8 : decode cX5_add 8 = .ok (.isub, 1) := by decide +kernel
theorem dX5_add_9 : decode cX5_add 9 = .ok (.if_icmp .le 5, 3) := by decide +kernel
theorem dX5_add_12 : decode cX5_add 12 = .ok (.iconst 0, 1) := by decide +kernel
theorem dX5_add_13 : decode cX5_add 13 = .ok (.ireturn, 1) := by decide +kernel
theorem dX5_add_14 : decode cX5_add 14 = .ok (.iload_n 3, 1) := by decide +kernel
theorem dX5_add_15 : decode cX5_add 15 = .ok (.iconst 1, 1) := by decide +kernel
theorem dX5_add_16 : decode cX5_add 16 = .ok (.isub, 1) := by decide +kernel
theorem dX5_add_17 : decode cX5_add 17 = .ok (.istore 4, 2) := by decide +kernel
theorem dX5_add_19 : decode cX5_add 19 = .ok (.iload 4, 2) := by decide +kernel
theorem dX5_add_21 : decode cX5_add 21 = .ok (.ifCond .lt 37, 3) := by decide +kernel
theorem dX5_add_24 : decode cX5_add 24 = .ok (.aload_n 0, 1) := by decide +kernel
theorem dX5_add_25 : decode cX5_add 25 = .ok (.getfield 9, 3) := by decide +kernel
theorem dX5_add_28 : decode cX5_add 28 = .ok (.aload_n 0, 1) := by decide +kernel
theorem dX5_add_29 : decode cX5_add 29 = .ok (.getfield 25, 3) := by decide +kernel
theorem dX5_add_32 : decode cX5_add 32 = .ok (.lload_n 1, 1) := by decide +kernel
theorem dX5_add_33 : decode cX5_add 33 = .ok (.bipush 8, 2) := by decide +kernel
theorem dX5_add_35 : decode cX5_add 35 = .ok (.iload 4, 2) := by decide +kernel
theorem dX5_add_37 : decode cX5_add 37 = .ok (.imul, 1) := by decide +kernel
theorem dX5_add_38 : decode cX5_add 38 = .ok (.lushr, 1) := by decide +kernel
theorem dX5_add_39 : decode cX5_add 39 = .ok (.l2i, 1) := by decide +kernel
theorem dX5_add_40 : decode cX5_add 40 = .ok (.i2b, 1) := by decide +kernel
theorem dX5_add_41 : decode cX5_add 41 = .ok (.bastore, 1) := by decide +kernel
theorem dX5_add_42 : decode cX5_add 42 = .ok (.aload_n 0, 1) := by decide +kernel
theorem dX5_add_43 : decode cX5_add 43 = .ok (.dup, 1) := by decide +kernel
theorem dX5_add_44 : decode cX5_add 44 = .ok (.getfield 25, 3) := by decide +kernel
theorem dX5_add_47 : decode cX5_add 47 = .ok (.iconst 1, 1) := by decide +kernel
theorem dX5_add_48 : decode cX5_add 48 = .ok (.iadd, 1) := by decide +kernel
theorem dX5_add_49 : decode cX5_add 49 = .ok (.putfield 25, 3) := by decide +kernel
theorem dX5_add_52 : decode cX5_add 52 = .ok (.iinc 4 (-1), 3) := by decide +kernel
theorem dX5_add_55 : decode cX5_add 55 = .ok (.goto (-36), 3) := by decide +kernel
theorem dX5_add_58 : decode cX5_add 58 = .ok (.iconst 1, 1) := by decide +kernel
theorem dX5_add_59 : decode cX5_add 59 = .ok (.ireturn, 1) := by decide +kernel
theorem dX5_split_0 : decode cX5_split 0 = .ok (.aload_n 0, 1) := by decide +kernel
theorem dX5_split_1 : decode cX5_split 1 = .ok (.iconst 0, 1) := by decide +kernel
theorem dX5_split_2 : decode cX5_split 2 = .ok (.putfield 29, 3) := by decide +kernel
theorem dX5_split_5 : decode cX5_split 5 = .ok (.aload_n 0, 1) := by decide +kernel
theorem dX5_split_6 : decode cX5_split 6 = .ok (.iconst 0, 1) := by decide +kernel
theorem dX5_split_7 : decode cX5_split 7 = .ok (.putfield 32, 3) := by decide +kernel
theorem dX5_split_10 : decode cX5_split 10 = .ok (.iconst 0, 1) := by decide +kernel
theorem dX5_split_11 : decode cX5_split 11 = .ok (.istore_n 1, 1) := by decide +kernel
theorem dX5_split_12 : decode cX5_split 12 = .ok (.iload_n 1, 1) := by decide +kernel
theorem dX5_split_13 : decode cX5_split 13 = .ok (.aload_n 0, 1) := by decide +kernel
theorem dX5_split_14 : decode cX5_split 14 = .ok (.getfield 25, 3) := by decide +kernel
theorem dX5_split_17 : decode cX5_split 17 = .ok (.if_icmp .ge 42, 3) := by decide +kernel
theorem dX5_split_20 : decode cX5_split 20 = .ok (.aload_n 0, 1) := by decide +kernel
theorem dX5_split_21 : decode cX5_split 21 = .ok (.iload_n 1, 1) := by decide +kernel
theorem dX5_split_22 : decode cX5_split 22 = .ok (.invokevirtual 35, 3) := by decide +kernel
theorem dX5_split_25 : decode cX5_split 25 = .ok (.ifCond .eq 28, 3) := by decide +kernel
theorem dX5_split_28 : decode cX5_split 28 = .ok (.aload_n 0, 1) := by decide +kernel
theorem dX5_split_29 : decode cX5_split 29 = .ok (.getfield 22, 3) := by decide +kernel
theorem dX5_split_32 : decode cX5_split 32 = .ok (.aload_n 0, 1) := by decide +kernel
theorem dX5_split_33 : decode cX5_split 33 = .ok (.getfield 29, 3) := by decide +kernel
theorem dX5_split_36 : decode cX5_split 36 = .ok (.iload_n 1, 1) := by decide +kernel
theorem dX5_split_37 : decode cX5_split 37 = .ok (.iastore, 1) := by decide +kernel
theorem dX5_split_38 : decode cX5_split 38 = .ok (.aload_n 0, 1) := by decide +kernel
theorem dX5_split_39 : decode cX5_split 39 = .ok (.iload_n 1, 1) := by decide +kernel
theorem dX5_split_40 : decode cX5_split 40 = .ok (.invokevirtual 39, 3) := by decide +kernel
theorem dX5_split_43 : decode cX5_split 43 = .ok (.aload_n 0, 1) := by decide +kernel
theorem dX5_split_44 : decode cX5_split 44 = .ok (.dup, 1) := by decide +kernel
theorem dX5_split_45 : decode cX5_split 45 = .ok (.getfield 29, 3) := by decide +kernel
theorem dX5_split_48 : decode cX5_split 48 = .ok (.iconst 1, 1) := by decide +kernel
theorem dX5_split_49 : decode cX5_split 49 = .ok (.iadd, 1) := by decide +kernel
theorem dX5_split_50 : decode cX5_split 50 = .ok (.putfield 29, 3) := by decide +kernel
theorem dX5_split_53 : decode cX5_split 53 = .ok (.iinc 1 1, 3) := by decide +kernel
theorem dX5_split_56 : decode cX5_split 56 = .ok (.goto (-44), 3) := by decide +kernel
theorem dX5_split_59 : decode cX5_split 59 = .ok (.aload_n 0, 1) := by decide +kernel
theorem dX5_split_60 : decode cX5_split 60 = .ok (.getfield 15, 3) := by decide +kernel
theorem dX5_split_63 : decode cX5_split 63 = .ok (.aload_n 0, 1) := by decide +kernel
theorem dX5_split_64 : decode cX5_split 64 = .ok (.getfield 29, 3) := by decide +kernel
theorem dX5_split_67 : decode cX5_split 67 = .ok (.iconst 0, 1) := by decide +kernel
theorem dX5_split_68 : decode cX5_split 68 = .ok (.iastore, 1) := by decide +kernel
theorem dX5_split_69 : decode cX5_split 69 = .ok (.aload_n 0, 1) := by decide +kernel
theorem dX5_split_70 : decode cX5_split 70 = .ok (.getfield 22, 3) := by decide +kernel
theorem dX5_split_73 : decode cX5_split 73 = .ok (.aload_n 0, 1) := by decide +kernel
theorem dX5_split_74 : decode cX5_split 74 = .ok (.getfield 29, 3) := by decide +kernel
theorem dX5_split_77 : decode cX5_split 77 = .ok (.aload_n 0, 1) := by decide +kernel
theorem dX5_split_78 : decode cX5_split 78 = .ok (.getfield 25, 3) := by decide +kernel
theorem dX5_split_81 : decode cX5_split 81 = .ok (.iastore, 1) := by decide +kernel
theorem dX5_split_82 : decode cX5_split 82 = .ok (.return_, 1) := by decide +kernel
theorem dX5_isAt_0 : decode cX5_isAt 0 = .ok (.aload_n 0, 1) := by decide +kernel
theorem dX5_isAt_1 : decode cX5_isAt 1 = .ok (.getfield 15, 3) := by decide +kernel
theorem dX5_isAt_4 : decode cX5_isAt 4 = .ok (.aload_n 0, 1) := by decide +kernel
theorem dX5_isAt_5 : decode cX5_isAt 5 = .ok (.getfield 32, 3) := by decide +kernel
theorem dX5_isAt_8 : decode cX5_isAt 8 = .ok (.iaload, 1) := by decide +kernel
theorem dX5_isAt_9 : decode cX5_isAt 9 = .ok (.iload_n 1, 1) := by decide +kernel
theorem dX5_isAt_10 : decode cX5_isAt 10 = .ok (.if_icmp .ne 7, 3) := by decide +kernel
theorem dX5_isAt_13 : decode cX5_isAt 13 = .ok (.iconst 1, 1) := by decide +kernel
theorem dX5_isAt_14 : decode cX5_isAt 14 = .ok (.goto 4, 3) := by decide +kernel
theorem dX5_isAt_17 : decode cX5_isAt 17 = .ok (.iconst 0, 1) := by decide +kernel
theorem dX5_isAt_18 : decode cX5_isAt 18 = .ok (.ireturn, 1) := by decide +kernel
theorem dX5_fault_0 : decode cX5_fault 0 = .ok (.aload_n 0, 1) := by decide +kernel
theorem dX5_fault_1 : decode cX5_fault 1 = .ok (.getfield 22, 3) := by decide +kernel
theorem dX5_fault_4 : decode cX5_fault 4 = .ok (.aload_n 0, 1) := by decide +kernel
theorem dX5_fault_5 : decode cX5_fault 5 = .ok (.getfield 32, 3) := by decide +kernel
theorem dX5_fault_8 : decode cX5_fault 8 = .ok (.iaload, 1) := by decide +kernel
theorem dX5_fault_9 : decode cX5_fault 9 = .ok (.ireturn, 1) := by decide +kernel
theorem dX5_take_0 : decode cX5_take 0 = .ok (.aload_n 0, 1) := by decide +kernel
theorem dX5_take_1 : decode cX5_take 1 = .ok (.getfield 15, 3) := by decide +kernel
theorem dX5_take_4 : decode cX5_take 4 = .ok (.aload_n 0, 1) := by decide +kernel
theorem dX5_take_5 : decode cX5_take 5 = .ok (.getfield 32, 3) := by decide +kernel
theorem dX5_take_8 : decode cX5_take 8 = .ok (.iaload, 1) := by decide +kernel
theorem dX5_take_9 : decode cX5_take 9 = .ok (.iload_n 1, 1) := by decide +kernel
theorem dX5_take_10 : decode cX5_take 10 = .ok (.if_icmp .ne 14, 3) := by decide +kernel
theorem dX5_take_13 : decode cX5_take 13 = .ok (.aload_n 0, 1) := by decide +kernel
theorem dX5_take_14 : decode cX5_take 14 = .ok (.getfield 32, 3) := by decide +kernel
theorem dX5_take_17 : decode cX5_take 17 = .ok (.aload_n 0, 1) := by decide +kernel
theorem dX5_take_18 : decode cX5_take 18 = .ok (.getfield 29, 3) := by decide +kernel
theorem dX5_take_21 : decode cX5_take 21 = .ok (.if_icmp .lt 5, 3) := by decide +kernel
theorem dX5_take_24 : decode cX5_take 24 = .ok (.iconst 0, 1) := by decide +kernel
theorem dX5_take_25 : decode cX5_take 25 = .ok (.ireturn, 1) := by decide +kernel
theorem dX5_take_26 : decode cX5_take 26 = .ok (.aload_n 0, 1) := by decide +kernel
theorem dX5_take_27 : decode cX5_take 27 = .ok (.aload_n 0, 1) := by decide +kernel
theorem dX5_take_28 : decode cX5_take 28 = .ok (.getfield 19, 3) := by decide +kernel
theorem dX5_take_31 : decode cX5_take 31 = .ok (.aload_n 0, 1) := by decide +kernel
theorem dX5_take_32 : decode cX5_take 32 = .ok (.getfield 32, 3) := by decide +kernel
theorem dX5_take_35 : decode cX5_take 35 = .ok (.iaload, 1) := by decide +kernel
theorem dX5_take_36 : decode cX5_take 36 = .ok (.putfield 43, 3) := by decide +kernel
theorem dX5_take_39 : decode cX5_take 39 = .ok (.aload_n 0, 1) := by decide +kernel
theorem dX5_take_40 : decode cX5_take 40 = .ok (.dup, 1) := by decide +kernel
theorem dX5_take_41 : decode cX5_take 41 = .ok (.getfield 32, 3) := by decide +kernel
theorem dX5_take_44 : decode cX5_take 44 = .ok (.iconst 1, 1) := by decide +kernel
theorem dX5_take_45 : decode cX5_take 45 = .ok (.iadd, 1) := by decide +kernel
theorem dX5_take_46 : decode cX5_take 46 = .ok (.putfield 32, 3) := by decide +kernel
theorem dX5_take_49 : decode cX5_take 49 = .ok (.iconst 1, 1) := by decide +kernel
theorem dX5_take_50 : decode cX5_take 50 = .ok (.ireturn, 1) := by decide +kernel
theorem dX5_takeNumber_0 : decode cX5_takeNumber 0 = .ok (.aload_n 0, 1) := by decide +kernel
theorem dX5_takeNumber_1 : decode cX5_takeNumber 1 = .ok (.getfield 19, 3) := by decide +kernel
theorem dX5_takeNumber_4 : decode cX5_takeNumber 4 = .ok (.aload_n 0, 1) := by decide +kernel
theorem dX5_takeNumber_5 : decode cX5_takeNumber 5 = .ok (.getfield 32, 3) := by decide +kernel
theorem dX5_takeNumber_8 : decode cX5_takeNumber 8 = .ok (.iaload, 1) := by decide +kernel
theorem dX5_takeNumber_9 : decode cX5_takeNumber 9 = .ok (.iload_n 1, 1) := by decide +kernel
theorem dX5_takeNumber_10 : decode cX5_takeNumber 10 = .ok (.if_icmp .lt 28, 3) := by decide +kernel
theorem dX5_takeNumber_13 : decode cX5_takeNumber 13 = .ok (.aload_n 0, 1) := by decide +kernel
theorem dX5_takeNumber_14 : decode cX5_takeNumber 14 = .ok (.getfield 19, 3) := by decide +kernel
theorem dX5_takeNumber_17 : decode cX5_takeNumber 17 = .ok (.aload_n 0, 1) := by decide +kernel
theorem dX5_takeNumber_18 : decode cX5_takeNumber 18 = .ok (.getfield 32, 3) := by decide +kernel
theorem dX5_takeNumber_21 : decode cX5_takeNumber 21 = .ok (.iaload, 1) := by decide +kernel
theorem dX5_takeNumber_22 : decode cX5_takeNumber 22 = .ok (.iload_n 2, 1) := by decide +kernel
theorem dX5_takeNumber_23 : decode cX5_takeNumber 23 = .ok (.if_icmp .gt 15, 3) := by decide +kernel
theorem dX5_takeNumber_26 : decode cX5_takeNumber 26 = .ok (.aload_n 0, 1) := by decide +kernel
theorem dX5_takeNumber_27 : decode cX5_takeNumber 27 = .ok (.iconst 2, 1) := by decide +kernel
theorem dX5_takeNumber_28 : decode cX5_takeNumber 28 = .ok (.invokevirtual 46, 3) := by decide +kernel
theorem dX5_takeNumber_31 : decode cX5_takeNumber 31 = .ok (.ifCond .eq 7, 3) := by decide +kernel
theorem dX5_takeNumber_34 : decode cX5_takeNumber 34 = .ok (.iconst 1, 1) := by decide +kernel
theorem dX5_takeNumber_35 : decode cX5_takeNumber 35 = .ok (.goto 4, 3) := by decide +kernel
theorem dX5_takeNumber_38 : decode cX5_takeNumber 38 = .ok (.iconst 0, 1) := by decide +kernel
theorem dX5_takeNumber_39 : decode cX5_takeNumber 39 = .ok (.ireturn, 1) := by decide +kernel
theorem dX5_takeColourBut_0 : decode cX5_takeColourBut 0 = .ok (.aload_n 0, 1) := by decide +kernel
theorem dX5_takeColourBut_1 : decode cX5_takeColourBut 1 = .ok (.getfield 19, 3) := by decide +kernel
theorem dX5_takeColourBut_4 : decode cX5_takeColourBut 4 = .ok (.aload_n 0, 1) := by decide +kernel
theorem dX5_takeColourBut_5 : decode cX5_takeColourBut 5 = .ok (.getfield 32, 3) := by decide +kernel
theorem dX5_takeColourBut_8 : decode cX5_takeColourBut 8 = .ok (.iaload, 1) := by decide +kernel
theorem dX5_takeColourBut_9 : decode cX5_takeColourBut 9 = .ok (.iload_n 1, 1) := by decide +kernel
theorem dX5_takeColourBut_10 : decode cX5_takeColourBut 10 = .ok (.if_icmp .eq 15, 3) := by decide +kernel
theorem dX5_takeColourBut_13 : decode cX5_takeColourBut 13 = .ok (.aload_n 0, 1) := by decide +kernel
theorem dX5_takeColourBut_14 : decode cX5_takeColourBut 14 = .ok (.iconst 3, 1) := by decide +kernel
theorem dX5_takeColourBut_15 : decode cX5_takeColourBut 15 = .ok (.invokevirtual 46, 3) := by decide +kernel
theorem dX5_takeColourBut_18 : decode cX5_takeColourBut 18 = .ok (.ifCond .eq 7, 3) := by decide +kernel
theorem dX5_takeColourBut_21 : decode cX5_takeColourBut 21 = .ok (.iconst 1, 1) := by decide +kernel
theorem dX5_takeColourBut_22 : decode cX5_takeColourBut 22 = .ok (.goto 4, 3) := by decide +kernel
theorem dX5_takeColourBut_25 : decode cX5_takeColourBut 25 = .ok (.iconst 0, 1) := by decide +kernel
theorem dX5_takeColourBut_26 : decode cX5_takeColourBut 26 = .ok (.ireturn, 1) := by decide +kernel
theorem dX5_beginsToken_0 : decode cX5_beginsToken 0 = .ok (.aload_n 0, 1) := by decide +kernel
theorem dX5_beginsToken_1 : decode cX5_beginsToken 1 = .ok (.getfield 9, 3) := by decide +kernel
theorem dX5_beginsToken_4 : decode cX5_beginsToken 4 = .ok (.iload_n 1, 1) := by decide +kernel
theorem dX5_beginsToken_5 : decode cX5_beginsToken 5 = .ok (.baload, 1) := by decide +kernel
theorem dX5_beginsToken_6 : decode cX5_beginsToken 6 = .ok (.bipush 32, 2) := by decide +kernel
theorem dX5_beginsToken_8 : decode cX5_beginsToken 8 = .ok (.if_icmp .ne 5, 3) := by decide +kernel
theorem dX5_beginsToken_11 : decode cX5_beginsToken 11 = .ok (.iconst 0, 1) := by decide +kernel
theorem dX5_beginsToken_12 : decode cX5_beginsToken 12 = .ok (.ireturn, 1) := by decide +kernel
theorem dX5_beginsToken_13 : decode cX5_beginsToken 13 = .ok (.iload_n 1, 1) := by decide +kernel
theorem dX5_beginsToken_14 : decode cX5_beginsToken 14 = .ok (.ifCond .ne 5, 3) := by decide +kernel
theorem dX5_beginsToken_17 : decode cX5_beginsToken 17 = .ok (.iconst 1, 1) := by decide +kernel
theorem dX5_beginsToken_18 : decode cX5_beginsToken 18 = .ok (.ireturn, 1) := by decide +kernel
theorem dX5_beginsToken_19 : decode cX5_beginsToken 19 = .ok (.aload_n 0, 1) := by decide +kernel
theorem dX5_beginsToken_20 : decode cX5_beginsToken 20 = .ok (.getfield 9, 3) := by decide +kernel
theorem dX5_beginsToken_23 : decode cX5_beginsToken 23 = .ok (.iload_n 1, 1) := by decide +kernel
theorem dX5_beginsToken_24 : decode cX5_beginsToken 24 = .ok (.iconst 1, 1) := by decide +kernel
theorem dX5_beginsToken_25 : decode cX5_beginsToken 25 = .ok (.isub, 1) := by decide +kernel
theorem dX5_beginsToken_26 : decode cX5_beginsToken 26 = .ok (.baload, 1) := by decide +kernel
theorem dX5_beginsToken_27 : decode cX5_beginsToken 27 = .ok (.invokestatic 49, 3) := by decide +kernel
theorem dX5_beginsToken_30 : decode cX5_beginsToken 30 = .ok (.ifCond .eq 19, 3) := by decide +kernel
theorem dX5_beginsToken_33 : decode cX5_beginsToken 33 = .ok (.aload_n 0, 1) := by decide +kernel
theorem dX5_beginsToken_34 : decode cX5_beginsToken 34 = .ok (.getfield 9, 3) := by decide +kernel
theorem dX5_beginsToken_37 : decode cX5_beginsToken 37 = .ok (.iload_n 1, 1) := by decide +kernel
theorem dX5_beginsToken_38 : decode cX5_beginsToken 38 = .ok (.baload, 1) := by decide +kernel
theorem dX5_beginsToken_39 : decode cX5_beginsToken 39 = .ok (.invokestatic 49, 3) := by decide +kernel
theorem dX5_beginsToken_42 : decode cX5_beginsToken 42 = .ok (.ifCond .eq 7, 3) := by decide +kernel
theorem dX5_beginsToken_45 : decode cX5_beginsToken 45 = .ok (.iconst 1, 1) := by decide +kernel
theorem dX5_beginsToken_46 : decode cX5_beginsToken 46 = .ok (.goto 4, 3) := by decide +kernel
theorem dX5_beginsToken_49 : decode cX5_beginsToken 49 = .ok (.iconst 0, 1) := by decide +kernel
theorem dX5_beginsToken_50 : decode cX5_beginsToken 50 = .ok (.istore_n 2, 1) := by decide +kernel
theorem dX5_beginsToken_51 : decode cX5_beginsToken 51 = .ok (.aload_n 0, 1) := by decide +kernel
theorem dX5_beginsToken_52 : decode cX5_beginsToken 52 = .ok (.getfield 9, 3) := by decide +kernel
theorem dX5_beginsToken_55 : decode cX5_beginsToken 55 = .ok (.iload_n 1, 1) := by decide +kernel
theorem dX5_beginsToken_56 : decode cX5_beginsToken 56 = .ok (.iconst 1, 1) := by decide +kernel
theorem dX5_beginsToken_57 : decode cX5_beginsToken 57 = .ok (.isub, 1) := by decide +kernel
theorem dX5_beginsToken_58 : decode cX5_beginsToken 58 = .ok (.baload, 1) := by decide +kernel
theorem dX5_beginsToken_59 : decode cX5_beginsToken 59 = .ok (.invokestatic 52, 3) := by decide +kernel
theorem dX5_beginsToken_62 : decode cX5_beginsToken 62 = .ok (.ifCond .eq 19, 3) := by decide +kernel
theorem dX5_beginsToken_65 : decode cX5_beginsToken 65 = .ok (.aload_n 0, 1) := by decide +kernel
theorem dX5_beginsToken_66 : decode cX5_beginsToken 66 = .ok (.getfield 9, 3) := by decide +kernel
theorem dX5_beginsToken_69 : decode cX5_beginsToken 69 = .ok (.iload_n 1, 1) := by decide +kernel
theorem dX5_beginsToken_70 : decode cX5_beginsToken 70 = .ok (.baload, 1) := by decide +kernel
theorem dX5_beginsToken_71 : decode cX5_beginsToken 71 = .ok (.invokestatic 52, 3) := by decide +kernel
theorem dX5_beginsToken_74 : decode cX5_beginsToken 74 = .ok (.ifCond .eq 7, 3) := by decide +kernel
theorem dX5_beginsToken_77 : decode cX5_beginsToken 77 = .ok (.iconst 1, 1) := by decide +kernel
theorem dX5_beginsToken_78 : decode cX5_beginsToken 78 = .ok (.goto 4, 3) := by decide +kernel
theorem dX5_beginsToken_81 : decode cX5_beginsToken 81 = .ok (.iconst 0, 1) := by decide +kernel
theorem dX5_beginsToken_82 : decode cX5_beginsToken 82 = .ok (.istore_n 3, 1) := by decide +kernel
theorem dX5_beginsToken_83 : decode cX5_beginsToken 83 = .ok (.iload_n 2, 1) := by decide +kernel
theorem dX5_beginsToken_84 : decode cX5_beginsToken 84 = .ok (.ifCond .ne 11, 3) := by decide +kernel
theorem dX5_beginsToken_87 : decode cX5_beginsToken 87 = .ok (.iload_n 3, 1) := by decide +kernel
theorem dX5_beginsToken_88 : decode cX5_beginsToken 88 = .ok (.ifCond .ne 7, 3) := by decide +kernel
theorem dX5_beginsToken_91 : decode cX5_beginsToken 91 = .ok (.iconst 1, 1) := by decide +kernel
theorem dX5_beginsToken_92 : decode cX5_beginsToken 92 = .ok (.goto 4, 3) := by decide +kernel
theorem dX5_beginsToken_95 : decode cX5_beginsToken 95 = .ok (.iconst 0, 1) := by decide +kernel
theorem dX5_beginsToken_96 : decode cX5_beginsToken 96 = .ok (.ireturn, 1) := by decide +kernel
theorem dX5_readToken_0 : decode cX5_readToken 0 = .ok (.aload_n 0, 1) := by decide +kernel
theorem dX5_readToken_1 : decode cX5_readToken 1 = .ok (.getfield 19, 3) := by decide +kernel
theorem dX5_readToken_4 : decode cX5_readToken 4 = .ok (.aload_n 0, 1) := by decide +kernel
theorem dX5_readToken_5 : decode cX5_readToken 5 = .ok (.getfield 29, 3) := by decide +kernel
theorem dX5_readToken_8 : decode cX5_readToken 8 = .ok (.iconst 0, 1) := by decide +kernel
theorem dX5_readToken_9 : decode cX5_readToken 9 = .ok (.iastore, 1) := by decide +kernel
theorem dX5_readToken_10 : decode cX5_readToken 10 = .ok (.aload_n 0, 1) := by decide +kernel
theorem dX5_readToken_11 : decode cX5_readToken 11 = .ok (.getfield 9, 3) := by decide +kernel
theorem dX5_readToken_14 : decode cX5_readToken 14 = .ok (.iload_n 1, 1) := by decide +kernel
theorem dX5_readToken_15 : decode cX5_readToken 15 = .ok (.baload, 1) := by decide +kernel
theorem dX5_readToken_16 : decode cX5_readToken 16 = .ok (.invokestatic 52, 3) := by decide +kernel
theorem dX5_readToken_19 : decode cX5_readToken 19 = .ok (.ifCond .eq 11, 3) := by decide +kernel
theorem dX5_readToken_22 : decode cX5_readToken 22 = .ok (.aload_n 0, 1) := by decide +kernel
theorem dX5_readToken_23 : decode cX5_readToken 23 = .ok (.iload_n 1, 1) := by decide +kernel
theorem dX5_readToken_24 : decode cX5_readToken 24 = .ok (.invokevirtual 55, 3) := by decide +kernel
theorem dX5_readToken_27 : decode cX5_readToken 27 = .ok (.goto 49, 3) := by decide +kernel
theorem dX5_readToken_30 : decode cX5_readToken 30 = .ok (.aload_n 0, 1) := by decide +kernel
theorem dX5_readToken_31 : decode cX5_readToken 31 = .ok (.getfield 9, 3) := by decide +kernel
theorem dX5_readToken_34 : decode cX5_readToken 34 = .ok (.iload_n 1, 1) := by decide +kernel
theorem dX5_readToken_35 : decode cX5_readToken 35 = .ok (.baload, 1) := by decide +kernel
theorem dX5_readToken_36 : decode cX5_readToken 36 = .ok (.invokestatic 49, 3) := by decide +kernel
theorem dX5_readToken_39 : decode cX5_readToken 39 = .ok (.ifCond .eq 11, 3) := by decide +kernel
theorem dX5_readToken_42 : decode cX5_readToken 42 = .ok (.aload_n 0, 1) := by decide +kernel
theorem dX5_readToken_43 : decode cX5_readToken 43 = .ok (.iload_n 1, 1) := by decide +kernel
theorem dX5_readToken_44 : decode cX5_readToken 44 = .ok (.invokevirtual 58, 3) := by decide +kernel
theorem dX5_readToken_47 : decode cX5_readToken 47 = .ok (.goto 29, 3) := by decide +kernel
theorem dX5_readToken_50 : decode cX5_readToken 50 = .ok (.aload_n 0, 1) := by decide +kernel
theorem dX5_readToken_51 : decode cX5_readToken 51 = .ok (.getfield 15, 3) := by decide +kernel
theorem dX5_readToken_54 : decode cX5_readToken 54 = .ok (.aload_n 0, 1) := by decide +kernel
theorem dX5_readToken_55 : decode cX5_readToken 55 = .ok (.getfield 29, 3) := by decide +kernel
theorem dX5_readToken_58 : decode cX5_readToken 58 = .ok (.aload_n 0, 1) := by decide +kernel
theorem dX5_readToken_59 : decode cX5_readToken 59 = .ok (.getfield 9, 3) := by decide +kernel
theorem dX5_readToken_62 : decode cX5_readToken 62 = .ok (.iload_n 1, 1) := by decide +kernel
theorem dX5_readToken_63 : decode cX5_readToken 63 = .ok (.baload, 1) := by decide +kernel
theorem dX5_readToken_64 : decode cX5_readToken 64 = .ok (.bipush 59, 2) := by decide +kernel
theorem dX5_readToken_66 : decode cX5_readToken 66 = .ok (.if_icmp .ne 7, 3) := by decide +kernel
theorem dX5_readToken_69 : decode cX5_readToken 69 = .ok (.iconst 1, 1) := by decide +kernel
theorem dX5_readToken_70 : decode cX5_readToken 70 = .ok (.goto 5, 3) := by decide +kernel
theorem dX5_readToken_73 : decode cX5_readToken 73 = .ok (.bipush 9, 2) := by decide +kernel
theorem dX5_readToken_75 : decode cX5_readToken 75 = .ok (.iastore, 1) := by decide +kernel
theorem dX5_readToken_76 : decode cX5_readToken 76 = .ok (.return_, 1) := by decide +kernel
theorem dX5_readNumber_0 : decode cX5_readNumber 0 = .ok (.iconst 0, 1) := by decide +kernel
theorem dX5_readNumber_1 : decode cX5_readNumber 1 = .ok (.istore_n 2, 1) := by decide +kernel
theorem dX5_readNumber_2 : decode cX5_readNumber 2 = .ok (.iload_n 1, 1) := by decide +kernel
theorem dX5_readNumber_3 : decode cX5_readNumber 3 = .ok (.istore_n 3, 1) := by decide +kernel
theorem dX5_readNumber_4 : decode cX5_readNumber 4 = .ok (.iload_n 3, 1) := by decide +kernel
theorem dX5_readNumber_5 : decode cX5_readNumber 5 = .ok (.aload_n 0, 1) := by decide +kernel
theorem dX5_readNumber_6 : decode cX5_readNumber 6 = .ok (.getfield 25, 3) := by decide +kernel
theorem dX5_readNumber_9 : decode cX5_readNumber 9 = .ok (.if_icmp .ge 43, 3) := by decide +kernel
theorem dX5_readNumber_12 : decode cX5_readNumber 12 = .ok (.aload_n 0, 1) := by decide +kernel
theorem dX5_readNumber_13 : decode cX5_readNumber 13 = .ok (.getfield 9, 3) := by decide +kernel
theorem dX5_readNumber_16 : decode cX5_readNumber 16 = .ok (.iload_n 3, 1) := by decide +kernel
theorem dX5_readNumber_17 : decode cX5_readNumber 17 = .ok (.baload, 1) := by decide +kernel
theorem dX5_readNumber_18 : decode cX5_readNumber 18 = .ok (.invokestatic 52, 3) := by decide +kernel
theorem dX5_readNumber_21 : decode cX5_readNumber 21 = .ok (.ifCond .eq 31, 3) := by decide +kernel
theorem dX5_readNumber_24 : decode cX5_readNumber 24 = .ok (.iload_n 2, 1) := by decide +kernel
theorem dX5_readNumber_25 : decode cX5_readNumber 25 = .ok (.sipush 999, 3) := by decide +kernel
theorem dX5_readNumber_28 : decode cX5_readNumber 28 = .ok (.if_icmp .gt 18, 3) := by decide +kernel
theorem dX5_readNumber_31 : decode cX5_readNumber 31 = .ok (.bipush 10, 2) := by decide +kernel
theorem dX5_readNumber_33 : decode cX5_readNumber 33 = .ok (.iload_n 2, 1) := by decide +kernel
theorem dX5_readNumber_34 : decode cX5_readNumber 34 = .ok (.imul, 1) := by decide +kernel
theorem dX5_readNumber_35 : decode cX5_readNumber 35 = .ok (.aload_n 0, 1) := by decide +kernel
theorem dX5_readNumber_36 : decode cX5_readNumber 36 = .ok (.getfield 9, 3) := by decide +kernel
theorem dX5_readNumber_39 : decode cX5_readNumber 39 = .ok (.iload_n 3, 1) := by decide +kernel
theorem dX5_readNumber_40 : decode cX5_readNumber 40 = .ok (.baload, 1) := by decide +kernel
theorem dX5_readNumber_41 : decode cX5_readNumber 41 = .ok (.iadd, 1) := by decide +kernel
theorem dX5_readNumber_42 : decode cX5_readNumber 42 = .ok (.bipush 48, 2) := by decide +kernel
theorem dX5_readNumber_44 : decode cX5_readNumber 44 = .ok (.isub, 1) := by decide +kernel
theorem dX5_readNumber_45 : decode cX5_readNumber 45 = .ok (.istore_n 2, 1) := by decide +kernel
theorem dX5_readNumber_46 : decode cX5_readNumber 46 = .ok (.iinc 3 1, 3) := by decide +kernel
theorem dX5_readNumber_49 : decode cX5_readNumber 49 = .ok (.goto (-45), 3) := by decide +kernel
theorem dX5_readNumber_52 : decode cX5_readNumber 52 = .ok (.aload_n 0, 1) := by decide +kernel
theorem dX5_readNumber_53 : decode cX5_readNumber 53 = .ok (.getfield 9, 3) := by decide +kernel
theorem dX5_readNumber_56 : decode cX5_readNumber 56 = .ok (.iload_n 1, 1) := by decide +kernel
theorem dX5_readNumber_57 : decode cX5_readNumber 57 = .ok (.baload, 1) := by decide +kernel
theorem dX5_readNumber_58 : decode cX5_readNumber 58 = .ok (.bipush 48, 2) := by decide +kernel
theorem dX5_readNumber_60 : decode cX5_readNumber 60 = .ok (.if_icmp .ne 14, 3) := by decide +kernel
theorem dX5_readNumber_63 : decode cX5_readNumber 63 = .ok (.iload_n 3, 1) := by decide +kernel
theorem dX5_readNumber_64 : decode cX5_readNumber 64 = .ok (.iload_n 1, 1) := by decide +kernel
theorem dX5_readNumber_65 : decode cX5_readNumber 65 = .ok (.iconst 1, 1) := by decide +kernel
theorem dX5_readNumber_66 : decode cX5_readNumber 66 = .ok (.iadd, 1) := by decide +kernel
theorem dX5_readNumber_67 : decode cX5_readNumber 67 = .ok (.if_icmp .le 7, 3) := by decide +kernel
theorem dX5_readNumber_70 : decode cX5_readNumber 70 = .ok (.iconst 1, 1) := by decide +kernel
theorem dX5_readNumber_71 : decode cX5_readNumber 71 = .ok (.goto 4, 3) := by decide +kernel
theorem dX5_readNumber_74 : decode cX5_readNumber 74 = .ok (.iconst 0, 1) := by decide +kernel
theorem dX5_readNumber_75 : decode cX5_readNumber 75 = .ok (.istore 4, 2) := by decide +kernel
theorem dX5_readNumber_77 : decode cX5_readNumber 77 = .ok (.aload_n 0, 1) := by decide +kernel
theorem dX5_readNumber_78 : decode cX5_readNumber 78 = .ok (.getfield 15, 3) := by decide +kernel
theorem dX5_readNumber_81 : decode cX5_readNumber 81 = .ok (.aload_n 0, 1) := by decide +kernel
theorem dX5_readNumber_82 : decode cX5_readNumber 82 = .ok (.getfield 29, 3) := by decide +kernel
theorem dX5_readNumber_85 : decode cX5_readNumber 85 = .ok (.iload_n 2, 1) := by decide +kernel
theorem dX5_readNumber_86 : decode cX5_readNumber 86 = .ok (.sipush 999, 3) := by decide +kernel
theorem dX5_readNumber_89 : decode cX5_readNumber 89 = .ok (.if_icmp .gt 8, 3) := by decide +kernel
theorem dX5_readNumber_92 : decode cX5_readNumber 92 = .ok (.iload 4, 2) := by decide +kernel
theorem dX5_readNumber_94 : decode cX5_readNumber 94 = .ok (.ifCond .eq 8, 3) := by decide +kernel
theorem dX5_readNumber_97 : decode cX5_readNumber 97 = .ok (.bipush 9, 2) := by decide +kernel
theorem dX5_readNumber_99 : decode cX5_readNumber 99 = .ok (.goto 4, 3) := by decide +kernel
theorem dX5_readNumber_102 : decode cX5_readNumber 102 = .ok (.iconst 2, 1) := by decide +kernel
theorem dX5_readNumber_103 : decode cX5_readNumber 103 = .ok (.iastore, 1) := by decide +kernel
theorem dX5_readNumber_104 : decode cX5_readNumber 104 = .ok (.aload_n 0, 1) := by decide +kernel
theorem dX5_readNumber_105 : decode cX5_readNumber 105 = .ok (.getfield 19, 3) := by decide +kernel
theorem dX5_readNumber_108 : decode cX5_readNumber 108 = .ok (.aload_n 0, 1) := by decide +kernel
theorem dX5_readNumber_109 : decode cX5_readNumber 109 = .ok (.getfield 29, 3) := by decide +kernel
theorem dX5_readNumber_112 : decode cX5_readNumber 112 = .ok (.iload_n 2, 1) := by decide +kernel
theorem dX5_readNumber_113 : decode cX5_readNumber 113 = .ok (.iastore, 1) := by decide +kernel
theorem dX5_readNumber_114 : decode cX5_readNumber 114 = .ok (.return_, 1) := by decide +kernel
theorem dX5_readWord_0 : decode cX5_readWord 0 = .ok (.iload_n 1, 1) := by decide +kernel
theorem dX5_readWord_1 : decode cX5_readWord 1 = .ok (.istore_n 2, 1) := by decide +kernel
theorem dX5_readWord_2 : decode cX5_readWord 2 = .ok (.iload_n 2, 1) := by decide +kernel
theorem dX5_readWord_3 : decode cX5_readWord 3 = .ok (.aload_n 0, 1) := by decide +kernel
theorem dX5_readWord_4 : decode cX5_readWord 4 = .ok (.getfield 25, 3) := by decide +kernel
theorem dX5_readWord_7 : decode cX5_readWord 7 = .ok (.if_icmp .ge 21, 3) := by decide +kernel
theorem dX5_readWord_10 : decode cX5_readWord 10 = .ok (.aload_n 0, 1) := by decide +kernel
theorem dX5_readWord_11 : decode cX5_readWord 11 = .ok (.getfield 9, 3) := by decide +kernel
theorem dX5_readWord_14 : decode cX5_readWord 14 = .ok (.iload_n 2, 1) := by decide +kernel
theorem dX5_readWord_15 : decode cX5_readWord 15 = .ok (.baload, 1) := by decide +kernel
theorem dX5_readWord_16 : decode cX5_readWord 16 = .ok (.invokestatic 49, 3) := by decide +kernel
theorem dX5_readWord_19 : decode cX5_readWord 19 = .ok (.ifCond .eq 9, 3) := by decide +kernel
theorem dX5_readWord_22 : decode cX5_readWord 22 = .ok (.iinc 2 1, 3) := by decide +kernel
theorem dX5_readWord_25 : decode cX5_readWord 25 = .ok (.goto (-23), 3) := by decide +kernel
theorem dX5_readWord_28 : decode cX5_readWord 28 = .ok (.iload_n 2, 1) := by decide +kernel
theorem dX5_readWord_29 : decode cX5_readWord 29 = .ok (.iload_n 1, 1) := by decide +kernel
theorem dX5_readWord_30 : decode cX5_readWord 30 = .ok (.iconst 1, 1) := by decide +kernel
theorem dX5_readWord_31 : decode cX5_readWord 31 = .ok (.iadd, 1) := by decide +kernel
theorem dX5_readWord_32 : decode cX5_readWord 32 = .ok (.if_icmp .le 19, 3) := by decide +kernel
theorem dX5_readWord_35 : decode cX5_readWord 35 = .ok (.aload_n 0, 1) := by decide +kernel
theorem dX5_readWord_36 : decode cX5_readWord 36 = .ok (.getfield 15, 3) := by decide +kernel
theorem dX5_readWord_39 : decode cX5_readWord 39 = .ok (.aload_n 0, 1) := by decide +kernel
theorem dX5_readWord_40 : decode cX5_readWord 40 = .ok (.getfield 29, 3) := by decide +kernel
theorem dX5_readWord_43 : decode cX5_readWord 43 = .ok (.aload_n 0, 1) := by decide +kernel
theorem dX5_readWord_44 : decode cX5_readWord 44 = .ok (.iload_n 1, 1) := by decide +kernel
theorem dX5_readWord_45 : decode cX5_readWord 45 = .ok (.iload_n 2, 1) := by decide +kernel
theorem dX5_readWord_46 : decode cX5_readWord 46 = .ok (.invokevirtual 61, 3) := by decide +kernel
theorem dX5_readWord_49 : decode cX5_readWord 49 = .ok (.iastore, 1) := by decide +kernel
theorem dX5_readWord_50 : decode cX5_readWord 50 = .ok (.return_, 1) := by decide +kernel
theorem dX5_readWord_51 : decode cX5_readWord 51 = .ok (.aload_n 0, 1) := by decide +kernel
theorem dX5_readWord_52 : decode cX5_readWord 52 = .ok (.getfield 9, 3) := by decide +kernel
theorem dX5_readWord_55 : decode cX5_readWord 55 = .ok (.iload_n 1, 1) := by decide +kernel
theorem dX5_readWord_56 : decode cX5_readWord 56 = .ok (.baload, 1) := by decide +kernel
theorem dX5_readWord_57 : decode cX5_readWord 57 = .ok (.bipush 97, 2) := by decide +kernel
theorem dX5_readWord_59 : decode cX5_readWord 59 = .ok (.isub, 1) := by decide +kernel
theorem dX5_readWord_60 : decode cX5_readWord 60 = .ok (.istore_n 3, 1) := by decide +kernel
theorem dX5_readWord_61 : decode cX5_readWord 61 = .ok (.aload_n 0, 1) := by decide +kernel
theorem dX5_readWord_62 : decode cX5_readWord 62 = .ok (.getfield 15, 3) := by decide +kernel
theorem dX5_readWord_65 : decode cX5_readWord 65 = .ok (.aload_n 0, 1) := by decide +kernel
theorem dX5_readWord_66 : decode cX5_readWord 66 = .ok (.getfield 29, 3) := by decide +kernel
theorem dX5_readWord_69 : decode cX5_readWord 69 = .ok (.iload_n 3, 1) := by decide +kernel
theorem dX5_readWord_70 : decode cX5_readWord 70 = .ok (.bipush 12, 2) := by decide +kernel
theorem dX5_readWord_72 : decode cX5_readWord 72 = .ok (.if_icmp .ge 7, 3) := by decide +kernel
theorem dX5_readWord_75 : decode cX5_readWord 75 = .ok (.iconst 3, 1) := by decide +kernel
theorem dX5_readWord_76 : decode cX5_readWord 76 = .ok (.goto 5, 3) := by decide +kernel
theorem dX5_readWord_79 : decode cX5_readWord 79 = .ok (.bipush 9, 2) := by decide +kernel
theorem dX5_readWord_81 : decode cX5_readWord 81 = .ok (.iastore, 1) := by decide +kernel
theorem dX5_readWord_82 : decode cX5_readWord 82 = .ok (.aload_n 0, 1) := by decide +kernel
theorem dX5_readWord_83 : decode cX5_readWord 83 = .ok (.getfield 19, 3) := by decide +kernel
theorem dX5_readWord_86 : decode cX5_readWord 86 = .ok (.aload_n 0, 1) := by decide +kernel
theorem dX5_readWord_87 : decode cX5_readWord 87 = .ok (.getfield 29, 3) := by decide +kernel
theorem dX5_readWord_90 : decode cX5_readWord 90 = .ok (.iload_n 3, 1) := by decide +kernel
theorem dX5_readWord_91 : decode cX5_readWord 91 = .ok (.iastore, 1) := by decide +kernel
theorem dX5_readWord_92 : decode cX5_readWord 92 = .ok (.return_, 1) := by decide +kernel
theorem dX5_kindOfWord_0 : decode cX5_kindOfWord 0 = .ok (.aload_n 0, 1) := by decide +kernel
theorem dX5_kindOfWord_1 : decode cX5_kindOfWord 1 = .ok (.ldc 65, 2) := by decide +kernel
theorem dX5_kindOfWord_3 : decode cX5_kindOfWord 3 = .ok (.iload_n 1, 1) := by decide +kernel
theorem dX5_kindOfWord_4 : decode cX5_kindOfWord 4 = .ok (.iload_n 2, 1) := by decide +kernel
theorem dX5_kindOfWord_5 : decode cX5_kindOfWord 5 = .ok (.invokevirtual 67, 3) := by decide +kernel
theorem dX5_kindOfWord_8 : decode cX5_kindOfWord 8 = .ok (.ifCond .eq 5, 3) := by decide +kernel
theorem dX5_kindOfWord_11 : decode cX5_kindOfWord 11 = .ok (.iconst 4, 1) := by decide +kernel
theorem dX5_kindOfWord_12 : decode cX5_kindOfWord 12 = .ok (.ireturn, 1) := by decide +kernel
theorem dX5_kindOfWord_13 : decode cX5_kindOfWord 13 = .ok (.aload_n 0, 1) := by decide +kernel
theorem dX5_kindOfWord_14 : decode cX5_kindOfWord 14 = .ok (.ldc 71, 2) := by decide +kernel
theorem dX5_kindOfWord_16 : decode cX5_kindOfWord 16 = .ok (.iload_n 1, 1) := by decide +kernel
theorem dX5_kindOfWord_17 : decode cX5_kindOfWord 17 = .ok (.iload_n 2, 1) := by decide +kernel
theorem dX5_kindOfWord_18 : decode cX5_kindOfWord 18 = .ok (.invokevirtual 67, 3) := by decide +kernel
theorem dX5_kindOfWord_21 : decode cX5_kindOfWord 21 = .ok (.ifCond .eq 5, 3) := by decide +kernel
theorem dX5_kindOfWord_24 : decode cX5_kindOfWord 24 = .ok (.iconst 5, 1) := by decide +kernel
theorem dX5_kindOfWord_25 : decode cX5_kindOfWord 25 = .ok (.ireturn, 1) := by decide +kernel
theorem dX5_kindOfWord_26 : decode cX5_kindOfWord 26 = .ok (.aload_n 0, 1) := by decide +kernel
theorem dX5_kindOfWord_27 : decode cX5_kindOfWord 27 = .ok (.ldc 73, 2) := by decide +kernel
theorem dX5_kindOfWord_29 : decode cX5_kindOfWord 29 = .ok (.iload_n 1, 1) := by decide +kernel
theorem dX5_kindOfWord_30 : decode cX5_kindOfWord 30 = .ok (.iload_n 2, 1) := by decide +kernel
theorem dX5_kindOfWord_31 : decode cX5_kindOfWord 31 = .ok (.invokevirtual 67, 3) := by decide +kernel
theorem dX5_kindOfWord_34 : decode cX5_kindOfWord 34 = .ok (.ifCond .eq 6, 3) := by decide +kernel
theorem dX5_kindOfWord_37 : decode cX5_kindOfWord 37 = .ok (.bipush 6, 2) := by decide +kernel
theorem dX5_kindOfWord_39 : decode cX5_kindOfWord 39 = .ok (.ireturn, 1) := by decide +kernel
theorem dX5_kindOfWord_40 : decode cX5_kindOfWord 40 = .ok (.aload_n 0, 1) := by decide +kernel
theorem dX5_kindOfWord_41 : decode cX5_kindOfWord 41 = .ok (.ldc 75, 2) := by decide +kernel
theorem dX5_kindOfWord_43 : decode cX5_kindOfWord 43 = .ok (.iload_n 1, 1) := by decide +kernel
theorem dX5_kindOfWord_44 : decode cX5_kindOfWord 44 = .ok (.iload_n 2, 1) := by decide +kernel
theorem dX5_kindOfWord_45 : decode cX5_kindOfWord 45 = .ok (.invokevirtual 67, 3) := by decide +kernel
theorem dX5_kindOfWord_48 : decode cX5_kindOfWord 48 = .ok (.ifCond .eq 6, 3) := by decide +kernel
theorem dX5_kindOfWord_51 : decode cX5_kindOfWord 51 = .ok (.bipush 7, 2) := by decide +kernel
theorem dX5_kindOfWord_53 : decode cX5_kindOfWord 53 = .ok (.ireturn, 1) := by decide +kernel
theorem dX5_kindOfWord_54 : decode cX5_kindOfWord 54 = .ok (.aload_n 0, 1) := by decide +kernel
theorem dX5_kindOfWord_55 : decode cX5_kindOfWord 55 = .ok (.ldc 77, 2) := by decide +kernel
theorem dX5_kindOfWord_57 : decode cX5_kindOfWord 57 = .ok (.iload_n 1, 1) := by decide +kernel
theorem dX5_kindOfWord_58 : decode cX5_kindOfWord 58 = .ok (.iload_n 2, 1) := by decide +kernel
theorem dX5_kindOfWord_59 : decode cX5_kindOfWord 59 = .ok (.invokevirtual 67, 3) := by decide +kernel
theorem dX5_kindOfWord_62 : decode cX5_kindOfWord 62 = .ok (.ifCond .eq 8, 3) := by decide +kernel
theorem dX5_kindOfWord_65 : decode cX5_kindOfWord 65 = .ok (.bipush 8, 2) := by decide +kernel
theorem dX5_kindOfWord_67 : decode cX5_kindOfWord 67 = .ok (.goto 5, 3) := by decide +kernel
theorem dX5_kindOfWord_70 : decode cX5_kindOfWord 70 = .ok (.bipush 9, 2) := by decide +kernel
theorem dX5_kindOfWord_72 : decode cX5_kindOfWord 72 = .ok (.ireturn, 1) := by decide +kernel
theorem dX5_isWord_0 : decode cX5_isWord 0 = .ok (.iload_n 3, 1) := by decide +kernel
theorem dX5_isWord_1 : decode cX5_isWord 1 = .ok (.iload_n 2, 1) := by decide +kernel
theorem dX5_isWord_2 : decode cX5_isWord 2 = .ok (.isub, 1) := by decide +kernel
theorem dX5_isWord_3 : decode cX5_isWord 3 = .ok (.aload_n 1, 1) := by decide +kernel
theorem dX5_isWord_4 : decode cX5_isWord 4 = .ok (.invokevirtual 79, 3) := by decide +kernel
theorem dX5_isWord_7 : decode cX5_isWord 7 = .ok (.if_icmp .eq 5, 3) := by decide +kernel
theorem dX5_isWord_10 : decode cX5_isWord 10 = .ok (.iconst 0, 1) := by decide +kernel
theorem dX5_isWord_11 : decode cX5_isWord 11 = .ok (.ireturn, 1) := by decide +kernel
theorem dX5_isWord_12 : decode cX5_isWord 12 = .ok (.iconst 0, 1) := by decide +kernel
theorem dX5_isWord_13 : decode cX5_isWord 13 = .ok (.istore 4, 2) := by decide +kernel
theorem dX5_isWord_15 : decode cX5_isWord 15 = .ok (.iload 4, 2) := by decide +kernel
theorem dX5_isWord_17 : decode cX5_isWord 17 = .ok (.aload_n 1, 1) := by decide +kernel
theorem dX5_isWord_18 : decode cX5_isWord 18 = .ok (.invokevirtual 79, 3) := by decide +kernel
theorem dX5_isWord_21 : decode cX5_isWord 21 = .ok (.if_icmp .ge 29, 3) := by decide +kernel
theorem dX5_isWord_24 : decode cX5_isWord 24 = .ok (.aload_n 0, 1) := by decide +kernel
theorem dX5_isWord_25 : decode cX5_isWord 25 = .ok (.getfield 9, 3) := by decide +kernel
theorem dX5_isWord_28 : decode cX5_isWord 28 = .ok (.iload_n 2, 1) := by decide +kernel
theorem dX5_isWord_29 : decode cX5_isWord 29 = .ok (.iload 4, 2) := by decide +kernel
theorem dX5_isWord_31 : decode cX5_isWord 31 = .ok (.iadd, 1) := by decide +kernel
theorem dX5_isWord_32 : decode cX5_isWord 32 = .ok (.baload, 1) := by decide +kernel
theorem dX5_isWord_33 : decode cX5_isWord 33 = .ok (.aload_n 1, 1) := by decide +kernel
theorem dX5_isWord_34 : decode cX5_isWord 34 = .ok (.iload 4, 2) := by decide +kernel
theorem dX5_isWord_36 : decode cX5_isWord 36 = .ok (.invokevirtual 84, 3) := by decide +kernel
theorem dX5_isWord_39 : decode cX5_isWord 39 = .ok (.if_icmp .eq 5, 3) := by decide +kernel
theorem dX5_isWord_42 : decode cX5_isWord 42 = .ok (.iconst 0, 1) := by decide +kernel
theorem dX5_isWord_43 : decode cX5_isWord 43 = .ok (.ireturn, 1) := by decide +kernel
theorem dX5_isWord_44 : decode cX5_isWord 44 = .ok (.iinc 4 1, 3) := by decide +kernel
theorem dX5_isWord_47 : decode cX5_isWord 47 = .ok (.goto (-32), 3) := by decide +kernel
theorem dX5_isWord_50 : decode cX5_isWord 50 = .ok (.iconst 1, 1) := by decide +kernel
theorem dX5_isWord_51 : decode cX5_isWord 51 = .ok (.ireturn, 1) := by decide +kernel
theorem dX5_isDigit_0 : decode cX5_isDigit 0 = .ok (.iload_n 0, 1) := by decide +kernel
theorem dX5_isDigit_1 : decode cX5_isDigit 1 = .ok (.bipush 48, 2) := by decide +kernel
theorem dX5_isDigit_3 : decode cX5_isDigit 3 = .ok (.if_icmp .lt 13, 3) := by decide +kernel
theorem dX5_isDigit_6 : decode cX5_isDigit 6 = .ok (.iload_n 0, 1) := by decide +kernel
theorem dX5_isDigit_7 : decode cX5_isDigit 7 = .ok (.bipush 57, 2) := by decide +kernel
theorem dX5_isDigit_9 : decode cX5_isDigit 9 = .ok (.if_icmp .gt 7, 3) := by decide +kernel
theorem dX5_isDigit_12 : decode cX5_isDigit 12 = .ok (.iconst 1, 1) := by decide +kernel
theorem dX5_isDigit_13 : decode cX5_isDigit 13 = .ok (.goto 4, 3) := by decide +kernel
theorem dX5_isDigit_16 : decode cX5_isDigit 16 = .ok (.iconst 0, 1) := by decide +kernel
theorem dX5_isDigit_17 : decode cX5_isDigit 17 = .ok (.ireturn, 1) := by decide +kernel
theorem dX5_isLetter_0 : decode cX5_isLetter 0 = .ok (.iload_n 0, 1) := by decide +kernel
theorem dX5_isLetter_1 : decode cX5_isLetter 1 = .ok (.bipush 97, 2) := by decide +kernel
theorem dX5_isLetter_3 : decode cX5_isLetter 3 = .ok (.if_icmp .lt 13, 3) := by decide +kernel
theorem dX5_isLetter_6 : decode cX5_isLetter 6 = .ok (.iload_n 0, 1) := by decide +kernel
theorem dX5_isLetter_7 : decode cX5_isLetter 7 = .ok (.bipush 122, 2) := by decide +kernel
theorem dX5_isLetter_9 : decode cX5_isLetter 9 = .ok (.if_icmp .gt 7, 3) := by decide +kernel
theorem dX5_isLetter_12 : decode cX5_isLetter 12 = .ok (.iconst 1, 1) := by decide +kernel
theorem dX5_isLetter_13 : decode cX5_isLetter 13 = .ok (.goto 4, 3) := by decide +kernel
theorem dX5_isLetter_16 : decode cX5_isLetter 16 = .ok (.iconst 0, 1) := by decide +kernel
theorem dX5_isLetter_17 : decode cX5_isLetter 17 = .ok (.ireturn, 1) := by decide +kernel
theorem dX6_init_0 : decode cX6_init 0 = .ok (.aload_n 0, 1) := by decide +kernel
theorem dX6_init_1 : decode cX6_init 1 = .ok (.invokespecial 3, 3) := by decide +kernel
theorem dX6_init_4 : decode cX6_init 4 = .ok (.aload_n 0, 1) := by decide +kernel
theorem dX6_init_5 : decode cX6_init 5 = .ok (.bipush 40, 2) := by decide +kernel
theorem dX6_init_7 : decode cX6_init 7 = .ok (.newarray .int, 2) := by decide +kernel
theorem dX6_init_9 : decode cX6_init 9 = .ok (.putfield 9, 3) := by decide +kernel
theorem dX6_init_12 : decode cX6_init 12 = .ok (.aload_n 0, 1) := by decide +kernel
theorem dX6_init_13 : decode cX6_init 13 = .ok (.bipush 40, 2) := by decide +kernel
theorem dX6_init_15 : decode cX6_init 15 = .ok (.newarray .int, 2) := by decide +kernel
theorem dX6_init_17 : decode cX6_init 17 = .ok (.putfield 15, 3) := by decide +kernel
theorem dX6_init_20 : decode cX6_init 20 = .ok (.aload_n 0, 1) := by decide +kernel
theorem dX6_init_21 : decode cX6_init 21 = .ok (.bipush 40, 2) := by decide +kernel
theorem dX6_init_23 : decode cX6_init 23 = .ok (.newarray .int, 2) := by decide +kernel
theorem dX6_init_25 : decode cX6_init 25 = .ok (.putfield 18, 3) := by decide +kernel
theorem dX6_init_28 : decode cX6_init 28 = .ok (.aload_n 0, 1) := by decide +kernel
theorem dX6_init_29 : decode cX6_init 29 = .ok (.sipush 369, 3) := by decide +kernel
theorem dX6_init_32 : decode cX6_init 32 = .ok (.newarray .int, 2) := by decide +kernel
theorem dX6_init_34 : decode cX6_init 34 = .ok (.putfield 21, 3) := by decide +kernel
theorem dX6_init_37 : decode cX6_init 37 = .ok (.return_, 1) := by decide +kernel
theorem dX6_find_0 : decode cX6_find 0 = .ok (.aload_n 1, 1) := by decide +kernel
theorem dX6_find_1 : decode cX6_find 1 = .ok (.getfield 24, 3) := by decide +kernel
theorem dX6_find_4 : decode cX6_find 4 = .ok (.istore 4, 2) := by decide +kernel
theorem dX6_find_6 : decode cX6_find 6 = .ok (.iconst 0, 1) := by decide +kernel
theorem dX6_find_7 : decode cX6_find 7 = .ok (.istore 5, 2) := by decide +kernel
theorem dX6_find_9 : decode cX6_find 9 = .ok (.aload_n 0, 1) := by decide +kernel
theorem dX6_find_10 : decode cX6_find 10 = .ok (.iconst 1, 1) := by decide +kernel
theorem dX6_find_11 : decode cX6_find 11 = .ok (.putfield 30, 3) := by decide +kernel
theorem dX6_find_14 : decode cX6_find 14 = .ok (.iconst 0, 1) := by decide +kernel
theorem dX6_find_15 : decode cX6_find 15 = .ok (.istore 6, 2) := by decide +kernel
theorem dX6_find_17 : decode cX6_find 17 = .ok (.iload 6, 2) := by decide +kernel
theorem dX6_find_19 : decode cX6_find 19 = .ok (.iload 4, 2) := by decide +kernel
theorem dX6_find_21 : decode cX6_find 21 = .ok (.if_icmp .ge 91, 3) := by decide +kernel
theorem dX6_find_24 : decode cX6_find 24 = .ok (.aload_n 1, 1) := by decide +kernel
theorem dX6_find_25 : decode cX6_find 25 = .ok (.getfield 34, 3) := by decide +kernel
theorem dX6_find_28 : decode cX6_find 28 = .ok (.iload 6, 2) := by decide +kernel
theorem dX6_find_30 : decode cX6_find 30 = .ok (.iaload, 1) := by decide +kernel
theorem dX6_find_31 : decode cX6_find 31 = .ok (.istore 7, 2) := by decide +kernel
theorem dX6_find_33 : decode cX6_find 33 = .ok (.aload_n 0, 1) := by decide +kernel
theorem dX6_find_34 : decode cX6_find 34 = .ok (.getfield 9, 3) := by decide +kernel
theorem dX6_find_37 : decode cX6_find 37 = .ok (.iload 6, 2) := by decide +kernel
theorem dX6_find_39 : decode cX6_find 39 = .ok (.iload 5, 2) := by decide +kernel
theorem dX6_find_41 : decode cX6_find 41 = .ok (.aload_n 2, 1) := by decide +kernel
theorem dX6_find_42 : decode cX6_find 42 = .ok (.getfield 37, 3) := by decide +kernel
theorem dX6_find_45 : decode cX6_find 45 = .ok (.iload 7, 2) := by decide +kernel
theorem dX6_find_47 : decode cX6_find 47 = .ok (.iaload, 1) := by decide +kernel
theorem dX6_find_48 : decode cX6_find 48 = .ok (.invokestatic 42, 3) := by decide +kernel
theorem dX6_find_51 : decode cX6_find 51 = .ok (.iastore, 1) := by decide +kernel
theorem dX6_find_52 : decode cX6_find 52 = .ok (.aload_n 0, 1) := by decide +kernel
theorem dX6_find_53 : decode cX6_find 53 = .ok (.aload_n 0, 1) := by decide +kernel
theorem dX6_find_54 : decode cX6_find 54 = .ok (.getfield 30, 3) := by decide +kernel
theorem dX6_find_57 : decode cX6_find 57 = .ok (.ifCond .eq 24, 3) := by decide +kernel
theorem dX6_find_60 : decode cX6_find 60 = .ok (.aload_n 0, 1) := by decide +kernel
theorem dX6_find_61 : decode cX6_find 61 = .ok (.getfield 9, 3) := by decide +kernel
theorem dX6_find_64 : decode cX6_find 64 = .ok (.iload 6, 2) := by decide +kernel
theorem dX6_find_66 : decode cX6_find 66 = .ok (.iaload, 1) := by decide +kernel
theorem dX6_find_67 : decode cX6_find 67 = .ok (.aload_n 2, 1) := by decide +kernel
theorem dX6_find_68 : decode cX6_find 68 = .ok (.getfield 48, 3) := by decide +kernel
theorem dX6_find_71 : decode cX6_find 71 = .ok (.iload 7, 2) := by decide +kernel
theorem dX6_find_73 : decode cX6_find 73 = .ok (.iaload, 1) := by decide +kernel
theorem dX6_find_74 : decode cX6_find 74 = .ok (.if_icmp .gt 7, 3) := by decide +kernel
theorem dX6_find_77 : decode cX6_find 77 = .ok (.iconst 1, 1) := by decide +kernel
theorem dX6_find_78 : decode cX6_find 78 = .ok (.goto 4, 3) := by decide +kernel
theorem dX6_find_81 : decode cX6_find 81 = .ok (.iconst 0, 1) := by decide +kernel
theorem dX6_find_82 : decode cX6_find 82 = .ok (.putfield 30, 3) := by decide +kernel
theorem dX6_find_85 : decode cX6_find 85 = .ok (.aload_n 0, 1) := by decide +kernel
theorem dX6_find_86 : decode cX6_find 86 = .ok (.getfield 9, 3) := by decide +kernel
theorem dX6_find_89 : decode cX6_find 89 = .ok (.iload 6, 2) := by decide +kernel
theorem dX6_find_91 : decode cX6_find 91 = .ok (.iaload, 1) := by decide +kernel
theorem dX6_find_92 : decode cX6_find 92 = .ok (.iload_n 3, 1) := by decide +kernel
theorem dX6_find_93 : decode cX6_find 93 = .ok (.aload_n 1, 1) := by decide +kernel
theorem dX6_find_94 : decode cX6_find 94 = .ok (.getfield 51, 3) := by decide +kernel
theorem dX6_find_97 : decode cX6_find 97 = .ok (.iload 6, 2) := by decide +kernel
theorem dX6_find_99 : decode cX6_find 99 = .ok (.iaload, 1) := by decide +kernel
theorem dX6_find_100 : decode cX6_find 100 = .ok (.imul, 1) := by decide +kernel
theorem dX6_find_101 : decode cX6_find 101 = .ok (.iadd, 1) := by decide +kernel
theorem dX6_find_102 : decode cX6_find 102 = .ok (.iconst 1, 1) := by decide +kernel
theorem dX6_find_103 : decode cX6_find 103 = .ok (.iadd, 1) := by decide +kernel
theorem dX6_find_104 : decode cX6_find 104 = .ok (.istore 5, 2) := by decide +kernel
theorem dX6_find_106 : decode cX6_find 106 = .ok (.iinc 6 1, 3) := by decide +kernel
theorem dX6_find_109 : decode cX6_find 109 = .ok (.goto (-92), 3) := by decide +kernel
theorem dX6_find_112 : decode cX6_find 112 = .ok (.sipush 999, 3) := by decide +kernel
theorem dX6_find_115 : decode cX6_find 115 = .ok (.istore 5, 2) := by decide +kernel
theorem dX6_find_117 : decode cX6_find 117 = .ok (.iload 4, 2) := by decide +kernel
theorem dX6_find_119 : decode cX6_find 119 = .ok (.iconst 1, 1) := by decide +kernel
theorem dX6_find_120 : decode cX6_find 120 = .ok (.isub, 1) := by decide +kernel
theorem dX6_find_121 : decode cX6_find 121 = .ok (.istore 6, 2) := by decide +kernel
theorem dX6_find_123 : decode cX6_find 123 = .ok (.iload 6, 2) := by decide +kernel
theorem dX6_find_125 : decode cX6_find 125 = .ok (.ifCond .lt 65, 3) := by decide +kernel
theorem dX6_find_128 : decode cX6_find 128 = .ok (.aload_n 0, 1) := by decide +kernel
theorem dX6_find_129 : decode cX6_find 129 = .ok (.getfield 15, 3) := by decide +kernel
theorem dX6_find_132 : decode cX6_find 132 = .ok (.iload 6, 2) := by decide +kernel
theorem dX6_find_134 : decode cX6_find 134 = .ok (.iload 5, 2) := by decide +kernel
theorem dX6_find_136 : decode cX6_find 136 = .ok (.aload_n 2, 1) := by decide +kernel
theorem dX6_find_137 : decode cX6_find 137 = .ok (.getfield 48, 3) := by decide +kernel
theorem dX6_find_140 : decode cX6_find 140 = .ok (.aload_n 1, 1) := by decide +kernel
theorem dX6_find_141 : decode cX6_find 141 = .ok (.getfield 34, 3) := by decide +kernel
theorem dX6_find_144 : decode cX6_find 144 = .ok (.iload 6, 2) := by decide +kernel
theorem dX6_find_146 : decode cX6_find 146 = .ok (.iaload, 1) := by decide +kernel
theorem dX6_find_147 : decode cX6_find 147 = .ok (.iaload, 1) := by decide +kernel
theorem dX6_find_148 : decode cX6_find 148 = .ok (.invokestatic 54, 3) := by decide +kernel
theorem dX6_find_151 : decode cX6_find 151 = .ok (.iastore, 1) := by decide +kernel
theorem dX6_find_152 : decode cX6_find 152 = .ok (.aload_n 0, 1) := by decide +kernel
theorem dX6_find_153 : decode cX6_find 153 = .ok (.getfield 15, 3) := by decide +kernel
theorem dX6_find_156 : decode cX6_find 156 = .ok (.iload 6, 2) := by decide +kernel
theorem dX6_find_158 : decode cX6_find 158 = .ok (.iaload, 1) := by decide +kernel
theorem dX6_find_159 : decode cX6_find 159 = .ok (.iconst 1, 1) := by decide +kernel
theorem dX6_find_160 : decode cX6_find 160 = .ok (.isub, 1) := by decide +kernel
theorem dX6_find_161 : decode cX6_find 161 = .ok (.iload 6, 2) := by decide +kernel
theorem dX6_find_163 : decode cX6_find 163 = .ok (.ifCond .le 17, 3) := by decide +kernel
theorem dX6_find_166 : decode cX6_find 166 = .ok (.iload_n 3, 1) := by decide +kernel
theorem dX6_find_167 : decode cX6_find 167 = .ok (.aload_n 1, 1) := by decide +kernel
theorem dX6_find_168 : decode cX6_find 168 = .ok (.getfield 51, 3) := by decide +kernel
theorem dX6_find_171 : decode cX6_find 171 = .ok (.iload 6, 2) := by decide +kernel
theorem dX6_find_173 : decode cX6_find 173 = .ok (.iconst 1, 1) := by decide +kernel
theorem dX6_find_174 : decode cX6_find 174 = .ok (.isub, 1) := by decide +kernel
theorem dX6_find_175 : decode cX6_find 175 = .ok (.iaload, 1) := by decide +kernel
theorem dX6_find_176 : decode cX6_find 176 = .ok (.imul, 1) := by decide +kernel
theorem dX6_find_177 : decode cX6_find 177 = .ok (.goto 4, 3) := by decide +kernel
theorem dX6_find_180 : decode cX6_find 180 = .ok (.iconst 0, 1) := by decide +kernel
theorem dX6_find_181 : decode cX6_find 181 = .ok (.isub, 1) := by decide +kernel
theorem dX6_find_182 : decode cX6_find 182 = .ok (.istore 5, 2) := by decide +kernel
theorem dX6_find_184 : decode cX6_find 184 = .ok (.iinc 6 (-1), 3) := by decide +kernel
theorem dX6_find_187 : decode cX6_find 187 = .ok (.goto (-64), 3) := by decide +kernel
theorem dX6_find_190 : decode cX6_find 190 = .ok (.return_, 1) := by decide +kernel
theorem dX6_match_0 : decode cX6_match 0 = .ok (.aload_n 1, 1) := by decide +kernel
theorem dX6_match_1 : decode cX6_match 1 = .ok (.getfield 24, 3) := by decide +kernel
theorem dX6_match_4 : decode cX6_match 4 = .ok (.istore_n 3, 1) := by decide +kernel
theorem dX6_match_5 : decode cX6_match 5 = .ok (.iconst 0, 1) := by decide +kernel
theorem dX6_match_6 : decode cX6_match 6 = .ok (.istore 4, 2) := by decide +kernel
theorem dX6_match_8 : decode cX6_match 8 = .ok (.iload 4, 2) := by decide +kernel
theorem dX6_match_10 : decode cX6_match 10 = .ok (.bipush 9, 2) := by decide +kernel
theorem dX6_match_12 : decode cX6_match 12 = .ok (.if_icmp .ge 22, 3) := by decide +kernel
theorem dX6_match_15 : decode cX6_match 15 = .ok (.aload_n 0, 1) := by decide +kernel
theorem dX6_match_16 : decode cX6_match 16 = .ok (.getfield 21, 3) := by decide +kernel
theorem dX6_match_19 : decode cX6_match 19 = .ok (.iload_n 3, 1) := by decide +kernel
theorem dX6_match_20 : decode cX6_match 20 = .ok (.bipush 9, 2) := by decide +kernel
theorem dX6_match_22 : decode cX6_match 22 = .ok (.imul, 1) := by decide +kernel
theorem dX6_match_23 : decode cX6_match 23 = .ok (.iload 4, 2) := by decide +kernel
theorem dX6_match_25 : decode cX6_match 25 = .ok (.iadd, 1) := by decide +kernel
theorem dX6_match_26 : decode cX6_match 26 = .ok (.iconst 0, 1) := by decide +kernel
theorem dX6_match_27 : decode cX6_match 27 = .ok (.iastore, 1) := by decide +kernel
theorem dX6_match_28 : decode cX6_match 28 = .ok (.iinc 4 1, 3) := by decide +kernel
theorem dX6_match_31 : decode cX6_match 31 = .ok (.goto (-23), 3) := by decide +kernel
theorem dX6_match_34 : decode cX6_match 34 = .ok (.iload_n 3, 1) := by decide +kernel
theorem dX6_match_35 : decode cX6_match 35 = .ok (.iconst 1, 1) := by decide +kernel
theorem dX6_match_36 : decode cX6_match 36 = .ok (.isub, 1) := by decide +kernel
theorem dX6_match_37 : decode cX6_match 37 = .ok (.istore 4, 2) := by decide +kernel
theorem dX6_match_39 : decode cX6_match 39 = .ok (.iload 4, 2) := by decide +kernel
theorem dX6_match_41 : decode cX6_match 41 = .ok (.ifCond .lt 56, 3) := by decide +kernel
theorem dX6_match_44 : decode cX6_match 44 = .ok (.iconst 0, 1) := by decide +kernel
theorem dX6_match_45 : decode cX6_match 45 = .ok (.istore 5, 2) := by decide +kernel
theorem dX6_match_47 : decode cX6_match 47 = .ok (.iload 5, 2) := by decide +kernel
theorem dX6_match_49 : decode cX6_match 49 = .ok (.aload_n 2, 1) := by decide +kernel
theorem dX6_match_50 : decode cX6_match 50 = .ok (.getfield 57, 3) := by decide +kernel
theorem dX6_match_53 : decode cX6_match 53 = .ok (.if_icmp .gt 38, 3) := by decide +kernel
theorem dX6_match_56 : decode cX6_match 56 = .ok (.aload_n 0, 1) := by decide +kernel
theorem dX6_match_57 : decode cX6_match 57 = .ok (.getfield 21, 3) := by decide +kernel
theorem dX6_match_60 : decode cX6_match 60 = .ok (.iload 4, 2) := by decide +kernel
theorem dX6_match_62 : decode cX6_match 62 = .ok (.bipush 9, 2) := by decide +kernel
theorem dX6_match_64 : decode cX6_match 64 = .ok (.imul, 1) := by decide +kernel
theorem dX6_match_65 : decode cX6_match 65 = .ok (.iload 5, 2) := by decide +kernel
theorem dX6_match_67 : decode cX6_match 67 = .ok (.iadd, 1) := by decide +kernel
theorem dX6_match_68 : decode cX6_match 68 = .ok (.aload_n 0, 1) := by decide +kernel
theorem dX6_match_69 : decode cX6_match 69 = .ok (.iload 4, 2) := by decide +kernel
theorem dX6_match_71 : decode cX6_match 71 = .ok (.iload 5, 2) := by decide +kernel
theorem dX6_match_73 : decode cX6_match 73 = .ok (.aload_n 1, 1) := by decide +kernel
theorem dX6_match_74 : decode cX6_match 74 = .ok (.getfield 34, 3) := by decide +kernel
theorem dX6_match_77 : decode cX6_match 77 = .ok (.iload 4, 2) := by decide +kernel
theorem dX6_match_79 : decode cX6_match 79 = .ok (.iaload, 1) := by decide +kernel
theorem dX6_match_80 : decode cX6_match 80 = .ok (.aload_n 2, 1) := by decide +kernel
theorem dX6_match_81 : decode cX6_match 81 = .ok (.invokevirtual 60, 3) := by decide +kernel
theorem dX6_match_84 : decode cX6_match 84 = .ok (.iastore, 1) := by decide +kernel
theorem dX6_match_85 : decode cX6_match 85 = .ok (.iinc 5 1, 3) := by decide +kernel
theorem dX6_match_88 : decode cX6_match 88 = .ok (.goto (-41), 3) := by decide +kernel
theorem dX6_match_91 : decode cX6_match 91 = .ok (.iinc 4 (-1), 3) := by decide +kernel
theorem dX6_match_94 : decode cX6_match 94 = .ok (.goto (-55), 3) := by decide +kernel
theorem dX6_match_97 : decode cX6_match 97 = .ok (.iconst 0, 1) := by decide +kernel
theorem dX6_match_98 : decode cX6_match 98 = .ok (.istore 4, 2) := by decide +kernel
theorem dX6_match_100 : decode cX6_match 100 = .ok (.iconst 0, 1) := by decide +kernel
theorem dX6_match_101 : decode cX6_match 101 = .ok (.istore 5, 2) := by decide +kernel
theorem dX6_match_103 : decode cX6_match 103 = .ok (.iload 5, 2) := by decide +kernel
theorem dX6_match_105 : decode cX6_match 105 = .ok (.iload_n 3, 1) := by decide +kernel
theorem dX6_match_106 : decode cX6_match 106 = .ok (.if_icmp .ge 56, 3) := by decide +kernel
theorem dX6_match_109 : decode cX6_match 109 = .ok (.aload_n 0, 1) := by decide +kernel
theorem dX6_match_110 : decode cX6_match 110 = .ok (.getfield 18, 3) := by decide +kernel
theorem dX6_match_113 : decode cX6_match 113 = .ok (.iload 5, 2) := by decide +kernel
theorem dX6_match_115 : decode cX6_match 115 = .ok (.aload_n 0, 1) := by decide +kernel
theorem dX6_match_116 : decode cX6_match 116 = .ok (.iload 5, 2) := by decide +kernel
theorem dX6_match_118 : decode cX6_match 118 = .ok (.iload 4, 2) := by decide +kernel
theorem dX6_match_120 : decode cX6_match 120 = .ok (.aload_n 1, 1) := by decide +kernel
theorem dX6_match_121 : decode cX6_match 121 = .ok (.getfield 34, 3) := by decide +kernel
theorem dX6_match_124 : decode cX6_match 124 = .ok (.iload 5, 2) := by decide +kernel
theorem dX6_match_126 : decode cX6_match 126 = .ok (.iaload, 1) := by decide +kernel
theorem dX6_match_127 : decode cX6_match 127 = .ok (.aload_n 2, 1) := by decide +kernel
theorem dX6_match_128 : decode cX6_match 128 = .ok (.invokevirtual 64, 3) := by decide +kernel
theorem dX6_match_131 : decode cX6_match 131 = .ok (.iastore, 1) := by decide +kernel
theorem dX6_match_132 : decode cX6_match 132 = .ok (.aload_n 0, 1) := by decide +kernel
theorem dX6_match_133 : decode cX6_match 133 = .ok (.getfield 18, 3) := by decide +kernel
theorem dX6_match_136 : decode cX6_match 136 = .ok (.iload 5, 2) := by decide +kernel
theorem dX6_match_138 : decode cX6_match 138 = .ok (.iaload, 1) := by decide +kernel
theorem dX6_match_139 : decode cX6_match 139 = .ok (.ifCond .ne 8, 3) := by decide +kernel
theorem dX6_match_142 : decode cX6_match 142 = .ok (.iload 4, 2) := by decide +kernel
theorem dX6_match_144 : decode cX6_match 144 = .ok (.goto 10, 3) := by decide +kernel
theorem dX6_match_147 : decode cX6_match 147 = .ok (.aload_n 0, 1) := by decide +kernel
theorem dX6_match_148 : decode cX6_match 148 = .ok (.getfield 18, 3) := by decide +kernel
theorem dX6_match_151 : decode cX6_match 151 = .ok (.iload 5, 2) := by decide +kernel
theorem dX6_match_153 : decode cX6_match 153 = .ok (.iaload, 1) := by decide +kernel
theorem dX6_match_154 : decode cX6_match 154 = .ok (.istore 4, 2) := by decide +kernel
theorem dX6_match_156 : decode cX6_match 156 = .ok (.iinc 5 1, 3) := by decide +kernel
theorem dX6_match_159 : decode cX6_match 159 = .ok (.goto (-56), 3) := by decide +kernel
theorem dX6_match_162 : decode cX6_match 162 = .ok (.aload_n 0, 1) := by decide +kernel
theorem dX6_match_163 : decode cX6_match 163 = .ok (.iload_n 3, 1) := by decide +kernel
theorem dX6_match_164 : decode cX6_match 164 = .ok (.ifCond .ne 7, 3) := by decide +kernel
theorem dX6_match_167 : decode cX6_match 167 = .ok (.iconst 0, 1) := by decide +kernel
theorem dX6_match_168 : decode cX6_match 168 = .ok (.goto 9, 3) := by decide +kernel
theorem dX6_match_171 : decode cX6_match 171 = .ok (.aload_n 0, 1) := by decide +kernel
theorem dX6_match_172 : decode cX6_match 172 = .ok (.getfield 21, 3) := by decide +kernel
theorem dX6_match_175 : decode cX6_match 175 = .ok (.iconst 0, 1) := by decide +kernel
theorem dX6_match_176 : decode cX6_match 176 = .ok (.iaload, 1) := by decide +kernel
theorem dX6_match_177 : decode cX6_match 177 = .ok (.putfield 67, 3) := by decide +kernel
theorem dX6_match_180 : decode cX6_match 180 = .ok (.return_, 1) := by decide +kernel
theorem dX6_mostFrom_0 : decode cX6_mostFrom 0 = .ok (.aload_n 0, 1) := by decide +kernel
theorem dX6_mostFrom_1 : decode cX6_mostFrom 1 = .ok (.getfield 21, 3) := by decide +kernel
theorem dX6_mostFrom_4 : decode cX6_mostFrom 4 = .ok (.iload_n 1, 1) := by decide +kernel
theorem dX6_mostFrom_5 : decode cX6_mostFrom 5 = .ok (.iconst 1, 1) := by decide +kernel
theorem dX6_mostFrom_6 : decode cX6_mostFrom 6 = .ok (.iadd, 1) := by decide +kernel
theorem dX6_mostFrom_7 : decode cX6_mostFrom 7 = .ok (.bipush 9, 2) := by decide +kernel
theorem dX6_mostFrom_9 : decode cX6_mostFrom 9 = .ok (.imul, 1) := by decide +kernel
theorem dX6_mostFrom_10 : decode cX6_mostFrom 10 = .ok (.iload_n 2, 1) := by decide +kernel
theorem dX6_mostFrom_11 : decode cX6_mostFrom 11 = .ok (.iadd, 1) := by decide +kernel
theorem dX6_mostFrom_12 : decode cX6_mostFrom 12 = .ok (.iaload, 1) := by decide +kernel
theorem dX6_mostFrom_13 : decode cX6_mostFrom 13 = .ok (.istore 5, 2) := by decide +kernel
theorem dX6_mostFrom_15 : decode cX6_mostFrom 15 = .ok (.iconst 1, 1) := by decide +kernel
theorem dX6_mostFrom_16 : decode cX6_mostFrom 16 = .ok (.istore 6, 2) := by decide +kernel
theorem dX6_mostFrom_18 : decode cX6_mostFrom 18 = .ok (.iload 6, 2) := by decide +kernel
theorem dX6_mostFrom_20 : decode cX6_mostFrom 20 = .ok (.aload 4, 2) := by decide +kernel
theorem dX6_mostFrom_22 : decode cX6_mostFrom 22 = .ok (.getfield 57, 3) := by decide +kernel
theorem dX6_mostFrom_25 : decode cX6_mostFrom 25 = .ok (.if_icmp .gt 46, 3) := by decide +kernel
theorem dX6_mostFrom_28 : decode cX6_mostFrom 28 = .ok (.aload_n 0, 1) := by decide +kernel
theorem dX6_mostFrom_29 : decode cX6_mostFrom 29 = .ok (.iload_n 1, 1) := by decide +kernel
theorem dX6_mostFrom_30 : decode cX6_mostFrom 30 = .ok (.iload_n 2, 1) := by decide +kernel
theorem dX6_mostFrom_31 : decode cX6_mostFrom 31 = .ok (.iload 6, 2) := by decide +kernel
theorem dX6_mostFrom_33 : decode cX6_mostFrom 33 = .ok (.iload_n 3, 1) := by decide +kernel
theorem dX6_mostFrom_34 : decode cX6_mostFrom 34 = .ok (.aload 4, 2) := by decide +kernel
theorem dX6_mostFrom_36 : decode cX6_mostFrom 36 = .ok (.invokevirtual 70, 3) := by decide +kernel
theorem dX6_mostFrom_39 : decode cX6_mostFrom 39 = .ok (.ifCond .eq 26, 3) := by decide +kernel
theorem dX6_mostFrom_42 : decode cX6_mostFrom 42 = .ok (.iload 5, 2) := by decide +kernel
theorem dX6_mostFrom_44 : decode cX6_mostFrom 44 = .ok (.iconst 1, 1) := by decide +kernel
theorem dX6_mostFrom_45 : decode cX6_mostFrom 45 = .ok (.aload_n 0, 1) := by decide +kernel
theorem dX6_mostFrom_46 : decode cX6_mostFrom 46 = .ok (.getfield 21, 3) := by decide +kernel
theorem dX6_mostFrom_49 : decode cX6_mostFrom 49 = .ok (.iload_n 1, 1) := by decide +kernel
theorem dX6_mostFrom_50 : decode cX6_mostFrom 50 = .ok (.iconst 1, 1) := by decide +kernel
theorem dX6_mostFrom_51 : decode cX6_mostFrom 51 = .ok (.iadd, 1) := by decide +kernel
theorem dX6_mostFrom_52 : decode cX6_mostFrom 52 = .ok (.bipush 9, 2) := by decide +kernel
theorem dX6_mostFrom_54 : decode cX6_mostFrom 54 = .ok (.imul, 1) := by decide +kernel
theorem dX6_mostFrom_55 : decode cX6_mostFrom 55 = .ok (.iload 6, 2) := by decide +kernel
theorem dX6_mostFrom_57 : decode cX6_mostFrom 57 = .ok (.iadd, 1) := by decide +kernel
theorem dX6_mostFrom_58 : decode cX6_mostFrom 58 = .ok (.iaload, 1) := by decide +kernel
theorem dX6_mostFrom_59 : decode cX6_mostFrom 59 = .ok (.iadd, 1) := by decide +kernel
theorem dX6_mostFrom_60 : decode cX6_mostFrom 60 = .ok (.invokestatic 42, 3) := by decide +kernel
theorem dX6_mostFrom_63 : decode cX6_mostFrom 63 = .ok (.istore 5, 2) := by decide +kernel
theorem dX6_mostFrom_65 : decode cX6_mostFrom 65 = .ok (.iinc 6 1, 3) := by decide +kernel
theorem dX6_mostFrom_68 : decode cX6_mostFrom 68 = .ok (.goto (-50), 3) := by decide +kernel
theorem dX6_mostFrom_71 : decode cX6_mostFrom 71 = .ok (.iload 5, 2) := by decide +kernel
theorem dX6_mostFrom_73 : decode cX6_mostFrom 73 = .ok (.ireturn, 1) := by decide +kernel
theorem dX6_leastBill_0 : decode cX6_leastBill 0 = .ok (.aload_n 0, 1) := by decide +kernel
theorem dX6_leastBill_1 : decode cX6_leastBill 1 = .ok (.getfield 21, 3) := by decide +kernel
theorem dX6_leastBill_4 : decode cX6_leastBill 4 = .ok (.iload_n 1, 1) := by decide +kernel
theorem dX6_leastBill_5 : decode cX6_leastBill 5 = .ok (.bipush 9, 2) := by decide +kernel
theorem dX6_leastBill_7 : decode cX6_leastBill 7 = .ok (.imul, 1) := by decide +kernel
theorem dX6_leastBill_8 : decode cX6_leastBill 8 = .ok (.iload_n 2, 1) := by decide +kernel
theorem dX6_leastBill_9 : decode cX6_leastBill 9 = .ok (.iadd, 1) := by decide +kernel
theorem dX6_leastBill_10 : decode cX6_leastBill 10 = .ok (.iaload, 1) := by decide +kernel
theorem dX6_leastBill_11 : decode cX6_leastBill 11 = .ok (.istore 5, 2) := by decide +kernel
theorem dX6_leastBill_13 : decode cX6_leastBill 13 = .ok (.aload_n 0, 1) := by decide +kernel
theorem dX6_leastBill_14 : decode cX6_leastBill 14 = .ok (.getfield 21, 3) := by decide +kernel
theorem dX6_leastBill_17 : decode cX6_leastBill 17 = .ok (.iload_n 1, 1) := by decide +kernel
theorem dX6_leastBill_18 : decode cX6_leastBill 18 = .ok (.iconst 1, 1) := by decide +kernel
theorem dX6_leastBill_19 : decode cX6_leastBill 19 = .ok (.iadd, 1) := by decide +kernel
theorem dX6_leastBill_20 : decode cX6_leastBill 20 = .ok (.bipush 9, 2) := by decide +kernel
theorem dX6_leastBill_22 : decode cX6_leastBill 22 = .ok (.imul, 1) := by decide +kernel
theorem dX6_leastBill_23 : decode cX6_leastBill 23 = .ok (.iload_n 2, 1) := by decide +kernel
theorem dX6_leastBill_24 : decode cX6_leastBill 24 = .ok (.iadd, 1) := by decide +kernel
theorem dX6_leastBill_25 : decode cX6_leastBill 25 = .ok (.iaload, 1) := by decide +kernel
theorem dX6_leastBill_26 : decode cX6_leastBill 26 = .ok (.iload 5, 2) := by decide +kernel
theorem dX6_leastBill_28 : decode cX6_leastBill 28 = .ok (.if_icmp .ne 5, 3) := by decide +kernel
theorem dX6_leastBill_31 : decode cX6_leastBill 31 = .ok (.iconst 0, 1) := by decide +kernel
theorem dX6_leastBill_32 : decode cX6_leastBill 32 = .ok (.ireturn, 1) := by decide +kernel
theorem dX6_leastBill_33 : decode cX6_leastBill 33 = .ok (.iconst 1, 1) := by decide +kernel
theorem dX6_leastBill_34 : decode cX6_leastBill 34 = .ok (.istore 6, 2) := by decide +kernel
theorem dX6_leastBill_36 : decode cX6_leastBill 36 = .ok (.iload 6, 2) := by decide +kernel
theorem dX6_leastBill_38 : decode cX6_leastBill 38 = .ok (.aload 4, 2) := by decide +kernel
theorem dX6_leastBill_40 : decode cX6_leastBill 40 = .ok (.getfield 57, 3) := by decide +kernel
theorem dX6_leastBill_43 : decode cX6_leastBill 43 = .ok (.if_icmp .gt 47, 3) := by decide +kernel
theorem dX6_leastBill_46 : decode cX6_leastBill 46 = .ok (.aload_n 0, 1) := by decide +kernel
theorem dX6_leastBill_47 : decode cX6_leastBill 47 = .ok (.iload_n 1, 1) := by decide +kernel
theorem dX6_leastBill_48 : decode cX6_leastBill 48 = .ok (.iload_n 2, 1) := by decide +kernel
theorem dX6_leastBill_49 : decode cX6_leastBill 49 = .ok (.iload 6, 2) := by decide +kernel
theorem dX6_leastBill_51 : decode cX6_leastBill 51 = .ok (.iload_n 3, 1) := by decide +kernel
theorem dX6_leastBill_52 : decode cX6_leastBill 52 = .ok (.aload 4, 2) := by decide +kernel
theorem dX6_leastBill_54 : decode cX6_leastBill 54 = .ok (.invokevirtual 70, 3) := by decide +kernel
theorem dX6_leastBill_57 : decode cX6_leastBill 57 = .ok (.ifCond .eq 27, 3) := by decide +kernel
theorem dX6_leastBill_60 : decode cX6_leastBill 60 = .ok (.iconst 1, 1) := by decide +kernel
theorem dX6_leastBill_61 : decode cX6_leastBill 61 = .ok (.aload_n 0, 1) := by decide +kernel
theorem dX6_leastBill_62 : decode cX6_leastBill 62 = .ok (.getfield 21, 3) := by decide +kernel
theorem dX6_leastBill_65 : decode cX6_leastBill 65 = .ok (.iload_n 1, 1) := by decide +kernel
theorem dX6_leastBill_66 : decode cX6_leastBill 66 = .ok (.iconst 1, 1) := by decide +kernel
theorem dX6_leastBill_67 : decode cX6_leastBill 67 = .ok (.iadd, 1) := by decide +kernel
theorem dX6_leastBill_68 : decode cX6_leastBill 68 = .ok (.bipush 9, 2) := by decide +kernel
theorem dX6_leastBill_70 : decode cX6_leastBill 70 = .ok (.imul, 1) := by decide +kernel
theorem dX6_leastBill_71 : decode cX6_leastBill 71 = .ok (.iload 6, 2) := by decide +kernel
theorem dX6_leastBill_73 : decode cX6_leastBill 73 = .ok (.iadd, 1) := by decide +kernel
theorem dX6_leastBill_74 : decode cX6_leastBill 74 = .ok (.iaload, 1) := by decide +kernel
theorem dX6_leastBill_75 : decode cX6_leastBill 75 = .ok (.iadd, 1) := by decide +kernel
theorem dX6_leastBill_76 : decode cX6_leastBill 76 = .ok (.iload 5, 2) := by decide +kernel
theorem dX6_leastBill_78 : decode cX6_leastBill 78 = .ok (.if_icmp .ne 6, 3) := by decide +kernel
theorem dX6_leastBill_81 : decode cX6_leastBill 81 = .ok (.iload 6, 2) := by decide +kernel
theorem dX6_leastBill_83 : decode cX6_leastBill 83 = .ok (.ireturn, 1) := by decide +kernel
theorem dX6_leastBill_84 : decode cX6_leastBill 84 = .ok (.iinc 6 1, 3) := by decide +kernel
theorem dX6_leastBill_87 : decode cX6_leastBill 87 = .ok (.goto (-51), 3) := by decide +kernel
theorem dX6_leastBill_90 : decode cX6_leastBill 90 = .ok (.iconst 0, 1) := by decide +kernel
theorem dX6_leastBill_91 : decode cX6_leastBill 91 = .ok (.ireturn, 1) := by decide +kernel
theorem dX6_fits_0 : decode cX6_fits 0 = .ok (.aload 5, 2) := by decide +kernel
theorem dX6_fits_2 : decode cX6_fits 2 = .ok (.getfield 74, 3) := by decide +kernel
theorem dX6_fits_5 : decode cX6_fits 5 = .ok (.iload_n 3, 1) := by decide +kernel
theorem dX6_fits_6 : decode cX6_fits 6 = .ok (.iconst 1, 1) := by decide +kernel
theorem dX6_fits_7 : decode cX6_fits 7 = .ok (.isub, 1) := by decide +kernel
theorem dX6_fits_8 : decode cX6_fits 8 = .ok (.iaload, 1) := by decide +kernel
theorem dX6_fits_9 : decode cX6_fits 9 = .ok (.istore 6, 2) := by decide +kernel
theorem dX6_fits_11 : decode cX6_fits 11 = .ok (.iload_n 2, 1) := by decide +kernel
theorem dX6_fits_12 : decode cX6_fits 12 = .ok (.ifCond .eq 17, 3) := by decide +kernel
theorem dX6_fits_15 : decode cX6_fits 15 = .ok (.iload 6, 2) := by decide +kernel
theorem dX6_fits_17 : decode cX6_fits 17 = .ok (.aload 5, 2) := by decide +kernel
theorem dX6_fits_19 : decode cX6_fits 19 = .ok (.getfield 74, 3) := by decide +kernel
theorem dX6_fits_22 : decode cX6_fits 22 = .ok (.iload_n 2, 1) := by decide +kernel
theorem dX6_fits_23 : decode cX6_fits 23 = .ok (.iconst 1, 1) := by decide +kernel
theorem dX6_fits_24 : decode cX6_fits 24 = .ok (.isub, 1) := by decide +kernel
theorem dX6_fits_25 : decode cX6_fits 25 = .ok (.iaload, 1) := by decide +kernel
theorem dX6_fits_26 : decode cX6_fits 26 = .ok (.if_icmp .le 7, 3) := by decide +kernel
theorem dX6_fits_29 : decode cX6_fits 29 = .ok (.iconst 1, 1) := by decide +kernel
theorem dX6_fits_30 : decode cX6_fits 30 = .ok (.goto 4, 3) := by decide +kernel
theorem dX6_fits_33 : decode cX6_fits 33 = .ok (.iconst 0, 1) := by decide +kernel
theorem dX6_fits_34 : decode cX6_fits 34 = .ok (.istore 7, 2) := by decide +kernel
theorem dX6_fits_36 : decode cX6_fits 36 = .ok (.aload_n 0, 1) := by decide +kernel
theorem dX6_fits_37 : decode cX6_fits 37 = .ok (.getfield 30, 3) := by decide +kernel
theorem dX6_fits_40 : decode cX6_fits 40 = .ok (.ifCond .eq 48, 3) := by decide +kernel
theorem dX6_fits_43 : decode cX6_fits 43 = .ok (.iload 7, 2) := by decide +kernel
theorem dX6_fits_45 : decode cX6_fits 45 = .ok (.ifCond .eq 43, 3) := by decide +kernel
theorem dX6_fits_48 : decode cX6_fits 48 = .ok (.aload 5, 2) := by decide +kernel
theorem dX6_fits_50 : decode cX6_fits 50 = .ok (.getfield 77, 3) := by decide +kernel
theorem dX6_fits_53 : decode cX6_fits 53 = .ok (.iload_n 3, 1) := by decide +kernel
theorem dX6_fits_54 : decode cX6_fits 54 = .ok (.iconst 1, 1) := by decide +kernel
theorem dX6_fits_55 : decode cX6_fits 55 = .ok (.isub, 1) := by decide +kernel
theorem dX6_fits_56 : decode cX6_fits 56 = .ok (.iaload, 1) := by decide +kernel
theorem dX6_fits_57 : decode cX6_fits 57 = .ok (.iload 4, 2) := by decide +kernel
theorem dX6_fits_59 : decode cX6_fits 59 = .ok (.if_icmp .ne 29, 3) := by decide +kernel
theorem dX6_fits_62 : decode cX6_fits 62 = .ok (.iload 6, 2) := by decide +kernel
theorem dX6_fits_64 : decode cX6_fits 64 = .ok (.aload_n 0, 1) := by decide +kernel
theorem dX6_fits_65 : decode cX6_fits 65 = .ok (.getfield 9, 3) := by decide +kernel
theorem dX6_fits_68 : decode cX6_fits 68 = .ok (.iload_n 1, 1) := by decide +kernel
theorem dX6_fits_69 : decode cX6_fits 69 = .ok (.iaload, 1) := by decide +kernel
theorem dX6_fits_70 : decode cX6_fits 70 = .ok (.if_icmp .lt 18, 3) := by decide +kernel
theorem dX6_fits_73 : decode cX6_fits 73 = .ok (.iload 6, 2) := by decide +kernel
theorem dX6_fits_75 : decode cX6_fits 75 = .ok (.aload_n 0, 1) := by decide +kernel
theorem dX6_fits_76 : decode cX6_fits 76 = .ok (.getfield 15, 3) := by decide +kernel
theorem dX6_fits_79 : decode cX6_fits 79 = .ok (.iload_n 1, 1) := by decide +kernel
theorem dX6_fits_80 : decode cX6_fits 80 = .ok (.iaload, 1) := by decide +kernel
theorem dX6_fits_81 : decode cX6_fits 81 = .ok (.if_icmp .gt 7, 3) := by decide +kernel
theorem dX6_fits_84 : decode cX6_fits 84 = .ok (.iconst 1, 1) := by decide +kernel
theorem dX6_fits_85 : decode cX6_fits 85 = .ok (.goto 4, 3) := by decide +kernel
theorem dX6_fits_88 : decode cX6_fits 88 = .ok (.iconst 0, 1) := by decide +kernel
theorem dX6_fits_89 : decode cX6_fits 89 = .ok (.ireturn, 1) := by decide +kernel
theorem dX7_init_0 : decode cX7_init 0 = .ok (.aload_n 0, 1) := by decide +kernel
theorem dX7_init_1 : decode cX7_init 1 = .ok (.invokespecial 3, 3) := by decide +kernel
theorem dX7_init_4 : decode cX7_init 4 = .ok (.aload_n 0, 1) := by decide +kernel
theorem dX7_init_5 : decode cX7_init 5 = .ok (.new 9, 3) := by decide +kernel
theorem dX7_init_8 : decode cX7_init 8 = .ok (.dup, 1) := by decide +kernel
theorem dX7_init_9 : decode cX7_init 9 = .ok (.invokespecial 11, 3) := by decide +kernel
theorem dX7_init_12 : decode cX7_init 12 = .ok (.putfield 12, 3) := by decide +kernel
theorem dX7_init_15 : decode cX7_init 15 = .ok (.aload_n 0, 1) := by decide +kernel
theorem dX7_init_16 : decode cX7_init 16 = .ok (.new 16, 3) := by decide +kernel
theorem dX7_init_19 : decode cX7_init 19 = .ok (.dup, 1) := by decide +kernel
theorem dX7_init_20 : decode cX7_init 20 = .ok (.invokespecial 18, 3) := by decide +kernel
theorem dX7_init_23 : decode cX7_init 23 = .ok (.putfield 19, 3) := by decide +kernel
theorem dX7_init_26 : decode cX7_init 26 = .ok (.aload_n 0, 1) := by decide +kernel
theorem dX7_init_27 : decode cX7_init 27 = .ok (.iconst 2, 1) := by decide +kernel
theorem dX7_init_28 : decode cX7_init 28 = .ok (.anewarray 16, 3) := by decide +kernel
theorem dX7_init_31 : decode cX7_init 31 = .ok (.putfield 23, 3) := by decide +kernel
theorem dX7_init_34 : decode cX7_init 34 = .ok (.aload_n 0, 1) := by decide +kernel
theorem dX7_init_35 : decode cX7_init 35 = .ok (.iconst 5, 1) := by decide +kernel
theorem dX7_init_36 : decode cX7_init 36 = .ok (.newarray .int, 2) := by decide +kernel
theorem dX7_init_38 : decode cX7_init 38 = .ok (.dup, 1) := by decide +kernel
theorem dX7_init_39 : decode cX7_init 39 = .ok (.iconst 0, 1) := by decide +kernel
theorem dX7_init_40 : decode cX7_init 40 = .ok (.bipush 10, 2) := by decide +kernel
theorem dX7_init_42 : decode cX7_init 42 = .ok (.iastore, 1) := by decide +kernel
theorem dX7_init_43 : decode cX7_init 43 = .ok (.dup, 1) := by decide +kernel
theorem dX7_init_44 : decode cX7_init 44 = .ok (.iconst 1, 1) := by decide +kernel
theorem dX7_init_45 : decode cX7_init 45 = .ok (.iconst 1, 1) := by decide +kernel
theorem dX7_init_46 : decode cX7_init 46 = .ok (.iastore, 1) := by decide +kernel
theorem dX7_init_47 : decode cX7_init 47 = .ok (.dup, 1) := by decide +kernel
theorem dX7_init_48 : decode cX7_init 48 = .ok (.iconst 2, 1) := by decide +kernel
theorem dX7_init_49 : decode cX7_init 49 = .ok (.iconst 0, 1) := by decide +kernel
theorem dX7_init_50 : decode cX7_init 50 = .ok (.iastore, 1) := by decide +kernel
theorem dX7_init_51 : decode cX7_init 51 = .ok (.dup, 1) := by decide +kernel
theorem dX7_init_52 : decode cX7_init 52 = .ok (.iconst 3, 1) := by decide +kernel
theorem dX7_init_53 : decode cX7_init 53 = .ok (.iconst 2, 1) := by decide +kernel
theorem dX7_init_54 : decode cX7_init 54 = .ok (.iastore, 1) := by decide +kernel
theorem dX7_init_55 : decode cX7_init 55 = .ok (.dup, 1) := by decide +kernel
theorem dX7_init_56 : decode cX7_init 56 = .ok (.iconst 4, 1) := by decide +kernel
theorem dX7_init_57 : decode cX7_init 57 = .ok (.iconst 3, 1) := by decide +kernel
theorem dX7_init_58 : decode cX7_init 58 = .ok (.iastore, 1) := by decide +kernel
theorem dX7_init_59 : decode cX7_init 59 = .ok (.putfield 27, 3) := by decide +kernel
theorem dX7_init_62 : decode cX7_init 62 = .ok (.aload_n 0, 1) := by decide +kernel
theorem dX7_init_63 : decode cX7_init 63 = .ok (.bipush 12, 2) := by decide +kernel
theorem dX7_init_65 : decode cX7_init 65 = .ok (.newarray .int, 2) := by decide +kernel
theorem dX7_init_67 : decode cX7_init 67 = .ok (.putfield 31, 3) := by decide +kernel
theorem dX7_init_70 : decode cX7_init 70 = .ok (.aload_n 0, 1) := by decide +kernel
theorem dX7_init_71 : decode cX7_init 71 = .ok (.new 34, 3) := by decide +kernel
theorem dX7_init_74 : decode cX7_init 74 = .ok (.dup, 1) := by decide +kernel
theorem dX7_init_75 : decode cX7_init 75 = .ok (.invokespecial 36, 3) := by decide +kernel
theorem dX7_init_78 : decode cX7_init 78 = .ok (.putfield 37, 3) := by decide +kernel
theorem dX7_init_81 : decode cX7_init 81 = .ok (.aload_n 0, 1) := by decide +kernel
theorem dX7_init_82 : decode cX7_init 82 = .ok (.new 41, 3) := by decide +kernel
theorem dX7_init_85 : decode cX7_init 85 = .ok (.dup, 1) := by decide +kernel
theorem dX7_init_86 : decode cX7_init 86 = .ok (.invokespecial 43, 3) := by decide +kernel
theorem dX7_init_89 : decode cX7_init 89 = .ok (.putfield 44, 3) := by decide +kernel
theorem dX7_init_92 : decode cX7_init 92 = .ok (.aload_n 0, 1) := by decide +kernel
theorem dX7_init_93 : decode cX7_init 93 = .ok (.new 48, 3) := by decide +kernel
theorem dX7_init_96 : decode cX7_init 96 = .ok (.dup, 1) := by decide +kernel
theorem dX7_init_97 : decode cX7_init 97 = .ok (.invokespecial 50, 3) := by decide +kernel
theorem dX7_init_100 : decode cX7_init 100 = .ok (.putfield 51, 3) := by decide +kernel
theorem dX7_init_103 : decode cX7_init 103 = .ok (.aload_n 0, 1) := by decide +kernel
theorem dX7_init_104 : decode cX7_init 104 = .ok (.new 55, 3) := by decide +kernel
theorem dX7_init_107 : decode cX7_init 107 = .ok (.dup, 1) := by decide +kernel
theorem dX7_init_108 : decode cX7_init 108 = .ok (.invokespecial 57, 3) := by decide +kernel
theorem dX7_init_111 : decode cX7_init 111 = .ok (.putfield 58, 3) := by decide +kernel
theorem dX7_init_114 : decode cX7_init 114 = .ok (.aload_n 0, 1) := by decide +kernel
theorem dX7_init_115 : decode cX7_init 115 = .ok (.new 55, 3) := by decide +kernel
theorem dX7_init_118 : decode cX7_init 118 = .ok (.dup, 1) := by decide +kernel
theorem dX7_init_119 : decode cX7_init 119 = .ok (.invokespecial 57, 3) := by decide +kernel
theorem dX7_init_122 : decode cX7_init 122 = .ok (.putfield 62, 3) := by decide +kernel
theorem dX7_init_125 : decode cX7_init 125 = .ok (.iconst 0, 1) := by decide +kernel
theorem dX7_init_126 : decode cX7_init 126 = .ok (.istore_n 1, 1) := by decide +kernel
theorem dX7_init_127 : decode cX7_init 127 = .ok (.iload_n 1, 1) := by decide +kernel
theorem dX7_init_128 : decode cX7_init 128 = .ok (.iconst 2, 1) := by decide +kernel
theorem dX7_init_129 : decode cX7_init 129 = .ok (.if_icmp .ge 22, 3) := by decide +kernel
theorem dX7_init_132 : decode cX7_init 132 = .ok (.aload_n 0, 1) := by decide +kernel
theorem dX7_init_133 : decode cX7_init 133 = .ok (.getfield 23, 3) := by decide +kernel
theorem dX7_init_136 : decode cX7_init 136 = .ok (.iload_n 1, 1) := by decide +kernel
theorem dX7_init_137 : decode cX7_init 137 = .ok (.new 16, 3) := by decide +kernel
theorem dX7_init_140 : decode cX7_init 140 = .ok (.dup, 1) := by decide +kernel
theorem dX7_init_141 : decode cX7_init 141 = .ok (.invokespecial 18, 3) := by decide +kernel
theorem dX7_init_144 : decode cX7_init 144 = .ok (.aastore, 1) := by decide +kernel
theorem dX7_init_145 : decode cX7_init 145 = .ok (.iinc 1 1, 3) := by decide +kernel
theorem dX7_init_148 : decode cX7_init 148 = .ok (.goto (-21), 3) := by decide +kernel
theorem dX7_init_151 : decode cX7_init 151 = .ok (.return_, 1) := by decide +kernel
theorem dX7_type_0 : decode cX7_type 0 = .ok (.iload_n 3, 1) := by decide +kernel
theorem dX7_type_1 : decode cX7_type 1 = .ok (.iconst 1, 1) := by decide +kernel
theorem dX7_type_2 : decode cX7_type 2 = .ok (.if_icmp .lt 9, 3) := by decide +kernel
theorem dX7_type_5 : decode cX7_type 5 = .ok (.iload_n 3, 1) := by decide +kernel
theorem dX7_type_6 : decode cX7_type 6 = .ok (.bipush 8, 2) := by decide +kernel
theorem dX7_type_8 : decode cX7_type 8 = .ok (.if_icmp .le 5, 3) := by decide +kernel
theorem dX7_type_11 : decode cX7_type 11 = .ok (.iconst (-1), 1) := by decide +kernel
theorem dX7_type_12 : decode cX7_type 12 = .ok (.ireturn, 1) := by decide +kernel
theorem dX7_type_13 : decode cX7_type 13 = .ok (.aload_n 0, 1) := by decide +kernel
theorem dX7_type_14 : decode cX7_type 14 = .ok (.getfield 12, 3) := by decide +kernel
theorem dX7_type_17 : decode cX7_type 17 = .ok (.lload_n 1, 1) := by decide +kernel
theorem dX7_type_18 : decode cX7_type 18 = .ok (.iload_n 3, 1) := by decide +kernel
theorem dX7_type_19 : decode cX7_type 19 = .ok (.invokevirtual 65, 3) := by decide +kernel
theorem dX7_type_22 : decode cX7_type 22 = .ok (.ifCond .eq 13, 3) := by decide +kernel
theorem dX7_type_25 : decode cX7_type 25 = .ok (.aload_n 0, 1) := by decide +kernel
theorem dX7_type_26 : decode cX7_type 26 = .ok (.getfield 12, 3) := by decide +kernel
theorem dX7_type_29 : decode cX7_type 29 = .ok (.getfield 69, 3) := by decide +kernel
theorem dX7_type_32 : decode cX7_type 32 = .ok (.goto 5, 3) := by decide +kernel
theorem dX7_type_35 : decode cX7_type 35 = .ok (.bipush (-3), 2) := by decide +kernel
theorem dX7_type_37 : decode cX7_type 37 = .ok (.ireturn, 1) := by decide +kernel
theorem dX7_clear_0 : decode cX7_clear 0 = .ok (.aload_n 0, 1) := by decide +kernel
theorem dX7_clear_1 : decode cX7_clear 1 = .ok (.getfield 12, 3) := by decide +kernel
theorem dX7_clear_4 : decode cX7_clear 4 = .ok (.getfield 69, 3) := by decide +kernel
theorem dX7_clear_7 : decode cX7_clear 7 = .ok (.istore_n 1, 1) := by decide +kernel
theorem dX7_clear_8 : decode cX7_clear 8 = .ok (.aload_n 0, 1) := by decide +kernel
theorem dX7_clear_9 : decode cX7_clear 9 = .ok (.getfield 12, 3) := by decide +kernel
theorem dX7_clear_12 : decode cX7_clear 12 = .ok (.iconst 0, 1) := by decide +kernel
theorem dX7_clear_13 : decode cX7_clear 13 = .ok (.putfield 69, 3) := by decide +kernel
theorem dX7_clear_16 : decode cX7_clear 16 = .ok (.iload_n 1, 1) := by decide +kernel
theorem dX7_clear_17 : decode cX7_clear 17 = .ok (.ireturn, 1) := by decide +kernel
theorem dX7_chip_0 : decode cX7_chip 0 = .ok (.aload_n 0, 1) := by decide +kernel
theorem dX7_chip_1 : decode cX7_chip 1 = .ok (.getfield 19, 3) := by decide +kernel
theorem dX7_chip_4 : decode cX7_chip 4 = .ok (.getfield 73, 3) := by decide +kernel
theorem dX7_chip_7 : decode cX7_chip 7 = .ok (.iconst 4, 1) := by decide +kernel
theorem dX7_chip_8 : decode cX7_chip 8 = .ok (.if_icmp .lt 6, 3) := by decide +kernel
theorem dX7_chip_11 : decode cX7_chip 11 = .ok (.bipush (-3), 2) := by decide +kernel
theorem dX7_chip_13 : decode cX7_chip 13 = .ok (.ireturn, 1) := by decide +kernel
theorem dX7_chip_14 : decode cX7_chip 14 = .ok (.aload_n 0, 1) := by decide +kernel
theorem dX7_chip_15 : decode cX7_chip 15 = .ok (.getfield 12, 3) := by decide +kernel
theorem dX7_chip_18 : decode cX7_chip 18 = .ok (.invokevirtual 76, 3) := by decide +kernel
theorem dX7_chip_21 : decode cX7_chip 21 = .ok (.aload_n 0, 1) := by decide +kernel
theorem dX7_chip_22 : decode cX7_chip 22 = .ok (.getfield 19, 3) := by decide +kernel
theorem dX7_chip_25 : decode cX7_chip 25 = .ok (.getfield 79, 3) := by decide +kernel
theorem dX7_chip_28 : decode cX7_chip 28 = .ok (.aload_n 0, 1) := by decide +kernel
theorem dX7_chip_29 : decode cX7_chip 29 = .ok (.getfield 19, 3) := by decide +kernel
theorem dX7_chip_32 : decode cX7_chip 32 = .ok (.getfield 73, 3) := by decide +kernel
theorem dX7_chip_35 : decode cX7_chip 35 = .ok (.aaload, 1) := by decide +kernel
theorem dX7_chip_36 : decode cX7_chip 36 = .ok (.aload_n 0, 1) := by decide +kernel
theorem dX7_chip_37 : decode cX7_chip 37 = .ok (.getfield 12, 3) := by decide +kernel
theorem dX7_chip_40 : decode cX7_chip 40 = .ok (.invokevirtual 83, 3) := by decide +kernel
theorem dX7_chip_43 : decode cX7_chip 43 = .ok (.ifCond .ne 14, 3) := by decide +kernel
theorem dX7_chip_46 : decode cX7_chip 46 = .ok (.bipush (-10), 2) := by decide +kernel
theorem dX7_chip_48 : decode cX7_chip 48 = .ok (.aload_n 0, 1) := by decide +kernel
theorem dX7_chip_49 : decode cX7_chip 49 = .ok (.getfield 12, 3) := by decide +kernel
theorem dX7_chip_52 : decode cX7_chip 52 = .ok (.invokevirtual 89, 3) := by decide +kernel
theorem dX7_chip_55 : decode cX7_chip 55 = .ok (.isub, 1) := by decide +kernel
theorem dX7_chip_56 : decode cX7_chip 56 = .ok (.ireturn, 1) := by decide +kernel
theorem dX7_chip_57 : decode cX7_chip 57 = .ok (.aload_n 0, 1) := by decide +kernel
theorem dX7_chip_58 : decode cX7_chip 58 = .ok (.getfield 12, 3) := by decide +kernel
theorem dX7_chip_61 : decode cX7_chip 61 = .ok (.iconst 0, 1) := by decide +kernel
theorem dX7_chip_62 : decode cX7_chip 62 = .ok (.putfield 69, 3) := by decide +kernel
theorem dX7_chip_65 : decode cX7_chip 65 = .ok (.aload_n 0, 1) := by decide +kernel
theorem dX7_chip_66 : decode cX7_chip 66 = .ok (.getfield 19, 3) := by decide +kernel
theorem dX7_chip_69 : decode cX7_chip 69 = .ok (.dup, 1) := by decide +kernel
theorem dX7_chip_70 : decode cX7_chip 70 = .ok (.getfield 73, 3) := by decide +kernel
theorem dX7_chip_73 : decode cX7_chip 73 = .ok (.iconst 1, 1) := by decide +kernel
theorem dX7_chip_74 : decode cX7_chip 74 = .ok (.iadd, 1) := by decide +kernel
theorem dX7_chip_75 : decode cX7_chip 75 = .ok (.putfield 73, 3) := by decide +kernel
theorem dX7_chip_78 : decode cX7_chip 78 = .ok (.aload_n 0, 1) := by decide +kernel
theorem dX7_chip_79 : decode cX7_chip 79 = .ok (.iconst 0, 1) := by decide +kernel
theorem dX7_chip_80 : decode cX7_chip 80 = .ok (.putfield 93, 3) := by decide +kernel
theorem dX7_chip_83 : decode cX7_chip 83 = .ok (.aload_n 0, 1) := by decide +kernel
theorem dX7_chip_84 : decode cX7_chip 84 = .ok (.getfield 19, 3) := by decide +kernel
theorem dX7_chip_87 : decode cX7_chip 87 = .ok (.getfield 73, 3) := by decide +kernel
theorem dX7_chip_90 : decode cX7_chip 90 = .ok (.iconst 1, 1) := by decide +kernel
theorem dX7_chip_91 : decode cX7_chip 91 = .ok (.isub, 1) := by decide +kernel
theorem dX7_chip_92 : decode cX7_chip 92 = .ok (.ireturn, 1) := by decide +kernel
theorem dX7_book_0 : decode cX7_book 0 = .ok (.aload_n 0, 1) := by decide +kernel
theorem dX7_book_1 : decode cX7_book 1 = .ok (.getfield 12, 3) := by decide +kernel
theorem dX7_book_4 : decode cX7_book 4 = .ok (.invokevirtual 76, 3) := by decide +kernel
theorem dX7_book_7 : decode cX7_book 7 = .ok (.aload_n 0, 1) := by decide +kernel
theorem dX7_book_8 : decode cX7_book 8 = .ok (.getfield 62, 3) := by decide +kernel
theorem dX7_book_11 : decode cX7_book 11 = .ok (.aload_n 0, 1) := by decide +kernel
theorem dX7_book_12 : decode cX7_book 12 = .ok (.getfield 12, 3) := by decide +kernel
theorem dX7_book_15 : decode cX7_book 15 = .ok (.invokevirtual 97, 3) := by decide +kernel
theorem dX7_book_18 : decode cX7_book 18 = .ok (.ifCond .ne 14, 3) := by decide +kernel
theorem dX7_book_21 : decode cX7_book 21 = .ok (.bipush (-10), 2) := by decide +kernel
theorem dX7_book_23 : decode cX7_book 23 = .ok (.aload_n 0, 1) := by decide +kernel
theorem dX7_book_24 : decode cX7_book 24 = .ok (.getfield 12, 3) := by decide +kernel
theorem dX7_book_27 : decode cX7_book 27 = .ok (.invokevirtual 89, 3) := by decide +kernel
theorem dX7_book_30 : decode cX7_book 30 = .ok (.isub, 1) := by decide +kernel
theorem dX7_book_31 : decode cX7_book 31 = .ok (.ireturn, 1) := by decide +kernel
theorem dX7_book_32 : decode cX7_book 32 = .ok (.aload_n 0, 1) := by decide +kernel
theorem dX7_book_33 : decode cX7_book 33 = .ok (.getfield 58, 3) := by decide +kernel
theorem dX7_book_36 : decode cX7_book 36 = .ok (.astore_n 1, 1) := by decide +kernel
theorem dX7_book_37 : decode cX7_book 37 = .ok (.aload_n 0, 1) := by decide +kernel
theorem dX7_book_38 : decode cX7_book 38 = .ok (.aload_n 0, 1) := by decide +kernel
theorem dX7_book_39 : decode cX7_book 39 = .ok (.getfield 62, 3) := by decide +kernel
theorem dX7_book_42 : decode cX7_book 42 = .ok (.putfield 58, 3) := by decide +kernel
theorem dX7_book_45 : decode cX7_book 45 = .ok (.aload_n 0, 1) := by decide +kernel
theorem dX7_book_46 : decode cX7_book 46 = .ok (.aload_n 1, 1) := by decide +kernel
theorem dX7_book_47 : decode cX7_book 47 = .ok (.putfield 62, 3) := by decide +kernel
theorem dX7_book_50 : decode cX7_book 50 = .ok (.aload_n 0, 1) := by decide +kernel
theorem dX7_book_51 : decode cX7_book 51 = .ok (.getfield 12, 3) := by decide +kernel
theorem dX7_book_54 : decode cX7_book 54 = .ok (.iconst 0, 1) := by decide +kernel
theorem dX7_book_55 : decode cX7_book 55 = .ok (.putfield 69, 3) := by decide +kernel
theorem dX7_book_58 : decode cX7_book 58 = .ok (.aload_n 0, 1) := by decide +kernel
theorem dX7_book_59 : decode cX7_book 59 = .ok (.iconst 0, 1) := by decide +kernel
theorem dX7_book_60 : decode cX7_book 60 = .ok (.putfield 93, 3) := by decide +kernel
theorem dX7_book_63 : decode cX7_book 63 = .ok (.aload_n 0, 1) := by decide +kernel
theorem dX7_book_64 : decode cX7_book 64 = .ok (.getfield 58, 3) := by decide +kernel
theorem dX7_book_67 : decode cX7_book 67 = .ok (.getfield 98, 3) := by decide +kernel
theorem dX7_book_70 : decode cX7_book 70 = .ok (.ireturn, 1) := by decide +kernel
theorem dX7_drop_0 : decode cX7_drop 0 = .ok (.aload_n 0, 1) := by decide +kernel
theorem dX7_drop_1 : decode cX7_drop 1 = .ok (.iload_n 1, 1) := by decide +kernel
theorem dX7_drop_2 : decode cX7_drop 2 = .ok (.invokevirtual 101, 3) := by decide +kernel
theorem dX7_drop_5 : decode cX7_drop 5 = .ok (.ifCond .ne 5, 3) := by decide +kernel
theorem dX7_drop_8 : decode cX7_drop 8 = .ok (.iconst (-1), 1) := by decide +kernel
theorem dX7_drop_9 : decode cX7_drop 9 = .ok (.ireturn, 1) := by decide +kernel
theorem dX7_drop_10 : decode cX7_drop 10 = .ok (.aload_n 0, 1) := by decide +kernel
theorem dX7_drop_11 : decode cX7_drop 11 = .ok (.getfield 19, 3) := by decide +kernel
theorem dX7_drop_14 : decode cX7_drop 14 = .ok (.iload_n 1, 1) := by decide +kernel
theorem dX7_drop_15 : decode cX7_drop 15 = .ok (.invokevirtual 105, 3) := by decide +kernel
theorem dX7_drop_18 : decode cX7_drop 18 = .ok (.aload_n 0, 1) := by decide +kernel
theorem dX7_drop_19 : decode cX7_drop 19 = .ok (.iconst 0, 1) := by decide +kernel
theorem dX7_drop_20 : decode cX7_drop 20 = .ok (.putfield 93, 3) := by decide +kernel
theorem dX7_drop_23 : decode cX7_drop 23 = .ok (.aload_n 0, 1) := by decide +kernel
theorem dX7_drop_24 : decode cX7_drop 24 = .ok (.getfield 19, 3) := by decide +kernel
theorem dX7_drop_27 : decode cX7_drop 27 = .ok (.getfield 73, 3) := by decide +kernel
theorem dX7_drop_30 : decode cX7_drop 30 = .ok (.ireturn, 1) := by decide +kernel
theorem dX7_about_0 : decode cX7_about 0 = .ok (.aload_n 0, 1) := by decide +kernel
theorem dX7_about_1 : decode cX7_about 1 = .ok (.iload_n 1, 1) := by decide +kernel
theorem dX7_about_2 : decode cX7_about 2 = .ok (.invokevirtual 101, 3) := by decide +kernel
theorem dX7_about_5 : decode cX7_about 5 = .ok (.ifCond .ne 5, 3) := by decide +kernel
theorem dX7_about_8 : decode cX7_about 8 = .ok (.iconst (-1), 1) := by decide +kernel
theorem dX7_about_9 : decode cX7_about 9 = .ok (.ireturn, 1) := by decide +kernel
theorem dX7_about_10 : decode cX7_about 10 = .ok (.aload_n 0, 1) := by decide +kernel
theorem dX7_about_11 : decode cX7_about 11 = .ok (.getfield 19, 3) := by decide +kernel
theorem dX7_about_14 : decode cX7_about 14 = .ok (.getfield 79, 3) := by decide +kernel
theorem dX7_about_17 : decode cX7_about 17 = .ok (.iload_n 1, 1) := by decide +kernel
theorem dX7_about_18 : decode cX7_about 18 = .ok (.aaload, 1) := by decide +kernel
theorem dX7_about_19 : decode cX7_about 19 = .ok (.astore_n 3, 1) := by decide +kernel
theorem dX7_about_20 : decode cX7_about 20 = .ok (.iload_n 2, 1) := by decide +kernel
theorem dX7_about_21 : decode cX7_about 21 = .ok (.tableswitch 50 0 2 #[27, 32, 45], 27) := by decide +kernel
theorem dX7_about_48 : decode cX7_about 48 = .ok (.aload_n 3, 1) := by decide +kernel
theorem dX7_about_49 : decode cX7_about 49 = .ok (.getfield 109, 3) := by decide +kernel
theorem dX7_about_52 : decode cX7_about 52 = .ok (.ireturn, 1) := by decide +kernel
theorem dX7_about_53 : decode cX7_about 53 = .ok (.aload_n 3, 1) := by decide +kernel
theorem dX7_about_54 : decode cX7_about 54 = .ok (.getfield 112, 3) := by decide +kernel
theorem dX7_about_57 : decode cX7_about 57 = .ok (.ifCond .eq 7, 3) := by decide +kernel
theorem dX7_about_60 : decode cX7_about 60 = .ok (.iconst 1, 1) := by decide +kernel
theorem dX7_about_61 : decode cX7_about 61 = .ok (.goto 4, 3) := by decide +kernel
theorem dX7_about_64 : decode cX7_about 64 = .ok (.iconst 0, 1) := by decide +kernel
theorem dX7_about_65 : decode cX7_about 65 = .ok (.ireturn, 1) := by decide +kernel
theorem dX7_about_66 : decode cX7_about 66 = .ok (.aload_n 3, 1) := by decide +kernel
theorem dX7_about_67 : decode cX7_about 67 = .ok (.getfield 115, 3) := by decide +kernel
theorem dX7_about_70 : decode cX7_about 70 = .ok (.ireturn, 1) := by decide +kernel
theorem dX7_about_71 : decode cX7_about 71 = .ok (.iconst (-1), 1) := by decide +kernel
theorem dX7_about_72 : decode cX7_about 72 = .ok (.ireturn, 1) := by decide +kernel
theorem dX7_coat_0 : decode cX7_coat 0 = .ok (.aload_n 0, 1) := by decide +kernel
theorem dX7_coat_1 : decode cX7_coat 1 = .ok (.iload_n 1, 1) := by decide +kernel
theorem dX7_coat_2 : decode cX7_coat 2 = .ok (.iload_n 2, 1) := by decide +kernel
theorem dX7_coat_3 : decode cX7_coat 3 = .ok (.invokevirtual 118, 3) := by decide +kernel
theorem dX7_coat_6 : decode cX7_coat 6 = .ok (.ifCond .ne 5, 3) := by decide +kernel
theorem dX7_coat_9 : decode cX7_coat 9 = .ok (.iconst (-1), 1) := by decide +kernel
theorem dX7_coat_10 : decode cX7_coat 10 = .ok (.ireturn, 1) := by decide +kernel
theorem dX7_coat_11 : decode cX7_coat 11 = .ok (.iload_n 3, 1) := by decide +kernel
theorem dX7_coat_12 : decode cX7_coat 12 = .ok (.tableswitch 69 0 2 #[28, 43, 58], 28) := by decide +kernel
theorem dX7_coat_40 : decode cX7_coat 40 = .ok (.aload_n 0, 1) := by decide +kernel
theorem dX7_coat_41 : decode cX7_coat 41 = .ok (.getfield 19, 3) := by decide +kernel
theorem dX7_coat_44 : decode cX7_coat 44 = .ok (.getfield 79, 3) := by decide +kernel
theorem dX7_coat_47 : decode cX7_coat 47 = .ok (.iload_n 1, 1) := by decide +kernel
theorem dX7_coat_48 : decode cX7_coat 48 = .ok (.aaload, 1) := by decide +kernel
theorem dX7_coat_49 : decode cX7_coat 49 = .ok (.getfield 122, 3) := by decide +kernel
theorem dX7_coat_52 : decode cX7_coat 52 = .ok (.iload_n 2, 1) := by decide +kernel
theorem dX7_coat_53 : decode cX7_coat 53 = .ok (.iaload, 1) := by decide +kernel
theorem dX7_coat_54 : decode cX7_coat 54 = .ok (.ireturn, 1) := by decide +kernel
theorem dX7_coat_55 : decode cX7_coat 55 = .ok (.aload_n 0, 1) := by decide +kernel
theorem dX7_coat_56 : decode cX7_coat 56 = .ok (.getfield 19, 3) := by decide +kernel
theorem dX7_coat_59 : decode cX7_coat 59 = .ok (.getfield 79, 3) := by decide +kernel
theorem dX7_coat_62 : decode cX7_coat 62 = .ok (.iload_n 1, 1) := by decide +kernel
theorem dX7_coat_63 : decode cX7_coat 63 = .ok (.aaload, 1) := by decide +kernel
theorem dX7_coat_64 : decode cX7_coat 64 = .ok (.getfield 125, 3) := by decide +kernel
theorem dX7_coat_67 : decode cX7_coat 67 = .ok (.iload_n 2, 1) := by decide +kernel
theorem dX7_coat_68 : decode cX7_coat 68 = .ok (.iaload, 1) := by decide +kernel
theorem dX7_coat_69 : decode cX7_coat 69 = .ok (.ireturn, 1) := by decide +kernel
theorem dX7_coat_70 : decode cX7_coat 70 = .ok (.aload_n 0, 1) := by decide +kernel
theorem dX7_coat_71 : decode cX7_coat 71 = .ok (.invokevirtual 128, 3) := by decide +kernel
theorem dX7_coat_74 : decode cX7_coat 74 = .ok (.aload_n 0, 1) := by decide +kernel
theorem dX7_coat_75 : decode cX7_coat 75 = .ok (.iload_n 1, 1) := by decide +kernel
theorem dX7_coat_76 : decode cX7_coat 76 = .ok (.iload_n 2, 1) := by decide +kernel
theorem dX7_coat_77 : decode cX7_coat 77 = .ok (.invokevirtual 131, 3) := by decide +kernel
theorem dX7_coat_80 : decode cX7_coat 80 = .ok (.ireturn, 1) := by decide +kernel
theorem dX7_coat_81 : decode cX7_coat 81 = .ok (.iconst (-1), 1) := by decide +kernel
theorem dX7_coat_82 : decode cX7_coat 82 = .ok (.ireturn, 1) := by decide +kernel
theorem dX7_colour_0 : decode cX7_colour 0 = .ok (.iload_n 1, 1) := by decide +kernel
theorem dX7_colour_1 : decode cX7_colour 1 = .ok (.ifCond .lt 9, 3) := by decide +kernel
theorem dX7_colour_4 : decode cX7_colour 4 = .ok (.iload_n 1, 1) := by decide +kernel
theorem dX7_colour_5 : decode cX7_colour 5 = .ok (.bipush 12, 2) := by decide +kernel
theorem dX7_colour_7 : decode cX7_colour 7 = .ok (.if_icmp .lt 5, 3) := by decide +kernel
theorem dX7_colour_10 : decode cX7_colour 10 = .ok (.iconst (-1), 1) := by decide +kernel
theorem dX7_colour_11 : decode cX7_colour 11 = .ok (.ireturn, 1) := by decide +kernel
theorem dX7_colour_12 : decode cX7_colour 12 = .ok (.iload_n 2, 1) := by decide +kernel
theorem dX7_colour_13 : decode cX7_colour 13 = .ok (.tableswitch 57 0 2 #[27, 37, 47], 27) := by decide +kernel
theorem dX7_colour_40 : decode cX7_colour 40 = .ok (.aload_n 0, 1) := by decide +kernel
theorem dX7_colour_41 : decode cX7_colour 41 = .ok (.getfield 58, 3) := by decide +kernel
theorem dX7_colour_44 : decode cX7_colour 44 = .ok (.getfield 135, 3) := by decide +kernel
theorem dX7_colour_47 : decode cX7_colour 47 = .ok (.iload_n 1, 1) := by decide +kernel
theorem dX7_colour_48 : decode cX7_colour 48 = .ok (.iaload, 1) := by decide +kernel
theorem dX7_colour_49 : decode cX7_colour 49 = .ok (.ireturn, 1) := by decide +kernel
theorem dX7_colour_50 : decode cX7_colour 50 = .ok (.aload_n 0, 1) := by decide +kernel
theorem dX7_colour_51 : decode cX7_colour 51 = .ok (.getfield 58, 3) := by decide +kernel
theorem dX7_colour_54 : decode cX7_colour 54 = .ok (.getfield 138, 3) := by decide +kernel
theorem dX7_colour_57 : decode cX7_colour 57 = .ok (.iload_n 1, 1) := by decide +kernel
theorem dX7_colour_58 : decode cX7_colour 58 = .ok (.iaload, 1) := by decide +kernel
theorem dX7_colour_59 : decode cX7_colour 59 = .ok (.ireturn, 1) := by decide +kernel
theorem dX7_colour_60 : decode cX7_colour 60 = .ok (.aload_n 0, 1) := by decide +kernel
theorem dX7_colour_61 : decode cX7_colour 61 = .ok (.getfield 58, 3) := by decide +kernel
theorem dX7_colour_64 : decode cX7_colour 64 = .ok (.getfield 141, 3) := by decide +kernel
theorem dX7_colour_67 : decode cX7_colour 67 = .ok (.iload_n 1, 1) := by decide +kernel
theorem dX7_colour_68 : decode cX7_colour 68 = .ok (.iaload, 1) := by decide +kernel
theorem dX7_colour_69 : decode cX7_colour 69 = .ok (.ireturn, 1) := by decide +kernel
theorem dX7_colour_70 : decode cX7_colour 70 = .ok (.iconst (-1), 1) := by decide +kernel
theorem dX7_colour_71 : decode cX7_colour 71 = .ok (.ireturn, 1) := by decide +kernel
theorem dX7_tune_0 : decode cX7_tune 0 = .ok (.iload_n 1, 1) := by decide +kernel
theorem dX7_tune_1 : decode cX7_tune 1 = .ok (.ifCond .lt 30, 3) := by decide +kernel
theorem dX7_tune_4 : decode cX7_tune 4 = .ok (.iload_n 1, 1) := by decide +kernel
theorem dX7_tune_5 : decode cX7_tune 5 = .ok (.aload_n 0, 1) := by decide +kernel
theorem dX7_tune_6 : decode cX7_tune 6 = .ok (.getfield 27, 3) := by decide +kernel
theorem dX7_tune_9 : decode cX7_tune 9 = .ok (.arraylength, 1) := by decide +kernel
theorem dX7_tune_10 : decode cX7_tune 10 = .ok (.if_icmp .ge 21, 3) := by decide +kernel
theorem dX7_tune_13 : decode cX7_tune 13 = .ok (.iload_n 2, 1) := by decide +kernel
theorem dX7_tune_14 : decode cX7_tune 14 = .ok (.getstatic 144, 3) := by decide +kernel
theorem dX7_tune_17 : decode cX7_tune 17 = .ok (.iload_n 1, 1) := by decide +kernel
theorem dX7_tune_18 : decode cX7_tune 18 = .ok (.iaload, 1) := by decide +kernel
theorem dX7_tune_19 : decode cX7_tune 19 = .ok (.if_icmp .lt 12, 3) := by decide +kernel
theorem dX7_tune_22 : decode cX7_tune 22 = .ok (.iload_n 2, 1) := by decide +kernel
theorem dX7_tune_23 : decode cX7_tune 23 = .ok (.getstatic 147, 3) := by decide +kernel
theorem dX7_tune_26 : decode cX7_tune 26 = .ok (.iload_n 1, 1) := by decide +kernel
theorem dX7_tune_27 : decode cX7_tune 27 = .ok (.iaload, 1) := by decide +kernel
theorem dX7_tune_28 : decode cX7_tune 28 = .ok (.if_icmp .le 5, 3) := by decide +kernel
theorem dX7_tune_31 : decode cX7_tune 31 = .ok (.iconst (-1), 1) := by decide +kernel
theorem dX7_tune_32 : decode cX7_tune 32 = .ok (.ireturn, 1) := by decide +kernel
theorem dX7_tune_33 : decode cX7_tune 33 = .ok (.aload_n 0, 1) := by decide +kernel
theorem dX7_tune_34 : decode cX7_tune 34 = .ok (.getfield 27, 3) := by decide +kernel
theorem dX7_tune_37 : decode cX7_tune 37 = .ok (.iload_n 1, 1) := by decide +kernel
theorem dX7_tune_38 : decode cX7_tune 38 = .ok (.iaload, 1) := by decide +kernel
theorem dX7_tune_39 : decode cX7_tune 39 = .ok (.istore_n 3, 1) := by decide +kernel
theorem dX7_tune_40 : decode cX7_tune 40 = .ok (.aload_n 0, 1) := by decide +kernel
theorem dX7_tune_41 : decode cX7_tune 41 = .ok (.getfield 27, 3) := by decide +kernel
theorem dX7_tune_44 : decode cX7_tune 44 = .ok (.iload_n 1, 1) := by decide +kernel
theorem dX7_tune_45 : decode cX7_tune 45 = .ok (.iload_n 2, 1) := by decide +kernel
theorem dX7_tune_46 : decode cX7_tune 46 = .ok (.iastore, 1) := by decide +kernel
theorem dX7_tune_47 : decode cX7_tune 47 = .ok (.iload_n 1, 1) := by decide +kernel
theorem dX7_tune_48 : decode cX7_tune 48 = .ok (.iconst 2, 1) := by decide +kernel
theorem dX7_tune_49 : decode cX7_tune 49 = .ok (.if_icmp .ne 13, 3) := by decide +kernel
theorem dX7_tune_52 : decode cX7_tune 52 = .ok (.iload_n 3, 1) := by decide +kernel
theorem dX7_tune_53 : decode cX7_tune 53 = .ok (.iload_n 2, 1) := by decide +kernel
theorem dX7_tune_54 : decode cX7_tune 54 = .ok (.if_icmp .eq 8, 3) := by decide +kernel
theorem dX7_tune_57 : decode cX7_tune 57 = .ok (.aload_n 0, 1) := by decide +kernel
theorem dX7_tune_58 : decode cX7_tune 58 = .ok (.iconst 0, 1) := by decide +kernel
theorem dX7_tune_59 : decode cX7_tune 59 = .ok (.putfield 93, 3) := by decide +kernel
theorem dX7_tune_62 : decode cX7_tune 62 = .ok (.iload_n 3, 1) := by decide +kernel
theorem dX7_tune_63 : decode cX7_tune 63 = .ok (.ireturn, 1) := by decide +kernel
theorem dX7_least_0 : decode cX7_least 0 = .ok (.aload_n 0, 1) := by decide +kernel
theorem dX7_least_1 : decode cX7_least 1 = .ok (.iload_n 1, 1) := by decide +kernel
theorem dX7_least_2 : decode cX7_least 2 = .ok (.iload_n 2, 1) := by decide +kernel
theorem dX7_least_3 : decode cX7_least 3 = .ok (.invokevirtual 150, 3) := by decide +kernel
theorem dX7_least_6 : decode cX7_least 6 = .ok (.ifCond .ne 5, 3) := by decide +kernel
theorem dX7_least_9 : decode cX7_least 9 = .ok (.iconst (-1), 1) := by decide +kernel
theorem dX7_least_10 : decode cX7_least 10 = .ok (.ireturn, 1) := by decide +kernel
theorem dX7_least_11 : decode cX7_least 11 = .ok (.aload_n 0, 1) := by decide +kernel
theorem dX7_least_12 : decode cX7_least 12 = .ok (.iload_n 1, 1) := by decide +kernel
theorem dX7_least_13 : decode cX7_least 13 = .ok (.iload_n 2, 1) := by decide +kernel
theorem dX7_least_14 : decode cX7_least 14 = .ok (.invokevirtual 153, 3) := by decide +kernel
theorem dX7_least_17 : decode cX7_least 17 = .ok (.aload_n 0, 1) := by decide +kernel
theorem dX7_least_18 : decode cX7_least 18 = .ok (.getfield 37, 3) := by decide +kernel
