theorem dX7_least_21 : decode cX7_least 21 = .ok (.invokevirtual 157, 3) := by decide +kernel
theorem dX7_least_24 : decode cX7_least 24 = .ok (.ireturn, 1) := by decide +kernel
theorem dX7_ways_0 : decode cX7_ways 0 = .ok (.aload_n 0, 1) := by decide +kernel
theorem dX7_ways_1 : decode cX7_ways 1 = .ok (.iload_n 1, 1) := by decide +kernel
theorem dX7_ways_2 : decode cX7_ways 2 = .ok (.iload_n 2, 1) := by decide +kernel
theorem dX7_ways_3 : decode cX7_ways 3 = .ok (.invokevirtual 150, 3) := by decide +kernel
theorem dX7_ways_6 : decode cX7_ways 6 = .ok (.ifCond .ne 7, 3) := by decide +kernel
theorem dX7_ways_9 : decode cX7_ways 9 = .ok (.ldc2_w 160, 3) := by decide +kernel
theorem dX7_ways_12 : decode cX7_ways 12 = .ok (.lreturn, 1) := by decide +kernel
theorem dX7_ways_13 : decode cX7_ways 13 = .ok (.aload_n 0, 1) := by decide +kernel
theorem dX7_ways_14 : decode cX7_ways 14 = .ok (.iload_n 1, 1) := by decide +kernel
theorem dX7_ways_15 : decode cX7_ways 15 = .ok (.iload_n 2, 1) := by decide +kernel
theorem dX7_ways_16 : decode cX7_ways 16 = .ok (.invokevirtual 153, 3) := by decide +kernel
theorem dX7_ways_19 : decode cX7_ways 19 = .ok (.aload_n 0, 1) := by decide +kernel
theorem dX7_ways_20 : decode cX7_ways 20 = .ok (.getfield 37, 3) := by decide +kernel
theorem dX7_ways_23 : decode cX7_ways 23 = .ok (.invokevirtual 162, 3) := by decide +kernel
theorem dX7_ways_26 : decode cX7_ways 26 = .ok (.lreturn, 1) := by decide +kernel
theorem dX7_laid_0 : decode cX7_laid 0 = .ok (.aload_n 0, 1) := by decide +kernel
theorem dX7_laid_1 : decode cX7_laid 1 = .ok (.iload_n 1, 1) := by decide +kernel
theorem dX7_laid_2 : decode cX7_laid 2 = .ok (.iload_n 2, 1) := by decide +kernel
theorem dX7_laid_3 : decode cX7_laid 3 = .ok (.invokevirtual 150, 3) := by decide +kernel
theorem dX7_laid_6 : decode cX7_laid 6 = .ok (.ifCond .eq 12, 3) := by decide +kernel
theorem dX7_laid_9 : decode cX7_laid 9 = .ok (.aload_n 0, 1) := by decide +kernel
theorem dX7_laid_10 : decode cX7_laid 10 = .ok (.iload_n 1, 1) := by decide +kernel
theorem dX7_laid_11 : decode cX7_laid 11 = .ok (.iload_n 3, 1) := by decide +kernel
theorem dX7_laid_12 : decode cX7_laid 12 = .ok (.invokevirtual 118, 3) := by decide +kernel
theorem dX7_laid_15 : decode cX7_laid 15 = .ok (.ifCond .ne 5, 3) := by decide +kernel
theorem dX7_laid_18 : decode cX7_laid 18 = .ok (.iconst (-1), 1) := by decide +kernel
theorem dX7_laid_19 : decode cX7_laid 19 = .ok (.ireturn, 1) := by decide +kernel
theorem dX7_laid_20 : decode cX7_laid 20 = .ok (.aload_n 0, 1) := by decide +kernel
theorem dX7_laid_21 : decode cX7_laid 21 = .ok (.iload_n 1, 1) := by decide +kernel
theorem dX7_laid_22 : decode cX7_laid 22 = .ok (.iload_n 2, 1) := by decide +kernel
theorem dX7_laid_23 : decode cX7_laid 23 = .ok (.invokevirtual 153, 3) := by decide +kernel
theorem dX7_laid_26 : decode cX7_laid 26 = .ok (.aload_n 0, 1) := by decide +kernel
theorem dX7_laid_27 : decode cX7_laid 27 = .ok (.getfield 37, 3) := by decide +kernel
theorem dX7_laid_30 : decode cX7_laid 30 = .ok (.iload_n 3, 1) := by decide +kernel
theorem dX7_laid_31 : decode cX7_laid 31 = .ok (.invokevirtual 166, 3) := by decide +kernel
theorem dX7_laid_34 : decode cX7_laid 34 = .ok (.ireturn, 1) := by decide +kernel
theorem dX7_painting_0 : decode cX7_painting 0 = .ok (.aload_n 0, 1) := by decide +kernel
theorem dX7_painting_1 : decode cX7_painting 1 = .ok (.invokevirtual 128, 3) := by decide +kernel
theorem dX7_painting_4 : decode cX7_painting 4 = .ok (.iload_n 1, 1) := by decide +kernel
theorem dX7_painting_5 : decode cX7_painting 5 = .ok (.iconst (-1), 1) := by decide +kernel
theorem dX7_painting_6 : decode cX7_painting 6 = .ok (.if_icmp .ne 11, 3) := by decide +kernel
theorem dX7_painting_9 : decode cX7_painting 9 = .ok (.aload_n 0, 1) := by decide +kernel
theorem dX7_painting_10 : decode cX7_painting 10 = .ok (.getfield 44, 3) := by decide +kernel
theorem dX7_painting_13 : decode cX7_painting 13 = .ok (.getfield 170, 3) := by decide +kernel
theorem dX7_painting_16 : decode cX7_painting 16 = .ok (.ireturn, 1) := by decide +kernel
theorem dX7_painting_17 : decode cX7_painting 17 = .ok (.aload_n 0, 1) := by decide +kernel
theorem dX7_painting_18 : decode cX7_painting 18 = .ok (.iload_n 1, 1) := by decide +kernel
theorem dX7_painting_19 : decode cX7_painting 19 = .ok (.invokevirtual 171, 3) := by decide +kernel
theorem dX7_painting_22 : decode cX7_painting 22 = .ok (.ifCond .eq 15, 3) := by decide +kernel
theorem dX7_painting_25 : decode cX7_painting 25 = .ok (.aload_n 0, 1) := by decide +kernel
theorem dX7_painting_26 : decode cX7_painting 26 = .ok (.getfield 44, 3) := by decide +kernel
theorem dX7_painting_29 : decode cX7_painting 29 = .ok (.getfield 174, 3) := by decide +kernel
theorem dX7_painting_32 : decode cX7_painting 32 = .ok (.iload_n 1, 1) := by decide +kernel
theorem dX7_painting_33 : decode cX7_painting 33 = .ok (.iaload, 1) := by decide +kernel
theorem dX7_painting_34 : decode cX7_painting 34 = .ok (.goto 4, 3) := by decide +kernel
theorem dX7_painting_37 : decode cX7_painting 37 = .ok (.iconst (-1), 1) := by decide +kernel
theorem dX7_painting_38 : decode cX7_painting 38 = .ok (.ireturn, 1) := by decide +kernel
theorem dX7_had_0 : decode cX7_had 0 = .ok (.aload_n 0, 1) := by decide +kernel
theorem dX7_had_1 : decode cX7_had 1 = .ok (.invokevirtual 128, 3) := by decide +kernel
theorem dX7_had_4 : decode cX7_had 4 = .ok (.aload_n 0, 1) := by decide +kernel
theorem dX7_had_5 : decode cX7_had 5 = .ok (.iload_n 1, 1) := by decide +kernel
theorem dX7_had_6 : decode cX7_had 6 = .ok (.invokevirtual 171, 3) := by decide +kernel
theorem dX7_had_9 : decode cX7_had 9 = .ok (.ifCond .eq 15, 3) := by decide +kernel
theorem dX7_had_12 : decode cX7_had 12 = .ok (.aload_n 0, 1) := by decide +kernel
theorem dX7_had_13 : decode cX7_had 13 = .ok (.getfield 44, 3) := by decide +kernel
theorem dX7_had_16 : decode cX7_had 16 = .ok (.getfield 175, 3) := by decide +kernel
theorem dX7_had_19 : decode cX7_had 19 = .ok (.iload_n 1, 1) := by decide +kernel
theorem dX7_had_20 : decode cX7_had 20 = .ok (.iaload, 1) := by decide +kernel
theorem dX7_had_21 : decode cX7_had 21 = .ok (.goto 4, 3) := by decide +kernel
theorem dX7_had_24 : decode cX7_had 24 = .ok (.iconst (-1), 1) := by decide +kernel
theorem dX7_had_25 : decode cX7_had 25 = .ok (.ireturn, 1) := by decide +kernel
theorem dX7_face_0 : decode cX7_face 0 = .ok (.aload_n 0, 1) := by decide +kernel
theorem dX7_face_1 : decode cX7_face 1 = .ok (.iload_n 1, 1) := by decide +kernel
theorem dX7_face_2 : decode cX7_face 2 = .ok (.invokevirtual 101, 3) := by decide +kernel
theorem dX7_face_5 : decode cX7_face 5 = .ok (.ifCond .ne 5, 3) := by decide +kernel
theorem dX7_face_8 : decode cX7_face 8 = .ok (.iconst (-1), 1) := by decide +kernel
theorem dX7_face_9 : decode cX7_face 9 = .ok (.ireturn, 1) := by decide +kernel
theorem dX7_face_10 : decode cX7_face 10 = .ok (.aload_n 0, 1) := by decide +kernel
theorem dX7_face_11 : decode cX7_face 11 = .ok (.invokevirtual 128, 3) := by decide +kernel
theorem dX7_face_14 : decode cX7_face 14 = .ok (.iload_n 2, 1) := by decide +kernel
theorem dX7_face_15 : decode cX7_face 15 = .ok (.tableswitch 54 0 3 #[29, 35, 42, 48], 29) := by decide +kernel
theorem dX7_face_44 : decode cX7_face 44 = .ok (.aload_n 0, 1) := by decide +kernel
theorem dX7_face_45 : decode cX7_face 45 = .ok (.iload_n 1, 1) := by decide +kernel
theorem dX7_face_46 : decode cX7_face 46 = .ok (.invokevirtual 178, 3) := by decide +kernel
theorem dX7_face_49 : decode cX7_face 49 = .ok (.ireturn, 1) := by decide +kernel
theorem dX7_face_50 : decode cX7_face 50 = .ok (.aload_n 0, 1) := by decide +kernel
theorem dX7_face_51 : decode cX7_face 51 = .ok (.iload_n 1, 1) := by decide +kernel
theorem dX7_face_52 : decode cX7_face 52 = .ok (.iconst 0, 1) := by decide +kernel
theorem dX7_face_53 : decode cX7_face 53 = .ok (.invokevirtual 131, 3) := by decide +kernel
theorem dX7_face_56 : decode cX7_face 56 = .ok (.ireturn, 1) := by decide +kernel
theorem dX7_face_57 : decode cX7_face 57 = .ok (.aload_n 0, 1) := by decide +kernel
theorem dX7_face_58 : decode cX7_face 58 = .ok (.iload_n 1, 1) := by decide +kernel
theorem dX7_face_59 : decode cX7_face 59 = .ok (.invokevirtual 181, 3) := by decide +kernel
theorem dX7_face_62 : decode cX7_face 62 = .ok (.ireturn, 1) := by decide +kernel
theorem dX7_face_63 : decode cX7_face 63 = .ok (.aload_n 0, 1) := by decide +kernel
theorem dX7_face_64 : decode cX7_face 64 = .ok (.iload_n 1, 1) := by decide +kernel
theorem dX7_face_65 : decode cX7_face 65 = .ok (.invokevirtual 184, 3) := by decide +kernel
theorem dX7_face_68 : decode cX7_face 68 = .ok (.ireturn, 1) := by decide +kernel
theorem dX7_face_69 : decode cX7_face 69 = .ok (.iconst (-1), 1) := by decide +kernel
theorem dX7_face_70 : decode cX7_face 70 = .ok (.ireturn, 1) := by decide +kernel
theorem dX7_span_0 : decode cX7_span 0 = .ok (.aload_n 0, 1) := by decide +kernel
theorem dX7_span_1 : decode cX7_span 1 = .ok (.invokevirtual 128, 3) := by decide +kernel
theorem dX7_span_4 : decode cX7_span 4 = .ok (.aload_n 0, 1) := by decide +kernel
theorem dX7_span_5 : decode cX7_span 5 = .ok (.iload_n 1, 1) := by decide +kernel
theorem dX7_span_6 : decode cX7_span 6 = .ok (.invokevirtual 171, 3) := by decide +kernel
theorem dX7_span_9 : decode cX7_span 9 = .ok (.ifCond .eq 12, 3) := by decide +kernel
theorem dX7_span_12 : decode cX7_span 12 = .ok (.iload_n 2, 1) := by decide +kernel
theorem dX7_span_13 : decode cX7_span 13 = .ok (.ifCond .lt 8, 3) := by decide +kernel
theorem dX7_span_16 : decode cX7_span 16 = .ok (.iload_n 2, 1) := by decide +kernel
theorem dX7_span_17 : decode cX7_span 17 = .ok (.iconst 1, 1) := by decide +kernel
theorem dX7_span_18 : decode cX7_span 18 = .ok (.if_icmp .le 5, 3) := by decide +kernel
theorem dX7_span_21 : decode cX7_span 21 = .ok (.iconst (-1), 1) := by decide +kernel
theorem dX7_span_22 : decode cX7_span 22 = .ok (.ireturn, 1) := by decide +kernel
theorem dX7_span_23 : decode cX7_span 23 = .ok (.aload_n 0, 1) := by decide +kernel
theorem dX7_span_24 : decode cX7_span 24 = .ok (.getfield 51, 3) := by decide +kernel
theorem dX7_span_27 : decode cX7_span 27 = .ok (.aload_n 0, 1) := by decide +kernel
theorem dX7_span_28 : decode cX7_span 28 = .ok (.getfield 44, 3) := by decide +kernel
theorem dX7_span_31 : decode cX7_span 31 = .ok (.aload_n 0, 1) := by decide +kernel
theorem dX7_span_32 : decode cX7_span 32 = .ok (.getfield 58, 3) := by decide +kernel
theorem dX7_span_35 : decode cX7_span 35 = .ok (.aload_n 0, 1) := by decide +kernel
theorem dX7_span_36 : decode cX7_span 36 = .ok (.getfield 27, 3) := by decide +kernel
theorem dX7_span_39 : decode cX7_span 39 = .ok (.iconst 3, 1) := by decide +kernel
theorem dX7_span_40 : decode cX7_span 40 = .ok (.iaload, 1) := by decide +kernel
theorem dX7_span_41 : decode cX7_span 41 = .ok (.invokevirtual 187, 3) := by decide +kernel
theorem dX7_span_44 : decode cX7_span 44 = .ok (.aload_n 0, 1) := by decide +kernel
theorem dX7_span_45 : decode cX7_span 45 = .ok (.getfield 51, 3) := by decide +kernel
theorem dX7_span_48 : decode cX7_span 48 = .ok (.getfield 191, 3) := by decide +kernel
theorem dX7_span_51 : decode cX7_span 51 = .ok (.ifCond .ne 6, 3) := by decide +kernel
theorem dX7_span_54 : decode cX7_span 54 = .ok (.bipush (-9), 2) := by decide +kernel
theorem dX7_span_56 : decode cX7_span 56 = .ok (.ireturn, 1) := by decide +kernel
theorem dX7_span_57 : decode cX7_span 57 = .ok (.iload_n 2, 1) := by decide +kernel
theorem dX7_span_58 : decode cX7_span 58 = .ok (.ifCond .ne 15, 3) := by decide +kernel
theorem dX7_span_61 : decode cX7_span 61 = .ok (.aload_n 0, 1) := by decide +kernel
theorem dX7_span_62 : decode cX7_span 62 = .ok (.getfield 51, 3) := by decide +kernel
theorem dX7_span_65 : decode cX7_span 65 = .ok (.getfield 194, 3) := by decide +kernel
theorem dX7_span_68 : decode cX7_span 68 = .ok (.iload_n 1, 1) := by decide +kernel
theorem dX7_span_69 : decode cX7_span 69 = .ok (.iaload, 1) := by decide +kernel
theorem dX7_span_70 : decode cX7_span 70 = .ok (.goto 12, 3) := by decide +kernel
theorem dX7_span_73 : decode cX7_span 73 = .ok (.aload_n 0, 1) := by decide +kernel
theorem dX7_span_74 : decode cX7_span 74 = .ok (.getfield 51, 3) := by decide +kernel
theorem dX7_span_77 : decode cX7_span 77 = .ok (.getfield 197, 3) := by decide +kernel
theorem dX7_span_80 : decode cX7_span 80 = .ok (.iload_n 1, 1) := by decide +kernel
theorem dX7_span_81 : decode cX7_span 81 = .ok (.iaload, 1) := by decide +kernel
theorem dX7_span_82 : decode cX7_span 82 = .ok (.ireturn, 1) := by decide +kernel
theorem dX7_day_0 : decode cX7_day 0 = .ok (.aload_n 0, 1) := by decide +kernel
theorem dX7_day_1 : decode cX7_day 1 = .ok (.iload_n 1, 1) := by decide +kernel
theorem dX7_day_2 : decode cX7_day 2 = .ok (.invokevirtual 101, 3) := by decide +kernel
theorem dX7_day_5 : decode cX7_day 5 = .ok (.ifCond .eq 14, 3) := by decide +kernel
theorem dX7_day_8 : decode cX7_day 8 = .ok (.iload_n 2, 1) := by decide +kernel
theorem dX7_day_9 : decode cX7_day 9 = .ok (.ifCond .lt 10, 3) := by decide +kernel
theorem dX7_day_12 : decode cX7_day 12 = .ok (.iload_n 2, 1) := by decide +kernel
theorem dX7_day_13 : decode cX7_day 13 = .ok (.sipush 999, 3) := by decide +kernel
theorem dX7_day_16 : decode cX7_day 16 = .ok (.if_icmp .le 5, 3) := by decide +kernel
theorem dX7_day_19 : decode cX7_day 19 = .ok (.iconst (-1), 1) := by decide +kernel
theorem dX7_day_20 : decode cX7_day 20 = .ok (.ireturn, 1) := by decide +kernel
theorem dX7_day_21 : decode cX7_day 21 = .ok (.aload_n 0, 1) := by decide +kernel
theorem dX7_day_22 : decode cX7_day 22 = .ok (.invokevirtual 128, 3) := by decide +kernel
theorem dX7_day_25 : decode cX7_day 25 = .ok (.aload_n 0, 1) := by decide +kernel
theorem dX7_day_26 : decode cX7_day 26 = .ok (.getfield 51, 3) := by decide +kernel
theorem dX7_day_29 : decode cX7_day 29 = .ok (.aload_n 0, 1) := by decide +kernel
theorem dX7_day_30 : decode cX7_day 30 = .ok (.getfield 44, 3) := by decide +kernel
theorem dX7_day_33 : decode cX7_day 33 = .ok (.aload_n 0, 1) := by decide +kernel
theorem dX7_day_34 : decode cX7_day 34 = .ok (.getfield 58, 3) := by decide +kernel
theorem dX7_day_37 : decode cX7_day 37 = .ok (.aload_n 0, 1) := by decide +kernel
theorem dX7_day_38 : decode cX7_day 38 = .ok (.getfield 27, 3) := by decide +kernel
theorem dX7_day_41 : decode cX7_day 41 = .ok (.iconst 3, 1) := by decide +kernel
theorem dX7_day_42 : decode cX7_day 42 = .ok (.iaload, 1) := by decide +kernel
theorem dX7_day_43 : decode cX7_day 43 = .ok (.invokevirtual 187, 3) := by decide +kernel
theorem dX7_day_46 : decode cX7_day 46 = .ok (.aload_n 0, 1) := by decide +kernel
theorem dX7_day_47 : decode cX7_day 47 = .ok (.getfield 51, 3) := by decide +kernel
theorem dX7_day_50 : decode cX7_day 50 = .ok (.getfield 191, 3) := by decide +kernel
theorem dX7_day_53 : decode cX7_day 53 = .ok (.ifCond .eq 12, 3) := by decide +kernel
theorem dX7_day_56 : decode cX7_day 56 = .ok (.aload_n 0, 1) := by decide +kernel
theorem dX7_day_57 : decode cX7_day 57 = .ok (.iload_n 1, 1) := by decide +kernel
theorem dX7_day_58 : decode cX7_day 58 = .ok (.iload_n 2, 1) := by decide +kernel
theorem dX7_day_59 : decode cX7_day 59 = .ok (.invokevirtual 200, 3) := by decide +kernel
theorem dX7_day_62 : decode cX7_day 62 = .ok (.goto 4, 3) := by decide +kernel
theorem dX7_day_65 : decode cX7_day 65 = .ok (.iconst 0, 1) := by decide +kernel
theorem dX7_day_66 : decode cX7_day 66 = .ok (.ireturn, 1) := by decide +kernel
theorem dX7_bill_0 : decode cX7_bill 0 = .ok (.iload_n 1, 1) := by decide +kernel
theorem dX7_bill_1 : decode cX7_bill 1 = .ok (.ifCond .lt 14, 3) := by decide +kernel
theorem dX7_bill_4 : decode cX7_bill 4 = .ok (.iload_n 1, 1) := by decide +kernel
theorem dX7_bill_5 : decode cX7_bill 5 = .ok (.aload_n 0, 1) := by decide +kernel
theorem dX7_bill_6 : decode cX7_bill 6 = .ok (.getfield 58, 3) := by decide +kernel
theorem dX7_bill_9 : decode cX7_bill 9 = .ok (.getfield 203, 3) := by decide +kernel
theorem dX7_bill_12 : decode cX7_bill 12 = .ok (.if_icmp .lt 5, 3) := by decide +kernel
theorem dX7_bill_15 : decode cX7_bill 15 = .ok (.iconst (-1), 1) := by decide +kernel
theorem dX7_bill_16 : decode cX7_bill 16 = .ok (.ireturn, 1) := by decide +kernel
theorem dX7_bill_17 : decode cX7_bill 17 = .ok (.iload_n 2, 1) := by decide +kernel
theorem dX7_bill_18 : decode cX7_bill 18 = .ok (.lookupswitch 46 #[(0, 26), (1, 36)], 26) := by decide +kernel
theorem dX7_bill_44 : decode cX7_bill 44 = .ok (.aload_n 0, 1) := by decide +kernel
theorem dX7_bill_45 : decode cX7_bill 45 = .ok (.getfield 58, 3) := by decide +kernel
theorem dX7_bill_48 : decode cX7_bill 48 = .ok (.getfield 206, 3) := by decide +kernel
theorem dX7_bill_51 : decode cX7_bill 51 = .ok (.iload_n 1, 1) := by decide +kernel
theorem dX7_bill_52 : decode cX7_bill 52 = .ok (.iaload, 1) := by decide +kernel
theorem dX7_bill_53 : decode cX7_bill 53 = .ok (.ireturn, 1) := by decide +kernel
theorem dX7_bill_54 : decode cX7_bill 54 = .ok (.aload_n 0, 1) := by decide +kernel
theorem dX7_bill_55 : decode cX7_bill 55 = .ok (.getfield 58, 3) := by decide +kernel
theorem dX7_bill_58 : decode cX7_bill 58 = .ok (.getfield 209, 3) := by decide +kernel
theorem dX7_bill_61 : decode cX7_bill 61 = .ok (.iload_n 1, 1) := by decide +kernel
theorem dX7_bill_62 : decode cX7_bill 62 = .ok (.iaload, 1) := by decide +kernel
theorem dX7_bill_63 : decode cX7_bill 63 = .ok (.ireturn, 1) := by decide +kernel
theorem dX7_bill_64 : decode cX7_bill 64 = .ok (.iconst (-1), 1) := by decide +kernel
theorem dX7_bill_65 : decode cX7_bill 65 = .ok (.ireturn, 1) := by decide +kernel
theorem dX7_billed_0 : decode cX7_billed 0 = .ok (.aload_n 0, 1) := by decide +kernel
theorem dX7_billed_1 : decode cX7_billed 1 = .ok (.invokevirtual 128, 3) := by decide +kernel
theorem dX7_billed_4 : decode cX7_billed 4 = .ok (.iload_n 1, 1) := by decide +kernel
theorem dX7_billed_5 : decode cX7_billed 5 = .ok (.iconst (-1), 1) := by decide +kernel
theorem dX7_billed_6 : decode cX7_billed 6 = .ok (.if_icmp .eq 13, 3) := by decide +kernel
theorem dX7_billed_9 : decode cX7_billed 9 = .ok (.aload_n 0, 1) := by decide +kernel
theorem dX7_billed_10 : decode cX7_billed 10 = .ok (.iload_n 1, 1) := by decide +kernel
theorem dX7_billed_11 : decode cX7_billed 11 = .ok (.invokevirtual 171, 3) := by decide +kernel
theorem dX7_billed_14 : decode cX7_billed 14 = .ok (.ifCond .ne 5, 3) := by decide +kernel
theorem dX7_billed_17 : decode cX7_billed 17 = .ok (.iconst (-1), 1) := by decide +kernel
theorem dX7_billed_18 : decode cX7_billed 18 = .ok (.ireturn, 1) := by decide +kernel
theorem dX7_billed_19 : decode cX7_billed 19 = .ok (.aload_n 0, 1) := by decide +kernel
theorem dX7_billed_20 : decode cX7_billed 20 = .ok (.getfield 51, 3) := by decide +kernel
theorem dX7_billed_23 : decode cX7_billed 23 = .ok (.aload_n 0, 1) := by decide +kernel
theorem dX7_billed_24 : decode cX7_billed 24 = .ok (.getfield 44, 3) := by decide +kernel
theorem dX7_billed_27 : decode cX7_billed 27 = .ok (.aload_n 0, 1) := by decide +kernel
theorem dX7_billed_28 : decode cX7_billed 28 = .ok (.getfield 58, 3) := by decide +kernel
theorem dX7_billed_31 : decode cX7_billed 31 = .ok (.aload_n 0, 1) := by decide +kernel
theorem dX7_billed_32 : decode cX7_billed 32 = .ok (.getfield 27, 3) := by decide +kernel
theorem dX7_billed_35 : decode cX7_billed 35 = .ok (.iconst 3, 1) := by decide +kernel
theorem dX7_billed_36 : decode cX7_billed 36 = .ok (.iaload, 1) := by decide +kernel
theorem dX7_billed_37 : decode cX7_billed 37 = .ok (.invokevirtual 187, 3) := by decide +kernel
theorem dX7_billed_40 : decode cX7_billed 40 = .ok (.aload_n 0, 1) := by decide +kernel
theorem dX7_billed_41 : decode cX7_billed 41 = .ok (.getfield 51, 3) := by decide +kernel
theorem dX7_billed_44 : decode cX7_billed 44 = .ok (.aload_n 0, 1) := by decide +kernel
theorem dX7_billed_45 : decode cX7_billed 45 = .ok (.getfield 44, 3) := by decide +kernel
theorem dX7_billed_48 : decode cX7_billed 48 = .ok (.aload_n 0, 1) := by decide +kernel
theorem dX7_billed_49 : decode cX7_billed 49 = .ok (.getfield 58, 3) := by decide +kernel
theorem dX7_billed_52 : decode cX7_billed 52 = .ok (.invokevirtual 212, 3) := by decide +kernel
theorem dX7_billed_55 : decode cX7_billed 55 = .ok (.iload_n 1, 1) := by decide +kernel
theorem dX7_billed_56 : decode cX7_billed 56 = .ok (.iconst (-1), 1) := by decide +kernel
theorem dX7_billed_57 : decode cX7_billed 57 = .ok (.if_icmp .ne 13, 3) := by decide +kernel
theorem dX7_billed_60 : decode cX7_billed 60 = .ok (.aload_n 0, 1) := by decide +kernel
theorem dX7_billed_61 : decode cX7_billed 61 = .ok (.getfield 51, 3) := by decide +kernel
theorem dX7_billed_64 : decode cX7_billed 64 = .ok (.getfield 216, 3) := by decide +kernel
theorem dX7_billed_67 : decode cX7_billed 67 = .ok (.goto 12, 3) := by decide +kernel
theorem dX7_billed_70 : decode cX7_billed 70 = .ok (.aload_n 0, 1) := by decide +kernel
theorem dX7_billed_71 : decode cX7_billed 71 = .ok (.getfield 51, 3) := by decide +kernel
theorem dX7_billed_74 : decode cX7_billed 74 = .ok (.getfield 219, 3) := by decide +kernel
theorem dX7_billed_77 : decode cX7_billed 77 = .ok (.iload_n 1, 1) := by decide +kernel
theorem dX7_billed_78 : decode cX7_billed 78 = .ok (.iaload, 1) := by decide +kernel
theorem dX7_billed_79 : decode cX7_billed 79 = .ok (.ireturn, 1) := by decide +kernel
theorem dX7_enough_0 : decode cX7_enough 0 = .ok (.iload_n 1, 1) := by decide +kernel
theorem dX7_enough_1 : decode cX7_enough 1 = .ok (.iconst 1, 1) := by decide +kernel
theorem dX7_enough_2 : decode cX7_enough 2 = .ok (.if_icmp .lt 19, 3) := by decide +kernel
theorem dX7_enough_5 : decode cX7_enough 5 = .ok (.iload_n 1, 1) := by decide +kernel
theorem dX7_enough_6 : decode cX7_enough 6 = .ok (.bipush 10, 2) := by decide +kernel
theorem dX7_enough_8 : decode cX7_enough 8 = .ok (.if_icmp .gt 13, 3) := by decide +kernel
theorem dX7_enough_11 : decode cX7_enough 11 = .ok (.iload_n 2, 1) := by decide +kernel
theorem dX7_enough_12 : decode cX7_enough 12 = .ok (.ifCond .lt 9, 3) := by decide +kernel
theorem dX7_enough_15 : decode cX7_enough 15 = .ok (.iload_n 2, 1) := by decide +kernel
theorem dX7_enough_16 : decode cX7_enough 16 = .ok (.bipush 100, 2) := by decide +kernel
theorem dX7_enough_18 : decode cX7_enough 18 = .ok (.if_icmp .le 5, 3) := by decide +kernel
theorem dX7_enough_21 : decode cX7_enough 21 = .ok (.iconst (-1), 1) := by decide +kernel
theorem dX7_enough_22 : decode cX7_enough 22 = .ok (.ireturn, 1) := by decide +kernel
theorem dX7_enough_23 : decode cX7_enough 23 = .ok (.lconst 1, 1) := by decide +kernel
theorem dX7_enough_24 : decode cX7_enough 24 = .ok (.lstore_n 3, 1) := by decide +kernel
theorem dX7_enough_25 : decode cX7_enough 25 = .ok (.lconst 1, 1) := by decide +kernel
theorem dX7_enough_26 : decode cX7_enough 26 = .ok (.lstore 5, 2) := by decide +kernel
theorem dX7_enough_28 : decode cX7_enough 28 = .ok (.iconst 1, 1) := by decide +kernel
theorem dX7_enough_29 : decode cX7_enough 29 = .ok (.istore 7, 2) := by decide +kernel
theorem dX7_enough_31 : decode cX7_enough 31 = .ok (.iload 7, 2) := by decide +kernel
theorem dX7_enough_33 : decode cX7_enough 33 = .ok (.bipush 9, 2) := by decide +kernel
theorem dX7_enough_35 : decode cX7_enough 35 = .ok (.if_icmp .gt 68, 3) := by decide +kernel
theorem dX7_enough_38 : decode cX7_enough 38 = .ok (.lload_n 3, 1) := by decide +kernel
theorem dX7_enough_39 : decode cX7_enough 39 = .ok (.ldc2_w 222, 3) := by decide +kernel
theorem dX7_enough_42 : decode cX7_enough 42 = .ok (.lmul, 1) := by decide +kernel
theorem dX7_enough_43 : decode cX7_enough 43 = .ok (.lstore_n 3, 1) := by decide +kernel
theorem dX7_enough_44 : decode cX7_enough 44 = .ok (.lload 5, 2) := by decide +kernel
theorem dX7_enough_46 : decode cX7_enough 46 = .ok (.aload_n 0, 1) := by decide +kernel
theorem dX7_enough_47 : decode cX7_enough 47 = .ok (.getfield 27, 3) := by decide +kernel
theorem dX7_enough_50 : decode cX7_enough 50 = .ok (.iconst 4, 1) := by decide +kernel
theorem dX7_enough_51 : decode cX7_enough 51 = .ok (.iaload, 1) := by decide +kernel
theorem dX7_enough_52 : decode cX7_enough 52 = .ok (.i2l, 1) := by decide +kernel
theorem dX7_enough_53 : decode cX7_enough 53 = .ok (.lmul, 1) := by decide +kernel
theorem dX7_enough_54 : decode cX7_enough 54 = .ok (.lstore 5, 2) := by decide +kernel
theorem dX7_enough_56 : decode cX7_enough 56 = .ok (.lload_n 3, 1) := by decide +kernel
theorem dX7_enough_57 : decode cX7_enough 57 = .ok (.lconst 0, 1) := by decide +kernel
theorem dX7_enough_58 : decode cX7_enough 58 = .ok (.lcmp, 1) := by decide +kernel
theorem dX7_enough_59 : decode cX7_enough 59 = .ok (.ifCond .le 16, 3) := by decide +kernel
theorem dX7_enough_62 : decode cX7_enough 62 = .ok (.ldc2_w 224, 3) := by decide +kernel
theorem dX7_enough_65 : decode cX7_enough 65 = .ok (.lload_n 3, 1) := by decide +kernel
theorem dX7_enough_66 : decode cX7_enough 66 = .ok (.lload 5, 2) := by decide +kernel
theorem dX7_enough_68 : decode cX7_enough 68 = .ok (.lsub, 1) := by decide +kernel
theorem dX7_enough_69 : decode cX7_enough 69 = .ok (.lmul, 1) := by decide +kernel
theorem dX7_enough_70 : decode cX7_enough 70 = .ok (.lload_n 3, 1) := by decide +kernel
theorem dX7_enough_71 : decode cX7_enough 71 = .ok (.ldiv, 1) := by decide +kernel
theorem dX7_enough_72 : decode cX7_enough 72 = .ok (.goto 4, 3) := by decide +kernel
theorem dX7_enough_75 : decode cX7_enough 75 = .ok (.lconst 0, 1) := by decide +kernel
theorem dX7_enough_76 : decode cX7_enough 76 = .ok (.lstore 8, 2) := by decide +kernel
theorem dX7_enough_78 : decode cX7_enough 78 = .ok (.iload_n 1, 1) := by decide +kernel
theorem dX7_enough_79 : decode cX7_enough 79 = .ok (.lload 8, 2) := by decide +kernel
theorem dX7_enough_81 : decode cX7_enough 81 = .ok (.invokestatic 226, 3) := by decide +kernel
theorem dX7_enough_84 : decode cX7_enough 84 = .ok (.iload_n 2, 1) := by decide +kernel
theorem dX7_enough_85 : decode cX7_enough 85 = .ok (.i2l, 1) := by decide +kernel
theorem dX7_enough_86 : decode cX7_enough 86 = .ok (.ldc2_w 230, 3) := by decide +kernel
theorem dX7_enough_89 : decode cX7_enough 89 = .ok (.lmul, 1) := by decide +kernel
theorem dX7_enough_90 : decode cX7_enough 90 = .ok (.lcmp, 1) := by decide +kernel
theorem dX7_enough_91 : decode cX7_enough 91 = .ok (.ifCond .lt 6, 3) := by decide +kernel
theorem dX7_enough_94 : decode cX7_enough 94 = .ok (.iload 7, 2) := by decide +kernel
theorem dX7_enough_96 : decode cX7_enough 96 = .ok (.ireturn, 1) := by decide +kernel
theorem dX7_enough_97 : decode cX7_enough 97 = .ok (.iinc 7 1, 3) := by decide +kernel
theorem dX7_enough_100 : decode cX7_enough 100 = .ok (.goto (-69), 3) := by decide +kernel
theorem dX7_enough_103 : decode cX7_enough 103 = .ok (.bipush (-9), 2) := by decide +kernel
theorem dX7_enough_105 : decode cX7_enough 105 = .ok (.ireturn, 1) := by decide +kernel
theorem dX7_next_0 : decode cX7_next 0 = .ok (.aload_n 0, 1) := by decide +kernel
theorem dX7_next_1 : decode cX7_next 1 = .ok (.invokevirtual 128, 3) := by decide +kernel
theorem dX7_next_4 : decode cX7_next 4 = .ok (.bipush (-9), 2) := by decide +kernel
theorem dX7_next_6 : decode cX7_next 6 = .ok (.istore_n 1, 1) := by decide +kernel
theorem dX7_next_7 : decode cX7_next 7 = .ok (.iconst (-1), 1) := by decide +kernel
theorem dX7_next_8 : decode cX7_next 8 = .ok (.istore_n 2, 1) := by decide +kernel
theorem dX7_next_9 : decode cX7_next 9 = .ok (.iconst 0, 1) := by decide +kernel
theorem dX7_next_10 : decode cX7_next 10 = .ok (.istore_n 3, 1) := by decide +kernel
theorem dX7_next_11 : decode cX7_next 11 = .ok (.iload_n 3, 1) := by decide +kernel
theorem dX7_next_12 : decode cX7_next 12 = .ok (.bipush 6, 2) := by decide +kernel
theorem dX7_next_14 : decode cX7_next 14 = .ok (.if_icmp .ge 50, 3) := by decide +kernel
theorem dX7_next_17 : decode cX7_next 17 = .ok (.aload_n 0, 1) := by decide +kernel
theorem dX7_next_18 : decode cX7_next 18 = .ok (.getfield 19, 3) := by decide +kernel
theorem dX7_next_21 : decode cX7_next 21 = .ok (.iload_n 3, 1) := by decide +kernel
theorem dX7_next_22 : decode cX7_next 22 = .ok (.invokevirtual 232, 3) := by decide +kernel
theorem dX7_next_25 : decode cX7_next 25 = .ok (.istore 4, 2) := by decide +kernel
theorem dX7_next_27 : decode cX7_next 27 = .ok (.iload 4, 2) := by decide +kernel
theorem dX7_next_29 : decode cX7_next 29 = .ok (.ifCond .ne 7, 3) := by decide +kernel
theorem dX7_next_32 : decode cX7_next 32 = .ok (.iconst (-1), 1) := by decide +kernel
theorem dX7_next_33 : decode cX7_next 33 = .ok (.goto 12, 3) := by decide +kernel
theorem dX7_next_36 : decode cX7_next 36 = .ok (.aload_n 0, 1) := by decide +kernel
theorem dX7_next_37 : decode cX7_next 37 = .ok (.getfield 44, 3) := by decide +kernel
theorem dX7_next_40 : decode cX7_next 40 = .ok (.iload 4, 2) := by decide +kernel
theorem dX7_next_42 : decode cX7_next 42 = .ok (.invokevirtual 235, 3) := by decide +kernel
theorem dX7_next_45 : decode cX7_next 45 = .ok (.istore 5, 2) := by decide +kernel
theorem dX7_next_47 : decode cX7_next 47 = .ok (.iload 5, 2) := by decide +kernel
theorem dX7_next_49 : decode cX7_next 49 = .ok (.iload_n 2, 1) := by decide +kernel
theorem dX7_next_50 : decode cX7_next 50 = .ok (.if_icmp .le 8, 3) := by decide +kernel
theorem dX7_next_53 : decode cX7_next 53 = .ok (.iload_n 3, 1) := by decide +kernel
theorem dX7_next_54 : decode cX7_next 54 = .ok (.istore_n 1, 1) := by decide +kernel
theorem dX7_next_55 : decode cX7_next 55 = .ok (.iload 5, 2) := by decide +kernel
theorem dX7_next_57 : decode cX7_next 57 = .ok (.istore_n 2, 1) := by decide +kernel
theorem dX7_next_58 : decode cX7_next 58 = .ok (.iinc 3 1, 3) := by decide +kernel
theorem dX7_next_61 : decode cX7_next 61 = .ok (.goto (-50), 3) := by decide +kernel
theorem dX7_next_64 : decode cX7_next 64 = .ok (.iload_n 1, 1) := by decide +kernel
theorem dX7_next_65 : decode cX7_next 65 = .ok (.ireturn, 1) := by decide +kernel
theorem dX7_rank_0 : decode cX7_rank 0 = .ok (.aload_n 0, 1) := by decide +kernel
theorem dX7_rank_1 : decode cX7_rank 1 = .ok (.iload_n 2, 1) := by decide +kernel
theorem dX7_rank_2 : decode cX7_rank 2 = .ok (.iload_n 3, 1) := by decide +kernel
theorem dX7_rank_3 : decode cX7_rank 3 = .ok (.invokevirtual 118, 3) := by decide +kernel
theorem dX7_rank_6 : decode cX7_rank 6 = .ok (.ifCond .ne 6, 3) := by decide +kernel
theorem dX7_rank_9 : decode cX7_rank 9 = .ok (.ldc 238, 2) := by decide +kernel
theorem dX7_rank_11 : decode cX7_rank 11 = .ok (.ireturn, 1) := by decide +kernel
theorem dX7_rank_12 : decode cX7_rank 12 = .ok (.aload_n 0, 1) := by decide +kernel
theorem dX7_rank_13 : decode cX7_rank 13 = .ok (.invokevirtual 128, 3) := by decide +kernel
theorem dX7_rank_16 : decode cX7_rank 16 = .ok (.iload_n 1, 1) := by decide +kernel
theorem dX7_rank_17 : decode cX7_rank 17 = .ok (.tableswitch 81 0 5 #[39, 46, 53, 60, 67, 74], 39) := by decide +kernel
theorem dX7_rank_56 : decode cX7_rank 56 = .ok (.aload_n 0, 1) := by decide +kernel
theorem dX7_rank_57 : decode cX7_rank 57 = .ok (.iload_n 2, 1) := by decide +kernel
theorem dX7_rank_58 : decode cX7_rank 58 = .ok (.iload_n 3, 1) := by decide +kernel
theorem dX7_rank_59 : decode cX7_rank 59 = .ok (.invokevirtual 239, 3) := by decide +kernel
theorem dX7_rank_62 : decode cX7_rank 62 = .ok (.ireturn, 1) := by decide +kernel
theorem dX7_rank_63 : decode cX7_rank 63 = .ok (.aload_n 0, 1) := by decide +kernel
theorem dX7_rank_64 : decode cX7_rank 64 = .ok (.iload_n 2, 1) := by decide +kernel
theorem dX7_rank_65 : decode cX7_rank 65 = .ok (.iload_n 3, 1) := by decide +kernel
theorem dX7_rank_66 : decode cX7_rank 66 = .ok (.invokevirtual 242, 3) := by decide +kernel
theorem dX7_rank_69 : decode cX7_rank 69 = .ok (.ireturn, 1) := by decide +kernel
theorem dX7_rank_70 : decode cX7_rank 70 = .ok (.aload_n 0, 1) := by decide +kernel
theorem dX7_rank_71 : decode cX7_rank 71 = .ok (.iload_n 2, 1) := by decide +kernel
theorem dX7_rank_72 : decode cX7_rank 72 = .ok (.iload_n 3, 1) := by decide +kernel
theorem dX7_rank_73 : decode cX7_rank 73 = .ok (.invokevirtual 245, 3) := by decide +kernel
theorem dX7_rank_76 : decode cX7_rank 76 = .ok (.ireturn, 1) := by decide +kernel
theorem dX7_rank_77 : decode cX7_rank 77 = .ok (.aload_n 0, 1) := by decide +kernel
theorem dX7_rank_78 : decode cX7_rank 78 = .ok (.iload_n 2, 1) := by decide +kernel
theorem dX7_rank_79 : decode cX7_rank 79 = .ok (.iload_n 3, 1) := by decide +kernel
theorem dX7_rank_80 : decode cX7_rank 80 = .ok (.invokevirtual 248, 3) := by decide +kernel
theorem dX7_rank_83 : decode cX7_rank 83 = .ok (.ireturn, 1) := by decide +kernel
theorem dX7_rank_84 : decode cX7_rank 84 = .ok (.aload_n 0, 1) := by decide +kernel
theorem dX7_rank_85 : decode cX7_rank 85 = .ok (.iload_n 2, 1) := by decide +kernel
theorem dX7_rank_86 : decode cX7_rank 86 = .ok (.iload_n 3, 1) := by decide +kernel
theorem dX7_rank_87 : decode cX7_rank 87 = .ok (.invokevirtual 251, 3) := by decide +kernel
theorem dX7_rank_90 : decode cX7_rank 90 = .ok (.ireturn, 1) := by decide +kernel
theorem dX7_rank_91 : decode cX7_rank 91 = .ok (.aload_n 0, 1) := by decide +kernel
theorem dX7_rank_92 : decode cX7_rank 92 = .ok (.iload_n 2, 1) := by decide +kernel
theorem dX7_rank_93 : decode cX7_rank 93 = .ok (.iload_n 3, 1) := by decide +kernel
theorem dX7_rank_94 : decode cX7_rank 94 = .ok (.invokevirtual 254, 3) := by decide +kernel
theorem dX7_rank_97 : decode cX7_rank 97 = .ok (.ireturn, 1) := by decide +kernel
theorem dX7_rank_98 : decode cX7_rank 98 = .ok (.ldc 238, 2) := by decide +kernel
theorem dX7_rank_100 : decode cX7_rank 100 = .ok (.ireturn, 1) := by decide +kernel
theorem dX7_keep_0 : decode cX7_keep 0 = .ok (.iload_n 1, 1) := by decide +kernel
theorem dX7_keep_1 : decode cX7_keep 1 = .ok (.ifCond .lt 8, 3) := by decide +kernel
theorem dX7_keep_4 : decode cX7_keep 4 = .ok (.iload_n 1, 1) := by decide +kernel
theorem dX7_keep_5 : decode cX7_keep 5 = .ok (.iconst 2, 1) := by decide +kernel
theorem dX7_keep_6 : decode cX7_keep 6 = .ok (.if_icmp .lt 5, 3) := by decide +kernel
theorem dX7_keep_9 : decode cX7_keep 9 = .ok (.iconst (-1), 1) := by decide +kernel
theorem dX7_keep_10 : decode cX7_keep 10 = .ok (.ireturn, 1) := by decide +kernel
theorem dX7_keep_11 : decode cX7_keep 11 = .ok (.aload_n 0, 1) := by decide +kernel
theorem dX7_keep_12 : decode cX7_keep 12 = .ok (.getfield 23, 3) := by decide +kernel
theorem dX7_keep_15 : decode cX7_keep 15 = .ok (.iload_n 1, 1) := by decide +kernel
theorem dX7_keep_16 : decode cX7_keep 16 = .ok (.aaload, 1) := by decide +kernel
theorem dX7_keep_17 : decode cX7_keep 17 = .ok (.aload_n 0, 1) := by decide +kernel
theorem dX7_keep_18 : decode cX7_keep 18 = .ok (.getfield 19, 3) := by decide +kernel
theorem dX7_keep_21 : decode cX7_keep 21 = .ok (.invokevirtual 257, 3) := by decide +kernel
theorem dX7_keep_24 : decode cX7_keep 24 = .ok (.aload_n 0, 1) := by decide +kernel
theorem dX7_keep_25 : decode cX7_keep 25 = .ok (.getfield 23, 3) := by decide +kernel
theorem dX7_keep_28 : decode cX7_keep 28 = .ok (.iload_n 1, 1) := by decide +kernel
theorem dX7_keep_29 : decode cX7_keep 29 = .ok (.aaload, 1) := by decide +kernel
theorem dX7_keep_30 : decode cX7_keep 30 = .ok (.iconst 1, 1) := by decide +kernel
theorem dX7_keep_31 : decode cX7_keep 31 = .ok (.putfield 261, 3) := by decide +kernel
theorem dX7_keep_34 : decode cX7_keep 34 = .ok (.aload_n 0, 1) := by decide +kernel
theorem dX7_keep_35 : decode cX7_keep 35 = .ok (.getfield 19, 3) := by decide +kernel
theorem dX7_keep_38 : decode cX7_keep 38 = .ok (.getfield 73, 3) := by decide +kernel
theorem dX7_keep_41 : decode cX7_keep 41 = .ok (.ireturn, 1) := by decide +kernel
theorem dX7_back_0 : decode cX7_back 0 = .ok (.iload_n 1, 1) := by decide +kernel
theorem dX7_back_1 : decode cX7_back 1 = .ok (.ifCond .lt 8, 3) := by decide +kernel
theorem dX7_back_4 : decode cX7_back 4 = .ok (.iload_n 1, 1) := by decide +kernel
theorem dX7_back_5 : decode cX7_back 5 = .ok (.iconst 2, 1) := by decide +kernel
theorem dX7_back_6 : decode cX7_back 6 = .ok (.if_icmp .lt 5, 3) := by decide +kernel
theorem dX7_back_9 : decode cX7_back 9 = .ok (.iconst (-1), 1) := by decide +kernel
theorem dX7_back_10 : decode cX7_back 10 = .ok (.ireturn, 1) := by decide +kernel
theorem dX7_back_11 : decode cX7_back 11 = .ok (.aload_n 0, 1) := by decide +kernel
theorem dX7_back_12 : decode cX7_back 12 = .ok (.getfield 23, 3) := by decide +kernel
theorem dX7_back_15 : decode cX7_back 15 = .ok (.iload_n 1, 1) := by decide +kernel
theorem dX7_back_16 : decode cX7_back 16 = .ok (.aaload, 1) := by decide +kernel
theorem dX7_back_17 : decode cX7_back 17 = .ok (.getfield 261, 3) := by decide +kernel
theorem dX7_back_20 : decode cX7_back 20 = .ok (.ifCond .ne 6, 3) := by decide +kernel
theorem dX7_back_23 : decode cX7_back 23 = .ok (.bipush (-2), 2) := by decide +kernel
theorem dX7_back_25 : decode cX7_back 25 = .ok (.ireturn, 1) := by decide +kernel
theorem dX7_back_26 : decode cX7_back 26 = .ok (.aload_n 0, 1) := by decide +kernel
theorem dX7_back_27 : decode cX7_back 27 = .ok (.getfield 19, 3) := by decide +kernel
theorem dX7_back_30 : decode cX7_back 30 = .ok (.aload_n 0, 1) := by decide +kernel
theorem dX7_back_31 : decode cX7_back 31 = .ok (.getfield 23, 3) := by decide +kernel
theorem dX7_back_34 : decode cX7_back 34 = .ok (.iload_n 1, 1) := by decide +kernel
theorem dX7_back_35 : decode cX7_back 35 = .ok (.aaload, 1) := by decide +kernel
theorem dX7_back_36 : decode cX7_back 36 = .ok (.invokevirtual 257, 3) := by decide +kernel
theorem dX7_back_39 : decode cX7_back 39 = .ok (.aload_n 0, 1) := by decide +kernel
theorem dX7_back_40 : decode cX7_back 40 = .ok (.iconst 0, 1) := by decide +kernel
theorem dX7_back_41 : decode cX7_back 41 = .ok (.putfield 93, 3) := by decide +kernel
theorem dX7_back_44 : decode cX7_back 44 = .ok (.aload_n 0, 1) := by decide +kernel
theorem dX7_back_45 : decode cX7_back 45 = .ok (.getfield 19, 3) := by decide +kernel
theorem dX7_back_48 : decode cX7_back 48 = .ok (.getfield 73, 3) := by decide +kernel
theorem dX7_back_51 : decode cX7_back 51 = .ok (.ireturn, 1) := by decide +kernel
theorem dX7_count_0 : decode cX7_count 0 = .ok (.iload_n 1, 1) := by decide +kernel
theorem dX7_count_1 : decode cX7_count 1 = .ok (.tableswitch 63 0 3 #[31, 39, 47, 55], 31) := by decide +kernel
theorem dX7_count_32 : decode cX7_count 32 = .ok (.aload_n 0, 1) := by decide +kernel
theorem dX7_count_33 : decode cX7_count 33 = .ok (.getfield 19, 3) := by decide +kernel
theorem dX7_count_36 : decode cX7_count 36 = .ok (.getfield 73, 3) := by decide +kernel
theorem dX7_count_39 : decode cX7_count 39 = .ok (.ireturn, 1) := by decide +kernel
theorem dX7_count_40 : decode cX7_count 40 = .ok (.aload_n 0, 1) := by decide +kernel
theorem dX7_count_41 : decode cX7_count 41 = .ok (.getfield 19, 3) := by decide +kernel
theorem dX7_count_44 : decode cX7_count 44 = .ok (.invokevirtual 264, 3) := by decide +kernel
theorem dX7_count_47 : decode cX7_count 47 = .ok (.ireturn, 1) := by decide +kernel
theorem dX7_count_48 : decode cX7_count 48 = .ok (.aload_n 0, 1) := by decide +kernel
theorem dX7_count_49 : decode cX7_count 49 = .ok (.getfield 58, 3) := by decide +kernel
theorem dX7_count_52 : decode cX7_count 52 = .ok (.getfield 203, 3) := by decide +kernel
theorem dX7_count_55 : decode cX7_count 55 = .ok (.ireturn, 1) := by decide +kernel
theorem dX7_count_56 : decode cX7_count 56 = .ok (.aload_n 0, 1) := by decide +kernel
theorem dX7_count_57 : decode cX7_count 57 = .ok (.getfield 12, 3) := by decide +kernel
theorem dX7_count_60 : decode cX7_count 60 = .ok (.getfield 69, 3) := by decide +kernel
theorem dX7_count_63 : decode cX7_count 63 = .ok (.ireturn, 1) := by decide +kernel
theorem dX7_count_64 : decode cX7_count 64 = .ok (.iconst (-1), 1) := by decide +kernel
theorem dX7_count_65 : decode cX7_count 65 = .ok (.ireturn, 1) := by decide +kernel
theorem dX7_trace_0 : decode cX7_trace 0 = .ok (.aload_n 0, 1) := by decide +kernel
theorem dX7_trace_1 : decode cX7_trace 1 = .ok (.getfield 267, 3) := by decide +kernel
theorem dX7_trace_4 : decode cX7_trace 4 = .ok (.lreturn, 1) := by decide +kernel
theorem dX7_isChip_0 : decode cX7_isChip 0 = .ok (.iload_n 1, 1) := by decide +kernel
theorem dX7_isChip_1 : decode cX7_isChip 1 = .ok (.ifCond .lt 18, 3) := by decide +kernel
theorem dX7_isChip_4 : decode cX7_isChip 4 = .ok (.iload_n 1, 1) := by decide +kernel
theorem dX7_isChip_5 : decode cX7_isChip 5 = .ok (.aload_n 0, 1) := by decide +kernel
theorem dX7_isChip_6 : decode cX7_isChip 6 = .ok (.getfield 19, 3) := by decide +kernel
theorem dX7_isChip_9 : decode cX7_isChip 9 = .ok (.getfield 73, 3) := by decide +kernel
theorem dX7_isChip_12 : decode cX7_isChip 12 = .ok (.if_icmp .ge 7, 3) := by decide +kernel
theorem dX7_isChip_15 : decode cX7_isChip 15 = .ok (.iconst 1, 1) := by decide +kernel
theorem dX7_isChip_16 : decode cX7_isChip 16 = .ok (.goto 4, 3) := by decide +kernel
theorem dX7_isChip_19 : decode cX7_isChip 19 = .ok (.iconst 0, 1) := by decide +kernel
theorem dX7_isChip_20 : decode cX7_isChip 20 = .ok (.ireturn, 1) := by decide +kernel
theorem dX7_isCoat_0 : decode cX7_isCoat 0 = .ok (.aload_n 0, 1) := by decide +kernel
theorem dX7_isCoat_1 : decode cX7_isCoat 1 = .ok (.iload_n 1, 1) := by decide +kernel
theorem dX7_isCoat_2 : decode cX7_isCoat 2 = .ok (.invokevirtual 101, 3) := by decide +kernel
theorem dX7_isCoat_5 : decode cX7_isCoat 5 = .ok (.ifCond .eq 27, 3) := by decide +kernel
theorem dX7_isCoat_8 : decode cX7_isCoat 8 = .ok (.iload_n 2, 1) := by decide +kernel
theorem dX7_isCoat_9 : decode cX7_isCoat 9 = .ok (.ifCond .lt 23, 3) := by decide +kernel
theorem dX7_isCoat_12 : decode cX7_isCoat 12 = .ok (.iload_n 2, 1) := by decide +kernel
theorem dX7_isCoat_13 : decode cX7_isCoat 13 = .ok (.aload_n 0, 1) := by decide +kernel
theorem dX7_isCoat_14 : decode cX7_isCoat 14 = .ok (.getfield 19, 3) := by decide +kernel
theorem dX7_isCoat_17 : decode cX7_isCoat 17 = .ok (.getfield 79, 3) := by decide +kernel
theorem dX7_isCoat_20 : decode cX7_isCoat 20 = .ok (.iload_n 1, 1) := by decide +kernel
theorem dX7_isCoat_21 : decode cX7_isCoat 21 = .ok (.aaload, 1) := by decide +kernel
theorem dX7_isCoat_22 : decode cX7_isCoat 22 = .ok (.getfield 115, 3) := by decide +kernel
theorem dX7_isCoat_25 : decode cX7_isCoat 25 = .ok (.if_icmp .ge 7, 3) := by decide +kernel
theorem dX7_isCoat_28 : decode cX7_isCoat 28 = .ok (.iconst 1, 1) := by decide +kernel
theorem dX7_isCoat_29 : decode cX7_isCoat 29 = .ok (.goto 4, 3) := by decide +kernel
theorem dX7_isCoat_32 : decode cX7_isCoat 32 = .ok (.iconst 0, 1) := by decide +kernel
theorem dX7_isCoat_33 : decode cX7_isCoat 33 = .ok (.ireturn, 1) := by decide +kernel
theorem dX7_areTwo_0 : decode cX7_areTwo 0 = .ok (.aload_n 0, 1) := by decide +kernel
theorem dX7_areTwo_1 : decode cX7_areTwo 1 = .ok (.iload_n 1, 1) := by decide +kernel
theorem dX7_areTwo_2 : decode cX7_areTwo 2 = .ok (.invokevirtual 101, 3) := by decide +kernel
theorem dX7_areTwo_5 : decode cX7_areTwo 5 = .ok (.ifCond .eq 20, 3) := by decide +kernel
theorem dX7_areTwo_8 : decode cX7_areTwo 8 = .ok (.aload_n 0, 1) := by decide +kernel
theorem dX7_areTwo_9 : decode cX7_areTwo 9 = .ok (.iload_n 2, 1) := by decide +kernel
theorem dX7_areTwo_10 : decode cX7_areTwo 10 = .ok (.invokevirtual 101, 3) := by decide +kernel
theorem dX7_areTwo_13 : decode cX7_areTwo 13 = .ok (.ifCond .eq 12, 3) := by decide +kernel
theorem dX7_areTwo_16 : decode cX7_areTwo 16 = .ok (.iload_n 1, 1) := by decide +kernel
theorem dX7_areTwo_17 : decode cX7_areTwo 17 = .ok (.iload_n 2, 1) := by decide +kernel
theorem dX7_areTwo_18 : decode cX7_areTwo 18 = .ok (.if_icmp .eq 7, 3) := by decide +kernel
theorem dX7_areTwo_21 : decode cX7_areTwo 21 = .ok (.iconst 1, 1) := by decide +kernel
theorem dX7_areTwo_22 : decode cX7_areTwo 22 = .ok (.goto 4, 3) := by decide +kernel
theorem dX7_areTwo_25 : decode cX7_areTwo 25 = .ok (.iconst 0, 1) := by decide +kernel
theorem dX7_areTwo_26 : decode cX7_areTwo 26 = .ok (.ireturn, 1) := by decide +kernel
theorem dX7_isPainting_0 : decode cX7_isPainting 0 = .ok (.iload_n 1, 1) := by decide +kernel
theorem dX7_isPainting_1 : decode cX7_isPainting 1 = .ok (.ifCond .lt 18, 3) := by decide +kernel
theorem dX7_isPainting_4 : decode cX7_isPainting 4 = .ok (.iload_n 1, 1) := by decide +kernel
theorem dX7_isPainting_5 : decode cX7_isPainting 5 = .ok (.aload_n 0, 1) := by decide +kernel
theorem dX7_isPainting_6 : decode cX7_isPainting 6 = .ok (.getfield 44, 3) := by decide +kernel
theorem dX7_isPainting_9 : decode cX7_isPainting 9 = .ok (.getfield 170, 3) := by decide +kernel
theorem dX7_isPainting_12 : decode cX7_isPainting 12 = .ok (.if_icmp .ge 7, 3) := by decide +kernel
theorem dX7_isPainting_15 : decode cX7_isPainting 15 = .ok (.iconst 1, 1) := by decide +kernel
theorem dX7_isPainting_16 : decode cX7_isPainting 16 = .ok (.goto 4, 3) := by decide +kernel
theorem dX7_isPainting_19 : decode cX7_isPainting 19 = .ok (.iconst 0, 1) := by decide +kernel
theorem dX7_isPainting_20 : decode cX7_isPainting 20 = .ok (.ireturn, 1) := by decide +kernel
theorem dX7_findSame_0 : decode cX7_findSame 0 = .ok (.iconst 0, 1) := by decide +kernel
theorem dX7_findSame_1 : decode cX7_findSame 1 = .ok (.istore_n 1, 1) := by decide +kernel
theorem dX7_findSame_2 : decode cX7_findSame 2 = .ok (.iload_n 1, 1) := by decide +kernel
theorem dX7_findSame_3 : decode cX7_findSame 3 = .ok (.bipush 12, 2) := by decide +kernel
theorem dX7_findSame_5 : decode cX7_findSame 5 = .ok (.if_icmp .ge 41, 3) := by decide +kernel
theorem dX7_findSame_8 : decode cX7_findSame 8 = .ok (.aload_n 0, 1) := by decide +kernel
theorem dX7_findSame_9 : decode cX7_findSame 9 = .ok (.getfield 31, 3) := by decide +kernel
theorem dX7_findSame_12 : decode cX7_findSame 12 = .ok (.iload_n 1, 1) := by decide +kernel
theorem dX7_findSame_13 : decode cX7_findSame 13 = .ok (.iconst 1, 1) := by decide +kernel
theorem dX7_findSame_14 : decode cX7_findSame 14 = .ok (.iload_n 1, 1) := by decide +kernel
theorem dX7_findSame_15 : decode cX7_findSame 15 = .ok (.ishl, 1) := by decide +kernel
theorem dX7_findSame_16 : decode cX7_findSame 16 = .ok (.aload_n 0, 1) := by decide +kernel
theorem dX7_findSame_17 : decode cX7_findSame 17 = .ok (.getfield 27, 3) := by decide +kernel
theorem dX7_findSame_20 : decode cX7_findSame 20 = .ok (.iconst 2, 1) := by decide +kernel
theorem dX7_findSame_21 : decode cX7_findSame 21 = .ok (.iaload, 1) := by decide +kernel
theorem dX7_findSame_22 : decode cX7_findSame 22 = .ok (.ifCond .ne 15, 3) := by decide +kernel
theorem dX7_findSame_25 : decode cX7_findSame 25 = .ok (.aload_n 0, 1) := by decide +kernel
theorem dX7_findSame_26 : decode cX7_findSame 26 = .ok (.getfield 58, 3) := by decide +kernel
theorem dX7_findSame_29 : decode cX7_findSame 29 = .ok (.getfield 141, 3) := by decide +kernel
theorem dX7_findSame_32 : decode cX7_findSame 32 = .ok (.iload_n 1, 1) := by decide +kernel
theorem dX7_findSame_33 : decode cX7_findSame 33 = .ok (.iaload, 1) := by decide +kernel
theorem dX7_findSame_34 : decode cX7_findSame 34 = .ok (.goto 4, 3) := by decide +kernel
theorem dX7_findSame_37 : decode cX7_findSame 37 = .ok (.iconst 0, 1) := by decide +kernel
theorem dX7_findSame_38 : decode cX7_findSame 38 = .ok (.ior, 1) := by decide +kernel
theorem dX7_findSame_39 : decode cX7_findSame 39 = .ok (.iastore, 1) := by decide +kernel
theorem dX7_findSame_40 : decode cX7_findSame 40 = .ok (.iinc 1 1, 3) := by decide +kernel
theorem dX7_findSame_43 : decode cX7_findSame 43 = .ok (.goto (-41), 3) := by decide +kernel
theorem dX7_findSame_46 : decode cX7_findSame 46 = .ok (.return_, 1) := by decide +kernel
theorem dX7_lay_0 : decode cX7_lay 0 = .ok (.aload_n 0, 1) := by decide +kernel
theorem dX7_lay_1 : decode cX7_lay 1 = .ok (.invokevirtual 271, 3) := by decide +kernel
theorem dX7_lay_4 : decode cX7_lay 4 = .ok (.aload_n 0, 1) := by decide +kernel
theorem dX7_lay_5 : decode cX7_lay 5 = .ok (.getfield 37, 3) := by decide +kernel
theorem dX7_lay_8 : decode cX7_lay 8 = .ok (.aload_n 0, 1) := by decide +kernel
theorem dX7_lay_9 : decode cX7_lay 9 = .ok (.getfield 19, 3) := by decide +kernel
theorem dX7_lay_12 : decode cX7_lay 12 = .ok (.getfield 79, 3) := by decide +kernel
theorem dX7_lay_15 : decode cX7_lay 15 = .ok (.iload_n 1, 1) := by decide +kernel
theorem dX7_lay_16 : decode cX7_lay 16 = .ok (.aaload, 1) := by decide +kernel
theorem dX7_lay_17 : decode cX7_lay 17 = .ok (.aload_n 0, 1) := by decide +kernel
theorem dX7_lay_18 : decode cX7_lay 18 = .ok (.getfield 19, 3) := by decide +kernel
theorem dX7_lay_21 : decode cX7_lay 21 = .ok (.getfield 79, 3) := by decide +kernel
theorem dX7_lay_24 : decode cX7_lay 24 = .ok (.iload_n 2, 1) := by decide +kernel
theorem dX7_lay_25 : decode cX7_lay 25 = .ok (.aaload, 1) := by decide +kernel
theorem dX7_lay_26 : decode cX7_lay 26 = .ok (.aload_n 0, 1) := by decide +kernel
theorem dX7_lay_27 : decode cX7_lay 27 = .ok (.getfield 31, 3) := by decide +kernel
theorem dX7_lay_30 : decode cX7_lay 30 = .ok (.aload_n 0, 1) := by decide +kernel
theorem dX7_lay_31 : decode cX7_lay 31 = .ok (.getfield 27, 3) := by decide +kernel
theorem dX7_lay_34 : decode cX7_lay 34 = .ok (.iconst 0, 1) := by decide +kernel
theorem dX7_lay_35 : decode cX7_lay 35 = .ok (.iaload, 1) := by decide +kernel
theorem dX7_lay_36 : decode cX7_lay 36 = .ok (.aload_n 0, 1) := by decide +kernel
theorem dX7_lay_37 : decode cX7_lay 37 = .ok (.getfield 27, 3) := by decide +kernel
theorem dX7_lay_40 : decode cX7_lay 40 = .ok (.iconst 1, 1) := by decide +kernel
theorem dX7_lay_41 : decode cX7_lay 41 = .ok (.iaload, 1) := by decide +kernel
theorem dX7_lay_42 : decode cX7_lay 42 = .ok (.invokevirtual 274, 3) := by decide +kernel
theorem dX7_lay_45 : decode cX7_lay 45 = .ok (.return_, 1) := by decide +kernel
theorem dX7_settle_0 : decode cX7_settle 0 = .ok (.aload_n 0, 1) := by decide +kernel
theorem dX7_settle_1 : decode cX7_settle 1 = .ok (.getfield 93, 3) := by decide +kernel
theorem dX7_settle_4 : decode cX7_settle 4 = .ok (.ifCond .ne 27, 3) := by decide +kernel
theorem dX7_settle_7 : decode cX7_settle 7 = .ok (.aload_n 0, 1) := by decide +kernel
theorem dX7_settle_8 : decode cX7_settle 8 = .ok (.invokevirtual 271, 3) := by decide +kernel
theorem dX7_settle_11 : decode cX7_settle 11 = .ok (.aload_n 0, 1) := by decide +kernel
theorem dX7_settle_12 : decode cX7_settle 12 = .ok (.getfield 44, 3) := by decide +kernel
theorem dX7_settle_15 : decode cX7_settle 15 = .ok (.aload_n 0, 1) := by decide +kernel
theorem dX7_settle_16 : decode cX7_settle 16 = .ok (.getfield 19, 3) := by decide +kernel
theorem dX7_settle_19 : decode cX7_settle 19 = .ok (.aload_n 0, 1) := by decide +kernel
theorem dX7_settle_20 : decode cX7_settle 20 = .ok (.getfield 31, 3) := by decide +kernel
theorem dX7_settle_23 : decode cX7_settle 23 = .ok (.invokevirtual 277, 3) := by decide +kernel
theorem dX7_settle_26 : decode cX7_settle 26 = .ok (.aload_n 0, 1) := by decide +kernel
theorem dX7_settle_27 : decode cX7_settle 27 = .ok (.iconst 1, 1) := by decide +kernel
theorem dX7_settle_28 : decode cX7_settle 28 = .ok (.putfield 93, 3) := by decide +kernel
theorem dX7_settle_31 : decode cX7_settle 31 = .ok (.return_, 1) := by decide +kernel
theorem dX7_paintingOf_0 : decode cX7_paintingOf 0 = .ok (.aload_n 0, 1) := by decide +kernel
theorem dX7_paintingOf_1 : decode cX7_paintingOf 1 = .ok (.getfield 44, 3) := by decide +kernel
theorem dX7_paintingOf_4 : decode cX7_paintingOf 4 = .ok (.getfield 280, 3) := by decide +kernel
theorem dX7_paintingOf_7 : decode cX7_paintingOf 7 = .ok (.iload_n 1, 1) := by decide +kernel
theorem dX7_paintingOf_8 : decode cX7_paintingOf 8 = .ok (.bipush 10, 2) := by decide +kernel
theorem dX7_paintingOf_10 : decode cX7_paintingOf 10 = .ok (.imul, 1) := by decide +kernel
theorem dX7_paintingOf_11 : decode cX7_paintingOf 11 = .ok (.iload_n 2, 1) := by decide +kernel
theorem dX7_paintingOf_12 : decode cX7_paintingOf 12 = .ok (.iadd, 1) := by decide +kernel
theorem dX7_paintingOf_13 : decode cX7_paintingOf 13 = .ok (.iaload, 1) := by decide +kernel
theorem dX7_paintingOf_14 : decode cX7_paintingOf 14 = .ok (.ireturn, 1) := by decide +kernel
theorem dX7_missedBy_0 : decode cX7_missedBy 0 = .ok (.aload_n 0, 1) := by decide +kernel
theorem dX7_missedBy_1 : decode cX7_missedBy 1 = .ok (.getfield 19, 3) := by decide +kernel
theorem dX7_missedBy_4 : decode cX7_missedBy 4 = .ok (.getfield 79, 3) := by decide +kernel
theorem dX7_missedBy_7 : decode cX7_missedBy 7 = .ok (.iload_n 1, 1) := by decide +kernel
theorem dX7_missedBy_8 : decode cX7_missedBy 8 = .ok (.aaload, 1) := by decide +kernel
theorem dX7_missedBy_9 : decode cX7_missedBy 9 = .ok (.getfield 115, 3) := by decide +kernel
theorem dX7_missedBy_12 : decode cX7_missedBy 12 = .ok (.istore_n 2, 1) := by decide +kernel
theorem dX7_missedBy_13 : decode cX7_missedBy 13 = .ok (.aload_n 0, 1) := by decide +kernel
theorem dX7_missedBy_14 : decode cX7_missedBy 14 = .ok (.iload_n 1, 1) := by decide +kernel
theorem dX7_missedBy_15 : decode cX7_missedBy 15 = .ok (.iload_n 2, 1) := by decide +kernel
theorem dX7_missedBy_16 : decode cX7_missedBy 16 = .ok (.iconst 1, 1) := by decide +kernel
theorem dX7_missedBy_17 : decode cX7_missedBy 17 = .ok (.isub, 1) := by decide +kernel
theorem dX7_missedBy_18 : decode cX7_missedBy 18 = .ok (.invokevirtual 131, 3) := by decide +kernel
theorem dX7_missedBy_21 : decode cX7_missedBy 21 = .ok (.aload_n 0, 1) := by decide +kernel
theorem dX7_missedBy_22 : decode cX7_missedBy 22 = .ok (.iload_n 1, 1) := by decide +kernel
theorem dX7_missedBy_23 : decode cX7_missedBy 23 = .ok (.iconst 0, 1) := by decide +kernel
theorem dX7_missedBy_24 : decode cX7_missedBy 24 = .ok (.invokevirtual 131, 3) := by decide +kernel
theorem dX7_missedBy_27 : decode cX7_missedBy 27 = .ok (.isub, 1) := by decide +kernel
theorem dX7_missedBy_28 : decode cX7_missedBy 28 = .ok (.iconst 1, 1) := by decide +kernel
theorem dX7_missedBy_29 : decode cX7_missedBy 29 = .ok (.iadd, 1) := by decide +kernel
theorem dX7_missedBy_30 : decode cX7_missedBy 30 = .ok (.iload_n 2, 1) := by decide +kernel
theorem dX7_missedBy_31 : decode cX7_missedBy 31 = .ok (.isub, 1) := by decide +kernel
theorem dX7_missedBy_32 : decode cX7_missedBy 32 = .ok (.ireturn, 1) := by decide +kernel
theorem dX7_ageOf_0 : decode cX7_ageOf 0 = .ok (.aload_n 0, 1) := by decide +kernel
theorem dX7_ageOf_1 : decode cX7_ageOf 1 = .ok (.iload_n 1, 1) := by decide +kernel
theorem dX7_ageOf_2 : decode cX7_ageOf 2 = .ok (.iconst 0, 1) := by decide +kernel
theorem dX7_ageOf_3 : decode cX7_ageOf 3 = .ok (.invokevirtual 131, 3) := by decide +kernel
theorem dX7_ageOf_6 : decode cX7_ageOf 6 = .ok (.ifCond .ne 5, 3) := by decide +kernel
theorem dX7_ageOf_9 : decode cX7_ageOf 9 = .ok (.iconst 0, 1) := by decide +kernel
theorem dX7_ageOf_10 : decode cX7_ageOf 10 = .ok (.ireturn, 1) := by decide +kernel
theorem dX7_ageOf_11 : decode cX7_ageOf 11 = .ok (.aload_n 0, 1) := by decide +kernel
theorem dX7_ageOf_12 : decode cX7_ageOf 12 = .ok (.getfield 19, 3) := by decide +kernel
theorem dX7_ageOf_15 : decode cX7_ageOf 15 = .ok (.getfield 79, 3) := by decide +kernel
theorem dX7_ageOf_18 : decode cX7_ageOf 18 = .ok (.iload_n 1, 1) := by decide +kernel
theorem dX7_ageOf_19 : decode cX7_ageOf 19 = .ok (.aaload, 1) := by decide +kernel
theorem dX7_ageOf_20 : decode cX7_ageOf 20 = .ok (.getfield 112, 3) := by decide +kernel
theorem dX7_ageOf_23 : decode cX7_ageOf 23 = .ok (.ifCond .eq 7, 3) := by decide +kernel
theorem dX7_ageOf_26 : decode cX7_ageOf 26 = .ok (.iconst 1, 1) := by decide +kernel
theorem dX7_ageOf_27 : decode cX7_ageOf 27 = .ok (.goto 4, 3) := by decide +kernel
theorem dX7_ageOf_30 : decode cX7_ageOf 30 = .ok (.iconst 2, 1) := by decide +kernel
theorem dX7_ageOf_31 : decode cX7_ageOf 31 = .ok (.ireturn, 1) := by decide +kernel
theorem dX7_movedFrom_0 : decode cX7_movedFrom 0 = .ok (.aload_n 0, 1) := by decide +kernel
theorem dX7_movedFrom_1 : decode cX7_movedFrom 1 = .ok (.getfield 19, 3) := by decide +kernel
theorem dX7_movedFrom_4 : decode cX7_movedFrom 4 = .ok (.getfield 79, 3) := by decide +kernel
theorem dX7_movedFrom_7 : decode cX7_movedFrom 7 = .ok (.iload_n 1, 1) := by decide +kernel
theorem dX7_movedFrom_8 : decode cX7_movedFrom 8 = .ok (.aaload, 1) := by decide +kernel
theorem dX7_movedFrom_9 : decode cX7_movedFrom 9 = .ok (.getfield 109, 3) := by decide +kernel
theorem dX7_movedFrom_12 : decode cX7_movedFrom 12 = .ok (.istore_n 2, 1) := by decide +kernel
theorem dX7_movedFrom_13 : decode cX7_movedFrom 13 = .ok (.bipush (-9), 2) := by decide +kernel
theorem dX7_movedFrom_15 : decode cX7_movedFrom 15 = .ok (.istore_n 3, 1) := by decide +kernel
theorem dX7_movedFrom_16 : decode cX7_movedFrom 16 = .ok (.iconst 0, 1) := by decide +kernel
theorem dX7_movedFrom_17 : decode cX7_movedFrom 17 = .ok (.istore 4, 2) := by decide +kernel
theorem dX7_movedFrom_19 : decode cX7_movedFrom 19 = .ok (.iconst 0, 1) := by decide +kernel
theorem dX7_movedFrom_20 : decode cX7_movedFrom 20 = .ok (.istore 5, 2) := by decide +kernel
theorem dX7_movedFrom_22 : decode cX7_movedFrom 22 = .ok (.iload 5, 2) := by decide +kernel
theorem dX7_movedFrom_24 : decode cX7_movedFrom 24 = .ok (.aload_n 0, 1) := by decide +kernel
theorem dX7_movedFrom_25 : decode cX7_movedFrom 25 = .ok (.getfield 19, 3) := by decide +kernel
theorem dX7_movedFrom_28 : decode cX7_movedFrom 28 = .ok (.getfield 73, 3) := by decide +kernel
theorem dX7_movedFrom_31 : decode cX7_movedFrom 31 = .ok (.if_icmp .ge 101, 3) := by decide +kernel
theorem dX7_movedFrom_34 : decode cX7_movedFrom 34 = .ok (.iload 5, 2) := by decide +kernel
theorem dX7_movedFrom_36 : decode cX7_movedFrom 36 = .ok (.iload_n 1, 1) := by decide +kernel
theorem dX7_movedFrom_37 : decode cX7_movedFrom 37 = .ok (.if_icmp .ne 6, 3) := by decide +kernel
theorem dX7_movedFrom_40 : decode cX7_movedFrom 40 = .ok (.goto 86, 3) := by decide +kernel
theorem dX7_movedFrom_43 : decode cX7_movedFrom 43 = .ok (.aload_n 0, 1) := by decide +kernel
theorem dX7_movedFrom_44 : decode cX7_movedFrom 44 = .ok (.iload_n 1, 1) := by decide +kernel
theorem dX7_movedFrom_45 : decode cX7_movedFrom 45 = .ok (.iload 5, 2) := by decide +kernel
theorem dX7_movedFrom_47 : decode cX7_movedFrom 47 = .ok (.invokevirtual 153, 3) := by decide +kernel
theorem dX7_movedFrom_50 : decode cX7_movedFrom 50 = .ok (.aload_n 0, 1) := by decide +kernel
theorem dX7_movedFrom_51 : decode cX7_movedFrom 51 = .ok (.getfield 37, 3) := by decide +kernel
theorem dX7_movedFrom_54 : decode cX7_movedFrom 54 = .ok (.invokevirtual 157, 3) := by decide +kernel
theorem dX7_movedFrom_57 : decode cX7_movedFrom 57 = .ok (.istore 6, 2) := by decide +kernel
theorem dX7_movedFrom_59 : decode cX7_movedFrom 59 = .ok (.iload 6, 2) := by decide +kernel
theorem dX7_movedFrom_61 : decode cX7_movedFrom 61 = .ok (.iload 4, 2) := by decide +kernel
theorem dX7_movedFrom_63 : decode cX7_movedFrom 63 = .ok (.if_icmp .ne 24, 3) := by decide +kernel
theorem dX7_movedFrom_66 : decode cX7_movedFrom 66 = .ok (.aload_n 0, 1) := by decide +kernel
theorem dX7_movedFrom_67 : decode cX7_movedFrom 67 = .ok (.getfield 19, 3) := by decide +kernel
theorem dX7_movedFrom_70 : decode cX7_movedFrom 70 = .ok (.getfield 79, 3) := by decide +kernel
theorem dX7_movedFrom_73 : decode cX7_movedFrom 73 = .ok (.iload 5, 2) := by decide +kernel
theorem dX7_movedFrom_75 : decode cX7_movedFrom 75 = .ok (.aaload, 1) := by decide +kernel
theorem dX7_movedFrom_76 : decode cX7_movedFrom 76 = .ok (.getfield 109, 3) := by decide +kernel
theorem dX7_movedFrom_79 : decode cX7_movedFrom 79 = .ok (.iload_n 2, 1) := by decide +kernel
theorem dX7_movedFrom_80 : decode cX7_movedFrom 80 = .ok (.if_icmp .ne 7, 3) := by decide +kernel
theorem dX7_movedFrom_83 : decode cX7_movedFrom 83 = .ok (.iconst 1, 1) := by decide +kernel
theorem dX7_movedFrom_84 : decode cX7_movedFrom 84 = .ok (.goto 4, 3) := by decide +kernel
theorem dX7_movedFrom_87 : decode cX7_movedFrom 87 = .ok (.iconst 0, 1) := by decide +kernel
theorem dX7_movedFrom_88 : decode cX7_movedFrom 88 = .ok (.istore 7, 2) := by decide +kernel
theorem dX7_movedFrom_90 : decode cX7_movedFrom 90 = .ok (.iload_n 3, 1) := by decide +kernel
theorem dX7_movedFrom_91 : decode cX7_movedFrom 91 = .ok (.bipush (-9), 2) := by decide +kernel
theorem dX7_movedFrom_93 : decode cX7_movedFrom 93 = .ok (.if_icmp .eq 15, 3) := by decide +kernel
theorem dX7_movedFrom_96 : decode cX7_movedFrom 96 = .ok (.iload 6, 2) := by decide +kernel
theorem dX7_movedFrom_98 : decode cX7_movedFrom 98 = .ok (.iload 4, 2) := by decide +kernel
theorem dX7_movedFrom_100 : decode cX7_movedFrom 100 = .ok (.if_icmp .lt 8, 3) := by decide +kernel
theorem dX7_movedFrom_103 : decode cX7_movedFrom 103 = .ok (.iload 7, 2) := by decide +kernel
theorem dX7_movedFrom_105 : decode cX7_movedFrom 105 = .ok (.ifCond .eq 21, 3) := by decide +kernel
theorem dX7_movedFrom_108 : decode cX7_movedFrom 108 = .ok (.aload_n 0, 1) := by decide +kernel
theorem dX7_movedFrom_109 : decode cX7_movedFrom 109 = .ok (.getfield 19, 3) := by decide +kernel
theorem dX7_movedFrom_112 : decode cX7_movedFrom 112 = .ok (.getfield 79, 3) := by decide +kernel
theorem dX7_movedFrom_115 : decode cX7_movedFrom 115 = .ok (.iload 5, 2) := by decide +kernel
theorem dX7_movedFrom_117 : decode cX7_movedFrom 117 = .ok (.aaload, 1) := by decide +kernel
theorem dX7_movedFrom_118 : decode cX7_movedFrom 118 = .ok (.getfield 109, 3) := by decide +kernel
theorem dX7_movedFrom_121 : decode cX7_movedFrom 121 = .ok (.istore_n 3, 1) := by decide +kernel
theorem dX7_movedFrom_122 : decode cX7_movedFrom 122 = .ok (.iload 6, 2) := by decide +kernel
theorem dX7_movedFrom_124 : decode cX7_movedFrom 124 = .ok (.istore 4, 2) := by decide +kernel
theorem dX7_movedFrom_126 : decode cX7_movedFrom 126 = .ok (.iinc 5 1, 3) := by decide +kernel
theorem dX7_movedFrom_129 : decode cX7_movedFrom 129 = .ok (.goto (-107), 3) := by decide +kernel
theorem dX7_movedFrom_132 : decode cX7_movedFrom 132 = .ok (.iload_n 3, 1) := by decide +kernel
theorem dX7_movedFrom_133 : decode cX7_movedFrom 133 = .ok (.ireturn, 1) := by decide +kernel
theorem dX7_lastCoats_0 : decode cX7_lastCoats 0 = .ok (.aload_n 0, 1) := by decide +kernel
theorem dX7_lastCoats_1 : decode cX7_lastCoats 1 = .ok (.getfield 51, 3) := by decide +kernel
theorem dX7_lastCoats_4 : decode cX7_lastCoats 4 = .ok (.getfield 197, 3) := by decide +kernel
theorem dX7_lastCoats_7 : decode cX7_lastCoats 7 = .ok (.aload_n 0, 1) := by decide +kernel
theorem dX7_lastCoats_8 : decode cX7_lastCoats 8 = .ok (.iload_n 1, 1) := by decide +kernel
theorem dX7_lastCoats_9 : decode cX7_lastCoats 9 = .ok (.iconst 0, 1) := by decide +kernel
theorem dX7_lastCoats_10 : decode cX7_lastCoats 10 = .ok (.invokevirtual 131, 3) := by decide +kernel
theorem dX7_lastCoats_13 : decode cX7_lastCoats 13 = .ok (.iaload, 1) := by decide +kernel
theorem dX7_lastCoats_14 : decode cX7_lastCoats 14 = .ok (.iload_n 2, 1) := by decide +kernel
theorem dX7_lastCoats_15 : decode cX7_lastCoats 15 = .ok (.if_icmp .le 9, 3) := by decide +kernel
theorem dX7_lastCoats_18 : decode cX7_lastCoats 18 = .ok (.sipush 1024, 3) := by decide +kernel
theorem dX7_lastCoats_21 : decode cX7_lastCoats 21 = .ok (.goto 4, 3) := by decide +kernel
theorem dX7_lastCoats_24 : decode cX7_lastCoats 24 = .ok (.iconst 0, 1) := by decide +kernel
theorem dX7_lastCoats_25 : decode cX7_lastCoats 25 = .ok (.istore_n 3, 1) := by decide +kernel
theorem dX7_lastCoats_26 : decode cX7_lastCoats 26 = .ok (.aload_n 0, 1) := by decide +kernel
theorem dX7_lastCoats_27 : decode cX7_lastCoats 27 = .ok (.getfield 19, 3) := by decide +kernel
theorem dX7_lastCoats_30 : decode cX7_lastCoats 30 = .ok (.getfield 79, 3) := by decide +kernel
theorem dX7_lastCoats_33 : decode cX7_lastCoats 33 = .ok (.iload_n 1, 1) := by decide +kernel
theorem dX7_lastCoats_34 : decode cX7_lastCoats 34 = .ok (.aaload, 1) := by decide +kernel
theorem dX7_lastCoats_35 : decode cX7_lastCoats 35 = .ok (.getfield 115, 3) := by decide +kernel
theorem dX7_lastCoats_38 : decode cX7_lastCoats 38 = .ok (.istore 4, 2) := by decide +kernel
theorem dX7_lastCoats_40 : decode cX7_lastCoats 40 = .ok (.iconst 0, 1) := by decide +kernel
theorem dX7_lastCoats_41 : decode cX7_lastCoats 41 = .ok (.istore 5, 2) := by decide +kernel
theorem dX7_lastCoats_43 : decode cX7_lastCoats 43 = .ok (.iload 5, 2) := by decide +kernel
theorem dX7_lastCoats_45 : decode cX7_lastCoats 45 = .ok (.iload 4, 2) := by decide +kernel
theorem dX7_lastCoats_47 : decode cX7_lastCoats 47 = .ok (.if_icmp .ge 77, 3) := by decide +kernel
theorem dX7_lastCoats_50 : decode cX7_lastCoats 50 = .ok (.aload_n 0, 1) := by decide +kernel
theorem dX7_lastCoats_51 : decode cX7_lastCoats 51 = .ok (.getfield 51, 3) := by decide +kernel
theorem dX7_lastCoats_54 : decode cX7_lastCoats 54 = .ok (.getfield 194, 3) := by decide +kernel
theorem dX7_lastCoats_57 : decode cX7_lastCoats 57 = .ok (.aload_n 0, 1) := by decide +kernel
theorem dX7_lastCoats_58 : decode cX7_lastCoats 58 = .ok (.iload_n 1, 1) := by decide +kernel
theorem dX7_lastCoats_59 : decode cX7_lastCoats 59 = .ok (.iload 5, 2) := by decide +kernel
theorem dX7_lastCoats_61 : decode cX7_lastCoats 61 = .ok (.invokevirtual 131, 3) := by decide +kernel
theorem dX7_lastCoats_64 : decode cX7_lastCoats 64 = .ok (.iaload, 1) := by decide +kernel
theorem dX7_lastCoats_65 : decode cX7_lastCoats 65 = .ok (.iload_n 2, 1) := by decide +kernel
theorem dX7_lastCoats_66 : decode cX7_lastCoats 66 = .ok (.if_icmp .gt 7, 3) := by decide +kernel
theorem dX7_lastCoats_69 : decode cX7_lastCoats 69 = .ok (.iconst 1, 1) := by decide +kernel
theorem dX7_lastCoats_70 : decode cX7_lastCoats 70 = .ok (.goto 4, 3) := by decide +kernel
theorem dX7_lastCoats_73 : decode cX7_lastCoats 73 = .ok (.iconst 0, 1) := by decide +kernel
theorem dX7_lastCoats_74 : decode cX7_lastCoats 74 = .ok (.istore 6, 2) := by decide +kernel
theorem dX7_lastCoats_76 : decode cX7_lastCoats 76 = .ok (.iload 6, 2) := by decide +kernel
theorem dX7_lastCoats_78 : decode cX7_lastCoats 78 = .ok (.ifCond .eq 40, 3) := by decide +kernel
theorem dX7_lastCoats_81 : decode cX7_lastCoats 81 = .ok (.iload 5, 2) := by decide +kernel
theorem dX7_lastCoats_83 : decode cX7_lastCoats 83 = .ok (.iload 4, 2) := by decide +kernel
theorem dX7_lastCoats_85 : decode cX7_lastCoats 85 = .ok (.iconst 1, 1) := by decide +kernel
theorem dX7_lastCoats_86 : decode cX7_lastCoats 86 = .ok (.isub, 1) := by decide +kernel
theorem dX7_lastCoats_87 : decode cX7_lastCoats 87 = .ok (.if_icmp .eq 24, 3) := by decide +kernel
theorem dX7_lastCoats_90 : decode cX7_lastCoats 90 = .ok (.aload_n 0, 1) := by decide +kernel
theorem dX7_lastCoats_91 : decode cX7_lastCoats 91 = .ok (.getfield 51, 3) := by decide +kernel
theorem dX7_lastCoats_94 : decode cX7_lastCoats 94 = .ok (.getfield 197, 3) := by decide +kernel
theorem dX7_lastCoats_97 : decode cX7_lastCoats 97 = .ok (.aload_n 0, 1) := by decide +kernel
theorem dX7_lastCoats_98 : decode cX7_lastCoats 98 = .ok (.iload_n 1, 1) := by decide +kernel
theorem dX7_lastCoats_99 : decode cX7_lastCoats 99 = .ok (.iload 5, 2) := by decide +kernel
theorem dX7_lastCoats_101 : decode cX7_lastCoats 101 = .ok (.iconst 1, 1) := by decide +kernel
theorem dX7_lastCoats_102 : decode cX7_lastCoats 102 = .ok (.iadd, 1) := by decide +kernel
theorem dX7_lastCoats_103 : decode cX7_lastCoats 103 = .ok (.invokevirtual 131, 3) := by decide +kernel
theorem dX7_lastCoats_106 : decode cX7_lastCoats 106 = .ok (.iaload, 1) := by decide +kernel
theorem dX7_lastCoats_107 : decode cX7_lastCoats 107 = .ok (.iload_n 2, 1) := by decide +kernel
theorem dX7_lastCoats_108 : decode cX7_lastCoats 108 = .ok (.if_icmp .le 10, 3) := by decide +kernel
theorem dX7_lastCoats_111 : decode cX7_lastCoats 111 = .ok (.iload_n 3, 1) := by decide +kernel
theorem dX7_lastCoats_112 : decode cX7_lastCoats 112 = .ok (.iconst 1, 1) := by decide +kernel
theorem dX7_lastCoats_113 : decode cX7_lastCoats 113 = .ok (.iload 5, 2) := by decide +kernel
theorem dX7_lastCoats_115 : decode cX7_lastCoats 115 = .ok (.ishl, 1) := by decide +kernel
theorem dX7_lastCoats_116 : decode cX7_lastCoats 116 = .ok (.ior, 1) := by decide +kernel
theorem dX7_lastCoats_117 : decode cX7_lastCoats 117 = .ok (.istore_n 3, 1) := by decide +kernel
theorem dX7_lastCoats_118 : decode cX7_lastCoats 118 = .ok (.iinc 5 1, 3) := by decide +kernel
theorem dX7_lastCoats_121 : decode cX7_lastCoats 121 = .ok (.goto (-78), 3) := by decide +kernel
theorem dX7_lastCoats_124 : decode cX7_lastCoats 124 = .ok (.iload_n 3, 1) := by decide +kernel
theorem dX7_lastCoats_125 : decode cX7_lastCoats 125 = .ok (.ireturn, 1) := by decide +kernel
theorem dX7_oddsOfAll_0 : decode cX7_oddsOfAll 0 = .ok (.ldc2_w 224, 3) := by decide +kernel
theorem dX7_oddsOfAll_3 : decode cX7_oddsOfAll 3 = .ok (.lstore_n 3, 1) := by decide +kernel
theorem dX7_oddsOfAll_4 : decode cX7_oddsOfAll 4 = .ok (.iconst 0, 1) := by decide +kernel
theorem dX7_oddsOfAll_5 : decode cX7_oddsOfAll 5 = .ok (.istore 5, 2) := by decide +kernel
theorem dX7_oddsOfAll_7 : decode cX7_oddsOfAll 7 = .ok (.iload 5, 2) := by decide +kernel
theorem dX7_oddsOfAll_9 : decode cX7_oddsOfAll 9 = .ok (.iload_n 0, 1) := by decide +kernel
theorem dX7_oddsOfAll_10 : decode cX7_oddsOfAll 10 = .ok (.if_icmp .ge 17, 3) := by decide +kernel
theorem dX7_oddsOfAll_13 : decode cX7_oddsOfAll 13 = .ok (.lload_n 3, 1) := by decide +kernel
theorem dX7_oddsOfAll_14 : decode cX7_oddsOfAll 14 = .ok (.lload_n 1, 1) := by decide +kernel
theorem dX7_oddsOfAll_15 : decode cX7_oddsOfAll 15 = .ok (.lmul, 1) := by decide +kernel
theorem dX7_oddsOfAll_16 : decode cX7_oddsOfAll 16 = .ok (.ldc2_w 224, 3) := by decide +kernel
theorem dX7_oddsOfAll_19 : decode cX7_oddsOfAll 19 = .ok (.ldiv, 1) := by decide +kernel
theorem dX7_oddsOfAll_20 : decode cX7_oddsOfAll 20 = .ok (.lstore_n 3, 1) := by decide +kernel
theorem dX7_oddsOfAll_21 : decode cX7_oddsOfAll 21 = .ok (.iinc 5 1, 3) := by decide +kernel
theorem dX7_oddsOfAll_24 : decode cX7_oddsOfAll 24 = .ok (.goto (-17), 3) := by decide +kernel
theorem dX7_oddsOfAll_27 : decode cX7_oddsOfAll 27 = .ok (.lload_n 3, 1) := by decide +kernel
theorem dX7_oddsOfAll_28 : decode cX7_oddsOfAll 28 = .ok (.lreturn, 1) := by decide +kernel
theorem dX7_asCoat_0 : decode cX7_asCoat 0 = .ok (.aload_n 0, 1) := by decide +kernel
theorem dX7_asCoat_1 : decode cX7_asCoat 1 = .ok (.dup, 1) := by decide +kernel
theorem dX7_asCoat_2 : decode cX7_asCoat 2 = .ok (.getfield 267, 3) := by decide +kernel
theorem dX7_asCoat_5 : decode cX7_asCoat 5 = .ok (.lconst 1, 1) := by decide +kernel
theorem dX7_asCoat_6 : decode cX7_asCoat 6 = .ok (.ladd, 1) := by decide +kernel
theorem dX7_asCoat_7 : decode cX7_asCoat 7 = .ok (.putfield 267, 3) := by decide +kernel
theorem dX7_asCoat_10 : decode cX7_asCoat 10 = .ok (.aload_n 0, 1) := by decide +kernel
theorem dX7_asCoat_11 : decode cX7_asCoat 11 = .ok (.getfield 19, 3) := by decide +kernel
theorem dX7_asCoat_14 : decode cX7_asCoat 14 = .ok (.getfield 79, 3) := by decide +kernel
theorem dX7_asCoat_17 : decode cX7_asCoat 17 = .ok (.iload_n 1, 1) := by decide +kernel
theorem dX7_asCoat_18 : decode cX7_asCoat 18 = .ok (.aaload, 1) := by decide +kernel
theorem dX7_asCoat_19 : decode cX7_asCoat 19 = .ok (.getfield 122, 3) := by decide +kernel
theorem dX7_asCoat_22 : decode cX7_asCoat 22 = .ok (.iload_n 2, 1) := by decide +kernel
theorem dX7_asCoat_23 : decode cX7_asCoat 23 = .ok (.iaload, 1) := by decide +kernel
theorem dX7_asCoat_24 : decode cX7_asCoat 24 = .ok (.iconst 1, 1) := by decide +kernel
theorem dX7_asCoat_25 : decode cX7_asCoat 25 = .ok (.iadd, 1) := by decide +kernel
theorem dX7_asCoat_26 : decode cX7_asCoat 26 = .ok (.ireturn, 1) := by decide +kernel
theorem dX7_asWhole_0 : decode cX7_asWhole 0 = .ok (.aload_n 0, 1) := by decide +kernel
theorem dX7_asWhole_1 : decode cX7_asWhole 1 = .ok (.dup, 1) := by decide +kernel
theorem dX7_asWhole_2 : decode cX7_asWhole 2 = .ok (.getfield 267, 3) := by decide +kernel
theorem dX7_asWhole_5 : decode cX7_asWhole 5 = .ok (.ldc2_w 222, 3) := by decide +kernel
theorem dX7_asWhole_8 : decode cX7_asWhole 8 = .ok (.ladd, 1) := by decide +kernel
theorem dX7_asWhole_9 : decode cX7_asWhole 9 = .ok (.putfield 267, 3) := by decide +kernel
theorem dX7_asWhole_12 : decode cX7_asWhole 12 = .ok (.aload_n 0, 1) := by decide +kernel
theorem dX7_asWhole_13 : decode cX7_asWhole 13 = .ok (.iload_n 1, 1) := by decide +kernel
theorem dX7_asWhole_14 : decode cX7_asWhole 14 = .ok (.iload_n 2, 1) := by decide +kernel
theorem dX7_asWhole_15 : decode cX7_asWhole 15 = .ok (.invokevirtual 239, 3) := by decide +kernel
theorem dX7_asWhole_18 : decode cX7_asWhole 18 = .ok (.aload_n 0, 1) := by decide +kernel
theorem dX7_asWhole_19 : decode cX7_asWhole 19 = .ok (.getfield 44, 3) := by decide +kernel
theorem dX7_asWhole_22 : decode cX7_asWhole 22 = .ok (.getfield 175, 3) := by decide +kernel
theorem dX7_asWhole_25 : decode cX7_asWhole 25 = .ok (.aload_n 0, 1) := by decide +kernel
theorem dX7_asWhole_26 : decode cX7_asWhole 26 = .ok (.iload_n 1, 1) := by decide +kernel
theorem dX7_asWhole_27 : decode cX7_asWhole 27 = .ok (.iload_n 2, 1) := by decide +kernel
theorem dX7_asWhole_28 : decode cX7_asWhole 28 = .ok (.invokevirtual 131, 3) := by decide +kernel
theorem dX7_asWhole_31 : decode cX7_asWhole 31 = .ok (.iaload, 1) := by decide +kernel
theorem dX7_asWhole_32 : decode cX7_asWhole 32 = .ok (.invokestatic 283, 3) := by decide +kernel
theorem dX7_asWhole_35 : decode cX7_asWhole 35 = .ok (.imul, 1) := by decide +kernel
theorem dX7_asWhole_36 : decode cX7_asWhole 36 = .ok (.ireturn, 1) := by decide +kernel
theorem dX7_asUnder_0 : decode cX7_asUnder 0 = .ok (.aload_n 0, 1) := by decide +kernel
theorem dX7_asUnder_1 : decode cX7_asUnder 1 = .ok (.dup, 1) := by decide +kernel
theorem dX7_asUnder_2 : decode cX7_asUnder 2 = .ok (.getfield 267, 3) := by decide +kernel
theorem dX7_asUnder_5 : decode cX7_asUnder 5 = .ok (.ldc2_w 288, 3) := by decide +kernel
theorem dX7_asUnder_8 : decode cX7_asUnder 8 = .ok (.ladd, 1) := by decide +kernel
theorem dX7_asUnder_9 : decode cX7_asUnder 9 = .ok (.putfield 267, 3) := by decide +kernel
theorem dX7_asUnder_12 : decode cX7_asUnder 12 = .ok (.aload_n 0, 1) := by decide +kernel
theorem dX7_asUnder_13 : decode cX7_asUnder 13 = .ok (.iload_n 1, 1) := by decide +kernel
theorem dX7_asUnder_14 : decode cX7_asUnder 14 = .ok (.iload_n 2, 1) := by decide +kernel
theorem dX7_asUnder_15 : decode cX7_asUnder 15 = .ok (.invokevirtual 239, 3) := by decide +kernel
theorem dX7_asUnder_18 : decode cX7_asUnder 18 = .ok (.aload_n 0, 1) := by decide +kernel
theorem dX7_asUnder_19 : decode cX7_asUnder 19 = .ok (.getfield 19, 3) := by decide +kernel
theorem dX7_asUnder_22 : decode cX7_asUnder 22 = .ok (.getfield 79, 3) := by decide +kernel
theorem dX7_asUnder_25 : decode cX7_asUnder 25 = .ok (.iload_n 1, 1) := by decide +kernel
theorem dX7_asUnder_26 : decode cX7_asUnder 26 = .ok (.aaload, 1) := by decide +kernel
theorem dX7_asUnder_27 : decode cX7_asUnder 27 = .ok (.getfield 125, 3) := by decide +kernel
theorem dX7_asUnder_30 : decode cX7_asUnder 30 = .ok (.iload_n 2, 1) := by decide +kernel
theorem dX7_asUnder_31 : decode cX7_asUnder 31 = .ok (.iaload, 1) := by decide +kernel
theorem dX7_asUnder_32 : decode cX7_asUnder 32 = .ok (.iadd, 1) := by decide +kernel
theorem dX7_asUnder_33 : decode cX7_asUnder 33 = .ok (.ireturn, 1) := by decide +kernel
theorem dX7_asPatch_0 : decode cX7_asPatch 0 = .ok (.aload_n 0, 1) := by decide +kernel
theorem dX7_asPatch_1 : decode cX7_asPatch 1 = .ok (.dup, 1) := by decide +kernel
theorem dX7_asPatch_2 : decode cX7_asPatch 2 = .ok (.getfield 267, 3) := by decide +kernel
theorem dX7_asPatch_5 : decode cX7_asPatch 5 = .ok (.ldc2_w 290, 3) := by decide +kernel
theorem dX7_asPatch_8 : decode cX7_asPatch 8 = .ok (.ladd, 1) := by decide +kernel
theorem dX7_asPatch_9 : decode cX7_asPatch 9 = .ok (.putfield 267, 3) := by decide +kernel
theorem dX7_asPatch_12 : decode cX7_asPatch 12 = .ok (.aload_n 0, 1) := by decide +kernel
theorem dX7_asPatch_13 : decode cX7_asPatch 13 = .ok (.iload_n 1, 1) := by decide +kernel
theorem dX7_asPatch_14 : decode cX7_asPatch 14 = .ok (.iload_n 2, 1) := by decide +kernel
theorem dX7_asPatch_15 : decode cX7_asPatch 15 = .ok (.invokevirtual 242, 3) := by decide +kernel
theorem dX7_asPatch_18 : decode cX7_asPatch 18 = .ok (.iload_n 2, 1) := by decide +kernel
theorem dX7_asPatch_19 : decode cX7_asPatch 19 = .ok (.isub, 1) := by decide +kernel
theorem dX7_asPatch_20 : decode cX7_asPatch 20 = .ok (.ireturn, 1) := by decide +kernel
theorem dX7_asScraped_0 : decode cX7_asScraped 0 = .ok (.aload_n 0, 1) := by decide +kernel
theorem dX7_asScraped_1 : decode cX7_asScraped 1 = .ok (.dup, 1) := by decide +kernel
theorem dX7_asScraped_2 : decode cX7_asScraped 2 = .ok (.getfield 267, 3) := by decide +kernel
theorem dX7_asScraped_5 : decode cX7_asScraped 5 = .ok (.ldc2_w 230, 3) := by decide +kernel
theorem dX7_asScraped_8 : decode cX7_asScraped 8 = .ok (.ladd, 1) := by decide +kernel
theorem dX7_asScraped_9 : decode cX7_asScraped 9 = .ok (.putfield 267, 3) := by decide +kernel
theorem dX7_asScraped_12 : decode cX7_asScraped 12 = .ok (.iconst 2, 1) := by decide +kernel
theorem dX7_asScraped_13 : decode cX7_asScraped 13 = .ok (.aload_n 0, 1) := by decide +kernel
theorem dX7_asScraped_14 : decode cX7_asScraped 14 = .ok (.iload_n 1, 1) := by decide +kernel
theorem dX7_asScraped_15 : decode cX7_asScraped 15 = .ok (.iload_n 2, 1) := by decide +kernel
theorem dX7_asScraped_16 : decode cX7_asScraped 16 = .ok (.invokevirtual 245, 3) := by decide +kernel
theorem dX7_asScraped_19 : decode cX7_asScraped 19 = .ok (.imul, 1) := by decide +kernel
theorem dX7_asScraped_20 : decode cX7_asScraped 20 = .ok (.ireturn, 1) := by decide +kernel
theorem dX7_asVarnish_0 : decode cX7_asVarnish 0 = .ok (.aload_n 0, 1) := by decide +kernel
theorem dX7_asVarnish_1 : decode cX7_asVarnish 1 = .ok (.dup, 1) := by decide +kernel
theorem dX7_asVarnish_2 : decode cX7_asVarnish 2 = .ok (.getfield 267, 3) := by decide +kernel
theorem dX7_asVarnish_5 : decode cX7_asVarnish 5 = .ok (.ldc2_w 292, 3) := by decide +kernel
theorem dX7_asVarnish_8 : decode cX7_asVarnish 8 = .ok (.ladd, 1) := by decide +kernel
theorem dX7_asVarnish_9 : decode cX7_asVarnish 9 = .ok (.putfield 267, 3) := by decide +kernel
theorem dX7_asVarnish_12 : decode cX7_asVarnish 12 = .ok (.aload_n 0, 1) := by decide +kernel
theorem dX7_asVarnish_13 : decode cX7_asVarnish 13 = .ok (.iload_n 1, 1) := by decide +kernel
theorem dX7_asVarnish_14 : decode cX7_asVarnish 14 = .ok (.iload_n 2, 1) := by decide +kernel
theorem dX7_asVarnish_15 : decode cX7_asVarnish 15 = .ok (.invokevirtual 239, 3) := by decide +kernel
theorem dX7_asVarnish_18 : decode cX7_asVarnish 18 = .ok (.aload_n 0, 1) := by decide +kernel
theorem dX7_asVarnish_19 : decode cX7_asVarnish 19 = .ok (.getfield 19, 3) := by decide +kernel
theorem dX7_asVarnish_22 : decode cX7_asVarnish 22 = .ok (.getfield 79, 3) := by decide +kernel
theorem dX7_asVarnish_25 : decode cX7_asVarnish 25 = .ok (.iload_n 1, 1) := by decide +kernel
theorem dX7_asVarnish_26 : decode cX7_asVarnish 26 = .ok (.aaload, 1) := by decide +kernel
theorem dX7_asVarnish_27 : decode cX7_asVarnish 27 = .ok (.getfield 112, 3) := by decide +kernel
theorem dX7_asVarnish_30 : decode cX7_asVarnish 30 = .ok (.ifCond .eq 8, 3) := by decide +kernel
theorem dX7_asVarnish_33 : decode cX7_asVarnish 33 = .ok (.bipush 20, 2) := by decide +kernel
theorem dX7_asVarnish_35 : decode cX7_asVarnish 35 = .ok (.goto 4, 3) := by decide +kernel
theorem dX7_asVarnish_38 : decode cX7_asVarnish 38 = .ok (.iconst 0, 1) := by decide +kernel
theorem dX7_asVarnish_39 : decode cX7_asVarnish 39 = .ok (.iadd, 1) := by decide +kernel
theorem dX7_asVarnish_40 : decode cX7_asVarnish 40 = .ok (.ireturn, 1) := by decide +kernel
theorem dX8_init_0 : decode cX8_init 0 = .ok (.aload_n 0, 1) := by decide +kernel
theorem dX8_init_1 : decode cX8_init 1 = .ok (.invokespecial 1, 3) := by decide +kernel
theorem dX8_init_4 : decode cX8_init 4 = .ok (.aload_n 0, 1) := by decide +kernel
theorem dX8_init_5 : decode cX8_init 5 = .ok (.sipush 400, 3) := by decide +kernel
theorem dX8_init_8 : decode cX8_init 8 = .ok (.newarray .int, 2) := by decide +kernel
theorem dX8_init_10 : decode cX8_init 10 = .ok (.putfield 7, 3) := by decide +kernel
theorem dX8_init_13 : decode cX8_init 13 = .ok (.aload_n 0, 1) := by decide +kernel
theorem dX8_init_14 : decode cX8_init 14 = .ok (.iconst 4, 1) := by decide +kernel
theorem dX8_init_15 : decode cX8_init 15 = .ok (.newarray .int, 2) := by decide +kernel
theorem dX8_init_17 : decode cX8_init 17 = .ok (.putfield 13, 3) := by decide +kernel
theorem dX8_init_20 : decode cX8_init 20 = .ok (.aload_n 0, 1) := by decide +kernel
theorem dX8_init_21 : decode cX8_init 21 = .ok (.iconst 4, 1) := by decide +kernel
theorem dX8_init_22 : decode cX8_init 22 = .ok (.newarray .int, 2) := by decide +kernel
theorem dX8_init_24 : decode cX8_init 24 = .ok (.putfield 16, 3) := by decide +kernel
theorem dX8_init_27 : decode cX8_init 27 = .ok (.aload_n 0, 1) := by decide +kernel
theorem dX8_init_28 : decode cX8_init 28 = .ok (.iconst 4, 1) := by decide +kernel
theorem dX8_init_29 : decode cX8_init 29 = .ok (.newarray .int, 2) := by decide +kernel
theorem dX8_init_31 : decode cX8_init 31 = .ok (.putfield 19, 3) := by decide +kernel
theorem dX8_init_34 : decode cX8_init 34 = .ok (.aload_n 0, 1) := by decide +kernel
theorem dX8_init_35 : decode cX8_init 35 = .ok (.bipush 40, 2) := by decide +kernel
theorem dX8_init_37 : decode cX8_init 37 = .ok (.newarray .int, 2) := by decide +kernel
theorem dX8_init_39 : decode cX8_init 39 = .ok (.putfield 22, 3) := by decide +kernel
theorem dX8_init_42 : decode cX8_init 42 = .ok (.aload_n 0, 1) := by decide +kernel
theorem dX8_init_43 : decode cX8_init 43 = .ok (.bipush 40, 2) := by decide +kernel
theorem dX8_init_45 : decode cX8_init 45 = .ok (.newarray .int, 2) := by decide +kernel
theorem dX8_init_47 : decode cX8_init 47 = .ok (.putfield 25, 3) := by decide +kernel
theorem dX8_init_50 : decode cX8_init 50 = .ok (.aload_n 0, 1) := by decide +kernel
theorem dX8_init_51 : decode cX8_init 51 = .ok (.bipush 10, 2) := by decide +kernel
theorem dX8_init_53 : decode cX8_init 53 = .ok (.newarray .int, 2) := by decide +kernel
theorem dX8_init_55 : decode cX8_init 55 = .ok (.putfield 28, 3) := by decide +kernel
theorem dX8_init_58 : decode cX8_init 58 = .ok (.aload_n 0, 1) := by decide +kernel
theorem dX8_init_59 : decode cX8_init 59 = .ok (.bipush 10, 2) := by decide +kernel
theorem dX8_init_61 : decode cX8_init 61 = .ok (.newarray .int, 2) := by decide +kernel
theorem dX8_init_63 : decode cX8_init 63 = .ok (.putfield 31, 3) := by decide +kernel
theorem dX8_init_66 : decode cX8_init 66 = .ok (.aload_n 0, 1) := by decide +kernel
theorem dX8_init_67 : decode cX8_init 67 = .ok (.bipush 12, 2) := by decide +kernel
theorem dX8_init_69 : decode cX8_init 69 = .ok (.newarray .int, 2) := by decide +kernel
theorem dX8_init_71 : decode cX8_init 71 = .ok (.putfield 34, 3) := by decide +kernel
theorem dX8_init_74 : decode cX8_init 74 = .ok (.aload_n 0, 1) := by decide +kernel
theorem dX8_init_75 : decode cX8_init 75 = .ok (.bipush 12, 2) := by decide +kernel
theorem dX8_init_77 : decode cX8_init 77 = .ok (.newarray .int, 2) := by decide +kernel
theorem dX8_init_79 : decode cX8_init 79 = .ok (.putfield 37, 3) := by decide +kernel
theorem dX8_init_82 : decode cX8_init 82 = .ok (.aload_n 0, 1) := by decide +kernel
theorem dX8_init_83 : decode cX8_init 83 = .ok (.bipush 12, 2) := by decide +kernel
theorem dX8_init_85 : decode cX8_init 85 = .ok (.newarray .int, 2) := by decide +kernel
theorem dX8_init_87 : decode cX8_init 87 = .ok (.putfield 40, 3) := by decide +kernel
theorem dX8_init_90 : decode cX8_init 90 = .ok (.aload_n 0, 1) := by decide +kernel
theorem dX8_init_91 : decode cX8_init 91 = .ok (.bipush 8, 2) := by decide +kernel
theorem dX8_init_93 : decode cX8_init 93 = .ok (.newarray .int, 2) := by decide +kernel
theorem dX8_init_95 : decode cX8_init 95 = .ok (.putfield 43, 3) := by decide +kernel
theorem dX8_init_98 : decode cX8_init 98 = .ok (.aload_n 0, 1) := by decide +kernel
theorem dX8_init_99 : decode cX8_init 99 = .ok (.bipush 8, 2) := by decide +kernel
theorem dX8_init_101 : decode cX8_init 101 = .ok (.newarray .int, 2) := by decide +kernel
theorem dX8_init_103 : decode cX8_init 103 = .ok (.putfield 46, 3) := by decide +kernel
theorem dX8_init_106 : decode cX8_init 106 = .ok (.aload_n 0, 1) := by decide +kernel
theorem dX8_init_107 : decode cX8_init 107 = .ok (.bipush 12, 2) := by decide +kernel
theorem dX8_init_109 : decode cX8_init 109 = .ok (.newarray .int, 2) := by decide +kernel
theorem dX8_init_111 : decode cX8_init 111 = .ok (.putfield 49, 3) := by decide +kernel
theorem dX8_init_114 : decode cX8_init 114 = .ok (.aload_n 0, 1) := by decide +kernel
theorem dX8_init_115 : decode cX8_init 115 = .ok (.bipush 12, 2) := by decide +kernel
theorem dX8_init_117 : decode cX8_init 117 = .ok (.newarray .int, 2) := by decide +kernel
theorem dX8_init_119 : decode cX8_init 119 = .ok (.putfield 52, 3) := by decide +kernel
theorem dX8_init_122 : decode cX8_init 122 = .ok (.aload_n 0, 1) := by decide +kernel
theorem dX8_init_123 : decode cX8_init 123 = .ok (.bipush 12, 2) := by decide +kernel
theorem dX8_init_125 : decode cX8_init 125 = .ok (.newarray .int, 2) := by decide +kernel
theorem dX8_init_127 : decode cX8_init 127 = .ok (.putfield 55, 3) := by decide +kernel
theorem dX8_init_130 : decode cX8_init 130 = .ok (.aload_n 0, 1) := by decide +kernel
theorem dX8_init_131 : decode cX8_init 131 = .ok (.bipush 8, 2) := by decide +kernel
theorem dX8_init_133 : decode cX8_init 133 = .ok (.newarray .int, 2) := by decide +kernel
theorem dX8_init_135 : decode cX8_init 135 = .ok (.putfield 58, 3) := by decide +kernel
theorem dX8_init_138 : decode cX8_init 138 = .ok (.aload_n 0, 1) := by decide +kernel
theorem dX8_init_139 : decode cX8_init 139 = .ok (.bipush 8, 2) := by decide +kernel
theorem dX8_init_141 : decode cX8_init 141 = .ok (.newarray .int, 2) := by decide +kernel
theorem dX8_init_143 : decode cX8_init 143 = .ok (.putfield 61, 3) := by decide +kernel
theorem dX8_init_146 : decode cX8_init 146 = .ok (.aload_n 0, 1) := by decide +kernel
theorem dX8_init_147 : decode cX8_init 147 = .ok (.iconst 5, 1) := by decide +kernel
theorem dX8_init_148 : decode cX8_init 148 = .ok (.newarray .int, 2) := by decide +kernel
theorem dX8_init_150 : decode cX8_init 150 = .ok (.putfield 64, 3) := by decide +kernel
theorem dX8_init_153 : decode cX8_init 153 = .ok (.aload_n 0, 1) := by decide +kernel
theorem dX8_init_154 : decode cX8_init 154 = .ok (.iconst 2, 1) := by decide +kernel
theorem dX8_init_155 : decode cX8_init 155 = .ok (.newarray .int, 2) := by decide +kernel
theorem dX8_init_157 : decode cX8_init 157 = .ok (.putfield 67, 3) := by decide +kernel
theorem dX8_init_160 : decode cX8_init 160 = .ok (.aload_n 0, 1) := by decide +kernel
theorem dX8_init_161 : decode cX8_init 161 = .ok (.bipush 8, 2) := by decide +kernel
theorem dX8_init_163 : decode cX8_init 163 = .ok (.newarray .int, 2) := by decide +kernel
theorem dX8_init_165 : decode cX8_init 165 = .ok (.putfield 70, 3) := by decide +kernel
theorem dX8_init_168 : decode cX8_init 168 = .ok (.aload_n 0, 1) := by decide +kernel
theorem dX8_init_169 : decode cX8_init 169 = .ok (.bipush 8, 2) := by decide +kernel
theorem dX8_init_171 : decode cX8_init 171 = .ok (.newarray .int, 2) := by decide +kernel
theorem dX8_init_173 : decode cX8_init 173 = .ok (.putfield 73, 3) := by decide +kernel
theorem dX8_init_176 : decode cX8_init 176 = .ok (.aload_n 0, 1) := by decide +kernel
theorem dX8_init_177 : decode cX8_init 177 = .ok (.bipush 8, 2) := by decide +kernel
theorem dX8_init_179 : decode cX8_init 179 = .ok (.newarray .int, 2) := by decide +kernel
theorem dX8_init_181 : decode cX8_init 181 = .ok (.putfield 76, 3) := by decide +kernel
theorem dX8_init_184 : decode cX8_init 184 = .ok (.aload_n 0, 1) := by decide +kernel
theorem dX8_init_185 : decode cX8_init 185 = .ok (.bipush 80, 2) := by decide +kernel
theorem dX8_init_187 : decode cX8_init 187 = .ok (.newarray .int, 2) := by decide +kernel
theorem dX8_init_189 : decode cX8_init 189 = .ok (.putfield 79, 3) := by decide +kernel
theorem dX8_init_192 : decode cX8_init 192 = .ok (.aload_n 0, 1) := by decide +kernel
theorem dX8_init_193 : decode cX8_init 193 = .ok (.bipush 80, 2) := by decide +kernel
theorem dX8_init_195 : decode cX8_init 195 = .ok (.newarray .int, 2) := by decide +kernel
theorem dX8_init_197 : decode cX8_init 197 = .ok (.putfield 82, 3) := by decide +kernel
theorem dX8_init_200 : decode cX8_init 200 = .ok (.aload_n 0, 1) := by decide +kernel
theorem dX8_init_201 : decode cX8_init 201 = .ok (.bipush 121, 2) := by decide +kernel
theorem dX8_init_203 : decode cX8_init 203 = .ok (.newarray .int, 2) := by decide +kernel
theorem dX8_init_205 : decode cX8_init 205 = .ok (.putfield 85, 3) := by decide +kernel
theorem dX8_init_208 : decode cX8_init 208 = .ok (.aload_n 0, 1) := by decide +kernel
theorem dX8_init_209 : decode cX8_init 209 = .ok (.bipush 121, 2) := by decide +kernel
theorem dX8_init_211 : decode cX8_init 211 = .ok (.newarray .long, 2) := by decide +kernel
theorem dX8_init_213 : decode cX8_init 213 = .ok (.putfield 88, 3) := by decide +kernel
theorem dX8_init_216 : decode cX8_init 216 = .ok (.aload_n 0, 1) := by decide +kernel
theorem dX8_init_217 : decode cX8_init 217 = .ok (.sipush 14641, 3) := by decide +kernel
theorem dX8_init_220 : decode cX8_init 220 = .ok (.newarray .int, 2) := by decide +kernel
theorem dX8_init_222 : decode cX8_init 222 = .ok (.putfield 92, 3) := by decide +kernel
theorem dX8_init_225 : decode cX8_init 225 = .ok (.aload_n 0, 1) := by decide +kernel
theorem dX8_init_226 : decode cX8_init 226 = .ok (.iconst 4, 1) := by decide +kernel
theorem dX8_init_227 : decode cX8_init 227 = .ok (.newarray .int, 2) := by decide +kernel
theorem dX8_init_229 : decode cX8_init 229 = .ok (.putfield 95, 3) := by decide +kernel
theorem dX8_init_232 : decode cX8_init 232 = .ok (.aload_n 0, 1) := by decide +kernel
theorem dX8_init_233 : decode cX8_init 233 = .ok (.iconst 4, 1) := by decide +kernel
theorem dX8_init_234 : decode cX8_init 234 = .ok (.newarray .int, 2) := by decide +kernel
theorem dX8_init_236 : decode cX8_init 236 = .ok (.putfield 98, 3) := by decide +kernel
theorem dX8_init_239 : decode cX8_init 239 = .ok (.aload_n 0, 1) := by decide +kernel
theorem dX8_init_240 : decode cX8_init 240 = .ok (.bipush 40, 2) := by decide +kernel
theorem dX8_init_242 : decode cX8_init 242 = .ok (.newarray .int, 2) := by decide +kernel
theorem dX8_init_244 : decode cX8_init 244 = .ok (.putfield 101, 3) := by decide +kernel
theorem dX8_init_247 : decode cX8_init 247 = .ok (.aload_n 0, 1) := by decide +kernel
theorem dX8_init_248 : decode cX8_init 248 = .ok (.bipush 40, 2) := by decide +kernel
theorem dX8_init_250 : decode cX8_init 250 = .ok (.newarray .int, 2) := by decide +kernel
theorem dX8_init_252 : decode cX8_init 252 = .ok (.putfield 104, 3) := by decide +kernel
theorem dX8_init_255 : decode cX8_init 255 = .ok (.aload_n 0, 1) := by decide +kernel
theorem dX8_init_256 : decode cX8_init 256 = .ok (.bipush 40, 2) := by decide +kernel
theorem dX8_init_258 : decode cX8_init 258 = .ok (.newarray .int, 2) := by decide +kernel
theorem dX8_init_260 : decode cX8_init 260 = .ok (.putfield 107, 3) := by decide +kernel
theorem dX8_init_263 : decode cX8_init 263 = .ok (.aload_n 0, 1) := by decide +kernel
theorem dX8_init_264 : decode cX8_init 264 = .ok (.bipush 40, 2) := by decide +kernel
theorem dX8_init_266 : decode cX8_init 266 = .ok (.newarray .int, 2) := by decide +kernel
theorem dX8_init_268 : decode cX8_init 268 = .ok (.putfield 110, 3) := by decide +kernel
theorem dX8_init_271 : decode cX8_init 271 = .ok (.aload_n 0, 1) := by decide +kernel
theorem dX8_init_272 : decode cX8_init 272 = .ok (.sipush 369, 3) := by decide +kernel
theorem dX8_init_275 : decode cX8_init 275 = .ok (.newarray .int, 2) := by decide +kernel
theorem dX8_init_277 : decode cX8_init 277 = .ok (.putfield 113, 3) := by decide +kernel
theorem dX8_init_280 : decode cX8_init 280 = .ok (.aload_n 0, 1) := by decide +kernel
theorem dX8_init_281 : decode cX8_init 281 = .ok (.getfield 64, 3) := by decide +kernel
theorem dX8_init_284 : decode cX8_init 284 = .ok (.iconst 0, 1) := by decide +kernel
theorem dX8_init_285 : decode cX8_init 285 = .ok (.bipush 10, 2) := by decide +kernel
theorem dX8_init_287 : decode cX8_init 287 = .ok (.iastore, 1) := by decide +kernel
theorem dX8_init_288 : decode cX8_init 288 = .ok (.aload_n 0, 1) := by decide +kernel
theorem dX8_init_289 : decode cX8_init 289 = .ok (.getfield 64, 3) := by decide +kernel
theorem dX8_init_292 : decode cX8_init 292 = .ok (.iconst 1, 1) := by decide +kernel
theorem dX8_init_293 : decode cX8_init 293 = .ok (.iconst 1, 1) := by decide +kernel
theorem dX8_init_294 : decode cX8_init 294 = .ok (.iastore, 1) := by decide +kernel
theorem dX8_init_295 : decode cX8_init 295 = .ok (.aload_n 0, 1) := by decide +kernel
theorem dX8_init_296 : decode cX8_init 296 = .ok (.getfield 64, 3) := by decide +kernel
theorem dX8_init_299 : decode cX8_init 299 = .ok (.iconst 3, 1) := by decide +kernel
theorem dX8_init_300 : decode cX8_init 300 = .ok (.iconst 2, 1) := by decide +kernel
theorem dX8_init_301 : decode cX8_init 301 = .ok (.iastore, 1) := by decide +kernel
theorem dX8_init_302 : decode cX8_init 302 = .ok (.aload_n 0, 1) := by decide +kernel
theorem dX8_init_303 : decode cX8_init 303 = .ok (.getfield 64, 3) := by decide +kernel
theorem dX8_init_306 : decode cX8_init 306 = .ok (.iconst 4, 1) := by decide +kernel
theorem dX8_init_307 : decode cX8_init 307 = .ok (.iconst 3, 1) := by decide +kernel
theorem dX8_init_308 : decode cX8_init 308 = .ok (.iastore, 1) := by decide +kernel
theorem dX8_init_309 : decode cX8_init 309 = .ok (.iconst 0, 1) := by decide +kernel
theorem dX8_init_310 : decode cX8_init 310 = .ok (.istore_n 1, 1) := by decide +kernel
theorem dX8_init_311 : decode cX8_init 311 = .ok (.iload_n 1, 1) := by decide +kernel
theorem dX8_init_312 : decode cX8_init 312 = .ok (.bipush 12, 2) := by decide +kernel
theorem dX8_init_314 : decode cX8_init 314 = .ok (.if_icmp .ge 18, 3) := by decide +kernel
theorem dX8_init_317 : decode cX8_init 317 = .ok (.aload_n 0, 1) := by decide +kernel
theorem dX8_init_318 : decode cX8_init 318 = .ok (.getfield 37, 3) := by decide +kernel
theorem dX8_init_321 : decode cX8_init 321 = .ok (.iload_n 1, 1) := by decide +kernel
theorem dX8_init_322 : decode cX8_init 322 = .ok (.sipush 999, 3) := by decide +kernel
theorem dX8_init_325 : decode cX8_init 325 = .ok (.iastore, 1) := by decide +kernel
theorem dX8_init_326 : decode cX8_init 326 = .ok (.iinc 1 1, 3) := by decide +kernel
theorem dX8_init_329 : decode cX8_init 329 = .ok (.goto (-18), 3) := by decide +kernel
theorem dX8_init_332 : decode cX8_init 332 = .ok (.aload_n 0, 1) := by decide +kernel
theorem dX8_init_333 : decode cX8_init 333 = .ok (.getfield 67, 3) := by decide +kernel
theorem dX8_init_336 : decode cX8_init 336 = .ok (.iconst 0, 1) := by decide +kernel
theorem dX8_init_337 : decode cX8_init 337 = .ok (.iconst (-1), 1) := by decide +kernel
theorem dX8_init_338 : decode cX8_init 338 = .ok (.iastore, 1) := by decide +kernel
theorem dX8_init_339 : decode cX8_init 339 = .ok (.aload_n 0, 1) := by decide +kernel
theorem dX8_init_340 : decode cX8_init 340 = .ok (.getfield 67, 3) := by decide +kernel
theorem dX8_init_343 : decode cX8_init 343 = .ok (.iconst 1, 1) := by decide +kernel
theorem dX8_init_344 : decode cX8_init 344 = .ok (.iconst (-1), 1) := by decide +kernel
theorem dX8_init_345 : decode cX8_init 345 = .ok (.iastore, 1) := by decide +kernel
theorem dX8_init_346 : decode cX8_init 346 = .ok (.return_, 1) := by decide +kernel
theorem dX8_in_0 : decode cX8_in 0 = .ok (.iload_n 0, 1) := by decide +kernel
theorem dX8_in_1 : decode cX8_in 1 = .ok (.iload_n 1, 1) := by decide +kernel
theorem dX8_in_2 : decode cX8_in 2 = .ok (.if_icmp .lt 12, 3) := by decide +kernel
theorem dX8_in_5 : decode cX8_in 5 = .ok (.iload_n 0, 1) := by decide +kernel
theorem dX8_in_6 : decode cX8_in 6 = .ok (.iload_n 2, 1) := by decide +kernel
theorem dX8_in_7 : decode cX8_in 7 = .ok (.if_icmp .gt 7, 3) := by decide +kernel
theorem dX8_in_10 : decode cX8_in 10 = .ok (.iconst 1, 1) := by decide +kernel
theorem dX8_in_11 : decode cX8_in 11 = .ok (.goto 4, 3) := by decide +kernel
theorem dX8_in_14 : decode cX8_in 14 = .ok (.iconst 0, 1) := by decide +kernel
theorem dX8_in_15 : decode cX8_in 15 = .ok (.ireturn, 1) := by decide +kernel
theorem dX8_type_0 : decode cX8_type 0 = .ok (.iload_n 3, 1) := by decide +kernel
theorem dX8_type_1 : decode cX8_type 1 = .ok (.iconst 1, 1) := by decide +kernel
theorem dX8_type_2 : decode cX8_type 2 = .ok (.bipush 8, 2) := by decide +kernel
theorem dX8_type_4 : decode cX8_type 4 = .ok (.invokestatic 116, 3) := by decide +kernel
theorem dX8_type_7 : decode cX8_type 7 = .ok (.ifCond .ne 5, 3) := by decide +kernel
theorem dX8_type_10 : decode cX8_type 10 = .ok (.iconst (-1), 1) := by decide +kernel
theorem dX8_type_11 : decode cX8_type 11 = .ok (.ireturn, 1) := by decide +kernel
theorem dX8_type_12 : decode cX8_type 12 = .ok (.aload_n 0, 1) := by decide +kernel
theorem dX8_type_13 : decode cX8_type 13 = .ok (.getfield 120, 3) := by decide +kernel
theorem dX8_type_16 : decode cX8_type 16 = .ok (.iload_n 3, 1) := by decide +kernel
theorem dX8_type_17 : decode cX8_type 17 = .ok (.iadd, 1) := by decide +kernel
theorem dX8_type_18 : decode cX8_type 18 = .ok (.sipush 400, 3) := by decide +kernel
theorem dX8_type_21 : decode cX8_type 21 = .ok (.if_icmp .le 6, 3) := by decide +kernel
theorem dX8_type_24 : decode cX8_type 24 = .ok (.bipush (-3), 2) := by decide +kernel
theorem dX8_type_26 : decode cX8_type 26 = .ok (.ireturn, 1) := by decide +kernel
theorem dX8_type_27 : decode cX8_type 27 = .ok (.iload_n 3, 1) := by decide +kernel
theorem dX8_type_28 : decode cX8_type 28 = .ok (.iconst 1, 1) := by decide +kernel
theorem dX8_type_29 : decode cX8_type 29 = .ok (.isub, 1) := by decide +kernel
theorem dX8_type_30 : decode cX8_type 30 = .ok (.istore 4, 2) := by decide +kernel
theorem dX8_type_32 : decode cX8_type 32 = .ok (.iload 4, 2) := by decide +kernel
theorem dX8_type_34 : decode cX8_type 34 = .ok (.ifCond .lt 40, 3) := by decide +kernel
theorem dX8_type_37 : decode cX8_type 37 = .ok (.aload_n 0, 1) := by decide +kernel
theorem dX8_type_38 : decode cX8_type 38 = .ok (.getfield 7, 3) := by decide +kernel
theorem dX8_type_41 : decode cX8_type 41 = .ok (.aload_n 0, 1) := by decide +kernel
theorem dX8_type_42 : decode cX8_type 42 = .ok (.getfield 120, 3) := by decide +kernel
theorem dX8_type_45 : decode cX8_type 45 = .ok (.lload_n 1, 1) := by decide +kernel
theorem dX8_type_46 : decode cX8_type 46 = .ok (.bipush 8, 2) := by decide +kernel
theorem dX8_type_48 : decode cX8_type 48 = .ok (.iload 4, 2) := by decide +kernel
theorem dX8_type_50 : decode cX8_type 50 = .ok (.imul, 1) := by decide +kernel
theorem dX8_type_51 : decode cX8_type 51 = .ok (.lshr, 1) := by decide +kernel
theorem dX8_type_52 : decode cX8_type 52 = .ok (.ldc2_w 124, 3) := by decide +kernel
theorem dX8_type_55 : decode cX8_type 55 = .ok (.land, 1) := by decide +kernel
theorem dX8_type_56 : decode cX8_type 56 = .ok (.l2i, 1) := by decide +kernel
theorem dX8_type_57 : decode cX8_type 57 = .ok (.iastore, 1) := by decide +kernel
theorem dX8_type_58 : decode cX8_type 58 = .ok (.aload_n 0, 1) := by decide +kernel
theorem dX8_type_59 : decode cX8_type 59 = .ok (.dup, 1) := by decide +kernel
theorem dX8_type_60 : decode cX8_type 60 = .ok (.getfield 120, 3) := by decide +kernel
theorem dX8_type_63 : decode cX8_type 63 = .ok (.iconst 1, 1) := by decide +kernel
theorem dX8_type_64 : decode cX8_type 64 = .ok (.iadd, 1) := by decide +kernel
theorem dX8_type_65 : decode cX8_type 65 = .ok (.putfield 120, 3) := by decide +kernel
theorem dX8_type_68 : decode cX8_type 68 = .ok (.iinc 4 (-1), 3) := by decide +kernel
theorem dX8_type_71 : decode cX8_type 71 = .ok (.goto (-39), 3) := by decide +kernel
theorem dX8_type_74 : decode cX8_type 74 = .ok (.aload_n 0, 1) := by decide +kernel
theorem dX8_type_75 : decode cX8_type 75 = .ok (.getfield 120, 3) := by decide +kernel
theorem dX8_type_78 : decode cX8_type 78 = .ok (.ireturn, 1) := by decide +kernel
theorem dX8_clear_0 : decode cX8_clear 0 = .ok (.aload_n 0, 1) := by decide +kernel
theorem dX8_clear_1 : decode cX8_clear 1 = .ok (.getfield 120, 3) := by decide +kernel
theorem dX8_clear_4 : decode cX8_clear 4 = .ok (.istore_n 1, 1) := by decide +kernel
theorem dX8_clear_5 : decode cX8_clear 5 = .ok (.aload_n 0, 1) := by decide +kernel
theorem dX8_clear_6 : decode cX8_clear 6 = .ok (.iconst 0, 1) := by decide +kernel
theorem dX8_clear_7 : decode cX8_clear 7 = .ok (.putfield 120, 3) := by decide +kernel
theorem dX8_clear_10 : decode cX8_clear 10 = .ok (.iload_n 1, 1) := by decide +kernel
theorem dX8_clear_11 : decode cX8_clear 11 = .ok (.ireturn, 1) := by decide +kernel
theorem dX8_isLetter_0 : decode cX8_isLetter 0 = .ok (.iload_n 0, 1) := by decide +kernel
theorem dX8_isLetter_1 : decode cX8_isLetter 1 = .ok (.bipush 97, 2) := by decide +kernel
theorem dX8_isLetter_3 : decode cX8_isLetter 3 = .ok (.bipush 122, 2) := by decide +kernel
theorem dX8_isLetter_5 : decode cX8_isLetter 5 = .ok (.invokestatic 116, 3) := by decide +kernel
theorem dX8_isLetter_8 : decode cX8_isLetter 8 = .ok (.ireturn, 1) := by decide +kernel
theorem dX8_isDigit_0 : decode cX8_isDigit 0 = .ok (.iload_n 0, 1) := by decide +kernel
theorem dX8_isDigit_1 : decode cX8_isDigit 1 = .ok (.bipush 48, 2) := by decide +kernel
theorem dX8_isDigit_3 : decode cX8_isDigit 3 = .ok (.bipush 57, 2) := by decide +kernel
theorem dX8_isDigit_5 : decode cX8_isDigit 5 = .ok (.invokestatic 116, 3) := by decide +kernel
theorem dX8_isDigit_8 : decode cX8_isDigit 8 = .ok (.ireturn, 1) := by decide +kernel
theorem dX8_look_0 : decode cX8_look 0 = .ok (.aload_n 0, 1) := by decide +kernel
theorem dX8_look_1 : decode cX8_look 1 = .ok (.getfield 126, 3) := by decide +kernel
theorem dX8_look_4 : decode cX8_look 4 = .ok (.aload_n 0, 1) := by decide +kernel
theorem dX8_look_5 : decode cX8_look 5 = .ok (.getfield 120, 3) := by decide +kernel
theorem dX8_look_8 : decode cX8_look 8 = .ok (.if_icmp .ge 15, 3) := by decide +kernel
theorem dX8_look_11 : decode cX8_look 11 = .ok (.aload_n 0, 1) := by decide +kernel
theorem dX8_look_12 : decode cX8_look 12 = .ok (.getfield 7, 3) := by decide +kernel
theorem dX8_look_15 : decode cX8_look 15 = .ok (.aload_n 0, 1) := by decide +kernel
theorem dX8_look_16 : decode cX8_look 16 = .ok (.getfield 126, 3) := by decide +kernel
theorem dX8_look_19 : decode cX8_look 19 = .ok (.iaload, 1) := by decide +kernel
theorem dX8_look_20 : decode cX8_look 20 = .ok (.goto 4, 3) := by decide +kernel
theorem dX8_look_23 : decode cX8_look 23 = .ok (.iconst (-1), 1) := by decide +kernel
theorem dX8_look_24 : decode cX8_look 24 = .ok (.ireturn, 1) := by decide +kernel
theorem dX8_read_0 : decode cX8_read 0 = .ok (.aload_n 0, 1) := by decide +kernel
theorem dX8_read_1 : decode cX8_read 1 = .ok (.invokevirtual 129, 3) := by decide +kernel
theorem dX8_read_4 : decode cX8_read 4 = .ok (.bipush 32, 2) := by decide +kernel
theorem dX8_read_6 : decode cX8_read 6 = .ok (.if_icmp .ne 16, 3) := by decide +kernel
theorem dX8_read_9 : decode cX8_read 9 = .ok (.aload_n 0, 1) := by decide +kernel
theorem dX8_read_10 : decode cX8_read 10 = .ok (.dup, 1) := by decide +kernel
theorem dX8_read_11 : decode cX8_read 11 = .ok (.getfield 126, 3) := by decide +kernel
theorem dX8_read_14 : decode cX8_read 14 = .ok (.iconst 1, 1) := by decide +kernel
theorem dX8_read_15 : decode cX8_read 15 = .ok (.iadd, 1) := by decide +kernel
theorem dX8_read_16 : decode cX8_read 16 = .ok (.putfield 126, 3) := by decide +kernel
theorem dX8_read_19 : decode cX8_read 19 = .ok (.goto (-19), 3) := by decide +kernel
theorem dX8_read_22 : decode cX8_read 22 = .ok (.aload_n 0, 1) := by decide +kernel
theorem dX8_read_23 : decode cX8_read 23 = .ok (.aload_n 0, 1) := by decide +kernel
theorem dX8_read_24 : decode cX8_read 24 = .ok (.getfield 126, 3) := by decide +kernel
theorem dX8_read_27 : decode cX8_read 27 = .ok (.putfield 133, 3) := by decide +kernel
theorem dX8_read_30 : decode cX8_read 30 = .ok (.aload_n 0, 1) := by decide +kernel
theorem dX8_read_31 : decode cX8_read 31 = .ok (.invokevirtual 129, 3) := by decide +kernel
theorem dX8_read_34 : decode cX8_read 34 = .ok (.istore_n 1, 1) := by decide +kernel
theorem dX8_read_35 : decode cX8_read 35 = .ok (.iload_n 1, 1) := by decide +kernel
theorem dX8_read_36 : decode cX8_read 36 = .ok (.ifCond .ge 11, 3) := by decide +kernel
theorem dX8_read_39 : decode cX8_read 39 = .ok (.aload_n 0, 1) := by decide +kernel
theorem dX8_read_40 : decode cX8_read 40 = .ok (.iconst 0, 1) := by decide +kernel
theorem dX8_read_41 : decode cX8_read 41 = .ok (.putfield 136, 3) := by decide +kernel
theorem dX8_read_44 : decode cX8_read 44 = .ok (.goto 162, 3) := by decide +kernel
theorem dX8_read_47 : decode cX8_read 47 = .ok (.iload_n 1, 1) := by decide +kernel
theorem dX8_read_48 : decode cX8_read 48 = .ok (.invokestatic 139, 3) := by decide +kernel
theorem dX8_read_51 : decode cX8_read 51 = .ok (.ifCond .eq 10, 3) := by decide +kernel
theorem dX8_read_54 : decode cX8_read 54 = .ok (.aload_n 0, 1) := by decide +kernel
theorem dX8_read_55 : decode cX8_read 55 = .ok (.invokevirtual 143, 3) := by decide +kernel
theorem dX8_read_58 : decode cX8_read 58 = .ok (.goto 148, 3) := by decide +kernel
theorem dX8_read_61 : decode cX8_read 61 = .ok (.iload_n 1, 1) := by decide +kernel
theorem dX8_read_62 : decode cX8_read 62 = .ok (.invokestatic 146, 3) := by decide +kernel
theorem dX8_read_65 : decode cX8_read 65 = .ok (.ifCond .eq 115, 3) := by decide +kernel
theorem dX8_read_68 : decode cX8_read 68 = .ok (.aload_n 0, 1) := by decide +kernel
theorem dX8_read_69 : decode cX8_read 69 = .ok (.iconst 0, 1) := by decide +kernel
theorem dX8_read_70 : decode cX8_read 70 = .ok (.putfield 149, 3) := by decide +kernel
theorem dX8_read_73 : decode cX8_read 73 = .ok (.aload_n 0, 1) := by decide +kernel
theorem dX8_read_74 : decode cX8_read 74 = .ok (.invokevirtual 129, 3) := by decide +kernel
theorem dX8_read_77 : decode cX8_read 77 = .ok (.invokestatic 146, 3) := by decide +kernel
theorem dX8_read_80 : decode cX8_read 80 = .ok (.ifCond .eq 55, 3) := by decide +kernel
theorem dX8_read_83 : decode cX8_read 83 = .ok (.aload_n 0, 1) := by decide +kernel
theorem dX8_read_84 : decode cX8_read 84 = .ok (.aload_n 0, 1) := by decide +kernel
theorem dX8_read_85 : decode cX8_read 85 = .ok (.getfield 126, 3) := by decide +kernel
theorem dX8_read_88 : decode cX8_read 88 = .ok (.aload_n 0, 1) := by decide +kernel
theorem dX8_read_89 : decode cX8_read 89 = .ok (.getfield 133, 3) := by decide +kernel
theorem dX8_read_92 : decode cX8_read 92 = .ok (.isub, 1) := by decide +kernel
theorem dX8_read_93 : decode cX8_read 93 = .ok (.iconst 3, 1) := by decide +kernel
theorem dX8_read_94 : decode cX8_read 94 = .ok (.if_icmp .ge 21, 3) := by decide +kernel
theorem dX8_read_97 : decode cX8_read 97 = .ok (.bipush 10, 2) := by decide +kernel
theorem dX8_read_99 : decode cX8_read 99 = .ok (.aload_n 0, 1) := by decide +kernel
theorem dX8_read_100 : decode cX8_read 100 = .ok (.getfield 149, 3) := by decide +kernel
theorem dX8_read_103 : decode cX8_read 103 = .ok (.imul, 1) := by decide +kernel
theorem dX8_read_104 : decode cX8_read 104 = .ok (.aload_n 0, 1) := by decide +kernel
theorem dX8_read_105 : decode cX8_read 105 = .ok (.invokevirtual 129, 3) := by decide +kernel
theorem dX8_read_108 : decode cX8_read 108 = .ok (.iadd, 1) := by decide +kernel
theorem dX8_read_109 : decode cX8_read 109 = .ok (.bipush 48, 2) := by decide +kernel
theorem dX8_read_111 : decode cX8_read 111 = .ok (.isub, 1) := by decide +kernel
theorem dX8_read_112 : decode cX8_read 112 = .ok (.goto 7, 3) := by decide +kernel
theorem dX8_read_115 : decode cX8_read 115 = .ok (.aload_n 0, 1) := by decide +kernel
theorem dX8_read_116 : decode cX8_read 116 = .ok (.getfield 149, 3) := by decide +kernel
theorem dX8_read_119 : decode cX8_read 119 = .ok (.putfield 149, 3) := by decide +kernel
theorem dX8_read_122 : decode cX8_read 122 = .ok (.aload_n 0, 1) := by decide +kernel
theorem dX8_read_123 : decode cX8_read 123 = .ok (.dup, 1) := by decide +kernel
theorem dX8_read_124 : decode cX8_read 124 = .ok (.getfield 126, 3) := by decide +kernel
theorem dX8_read_127 : decode cX8_read 127 = .ok (.iconst 1, 1) := by decide +kernel
theorem dX8_read_128 : decode cX8_read 128 = .ok (.iadd, 1) := by decide +kernel
theorem dX8_read_129 : decode cX8_read 129 = .ok (.putfield 126, 3) := by decide +kernel
theorem dX8_read_132 : decode cX8_read 132 = .ok (.goto (-59), 3) := by decide +kernel
theorem dX8_read_135 : decode cX8_read 135 = .ok (.aload_n 0, 1) := by decide +kernel
theorem dX8_read_136 : decode cX8_read 136 = .ok (.aload_n 0, 1) := by decide +kernel
theorem dX8_read_137 : decode cX8_read 137 = .ok (.getfield 126, 3) := by decide +kernel
theorem dX8_read_140 : decode cX8_read 140 = .ok (.aload_n 0, 1) := by decide +kernel
theorem dX8_read_141 : decode cX8_read 141 = .ok (.getfield 133, 3) := by decide +kernel
theorem dX8_read_144 : decode cX8_read 144 = .ok (.isub, 1) := by decide +kernel
theorem dX8_read_145 : decode cX8_read 145 = .ok (.iconst 3, 1) := by decide +kernel
theorem dX8_read_146 : decode cX8_read 146 = .ok (.if_icmp .gt 22, 3) := by decide +kernel
theorem dX8_read_149 : decode cX8_read 149 = .ok (.iload_n 1, 1) := by decide +kernel
theorem dX8_read_150 : decode cX8_read 150 = .ok (.bipush 48, 2) := by decide +kernel
theorem dX8_read_152 : decode cX8_read 152 = .ok (.if_icmp .ne 21, 3) := by decide +kernel
theorem dX8_read_155 : decode cX8_read 155 = .ok (.aload_n 0, 1) := by decide +kernel
theorem dX8_read_156 : decode cX8_read 156 = .ok (.getfield 126, 3) := by decide +kernel
theorem dX8_read_159 : decode cX8_read 159 = .ok (.aload_n 0, 1) := by decide +kernel
theorem dX8_read_160 : decode cX8_read 160 = .ok (.getfield 133, 3) := by decide +kernel
theorem dX8_read_163 : decode cX8_read 163 = .ok (.isub, 1) := by decide +kernel
theorem dX8_read_164 : decode cX8_read 164 = .ok (.iconst 1, 1) := by decide +kernel
theorem dX8_read_165 : decode cX8_read 165 = .ok (.if_icmp .le 8, 3) := by decide +kernel
theorem dX8_read_168 : decode cX8_read 168 = .ok (.bipush 9, 2) := by decide +kernel
theorem dX8_read_170 : decode cX8_read 170 = .ok (.goto 4, 3) := by decide +kernel
