theorem dX0_init_0 : decode cX0_init 0 = .ok (.aload_n 0, 1) := by decide +kernel
theorem dX0_init_1 : decode cX0_init 1 = .ok (.invokespecial 3, 3) := by decide +kernel
theorem dX0_init_4 : decode cX0_init 4 = .ok (.aload_n 0, 1) := by decide +kernel
theorem dX0_init_5 : decode cX0_init 5 = .ok (.bipush 6, 2) := by decide +kernel
theorem dX0_init_7 : decode cX0_init 7 = .ok (.newarray .int, 2) := by decide +kernel
theorem dX0_init_9 : decode cX0_init 9 = .ok (.putfield 9, 3) := by decide +kernel
theorem dX0_init_12 : decode cX0_init 12 = .ok (.aload_n 0, 1) := by decide +kernel
theorem dX0_init_13 : decode cX0_init 13 = .ok (.bipush 6, 2) := by decide +kernel
theorem dX0_init_15 : decode cX0_init 15 = .ok (.bipush 60, 2) := by decide +kernel
theorem dX0_init_17 : decode cX0_init 17 = .ok (.multianewarray 15 2, 4) := by decide +kernel
theorem dX0_init_21 : decode cX0_init 21 = .ok (.putfield 17, 3) := by decide +kernel
theorem dX0_init_24 : decode cX0_init 24 = .ok (.return_, 1) := by decide +kernel
theorem dX0_tearAll_0 : decode cX0_tearAll 0 = .ok (.aload_n 0, 1) := by decide +kernel
theorem dX0_tearAll_1 : decode cX0_tearAll 1 = .ok (.getfield 9, 3) := by decide +kernel
theorem dX0_tearAll_4 : decode cX0_tearAll 4 = .ok (.iconst 0, 1) := by decide +kernel
theorem dX0_tearAll_5 : decode cX0_tearAll 5 = .ok (.invokestatic 20, 3) := by decide +kernel
theorem dX0_tearAll_8 : decode cX0_tearAll 8 = .ok (.return_, 1) := by decide +kernel
theorem dX0_append_0 : decode cX0_append 0 = .ok (.iload_n 1, 1) := by decide +kernel
theorem dX0_append_1 : decode cX0_append 1 = .ok (.ifCond .lt 29, 3) := by decide +kernel
theorem dX0_append_4 : decode cX0_append 4 = .ok (.iload_n 1, 1) := by decide +kernel
theorem dX0_append_5 : decode cX0_append 5 = .ok (.bipush 6, 2) := by decide +kernel
theorem dX0_append_7 : decode cX0_append 7 = .ok (.if_icmp .ge 23, 3) := by decide +kernel
theorem dX0_append_10 : decode cX0_append 10 = .ok (.aload_n 0, 1) := by decide +kernel
theorem dX0_append_11 : decode cX0_append 11 = .ok (.getfield 9, 3) := by decide +kernel
theorem dX0_append_14 : decode cX0_append 14 = .ok (.iload_n 1, 1) := by decide +kernel
theorem dX0_append_15 : decode cX0_append 15 = .ok (.iaload, 1) := by decide +kernel
theorem dX0_append_16 : decode cX0_append 16 = .ok (.ifCond .lt 14, 3) := by decide +kernel
theorem dX0_append_19 : decode cX0_append 19 = .ok (.aload_n 0, 1) := by decide +kernel
theorem dX0_append_20 : decode cX0_append 20 = .ok (.getfield 9, 3) := by decide +kernel
theorem dX0_append_23 : decode cX0_append 23 = .ok (.iload_n 1, 1) := by decide +kernel
theorem dX0_append_24 : decode cX0_append 24 = .ok (.iaload, 1) := by decide +kernel
theorem dX0_append_25 : decode cX0_append 25 = .ok (.bipush 60, 2) := by decide +kernel
theorem dX0_append_27 : decode cX0_append 27 = .ok (.if_icmp .lt 6, 3) := by decide +kernel
theorem dX0_append_30 : decode cX0_append 30 = .ok (.ldc 26, 2) := by decide +kernel
theorem dX0_append_32 : decode cX0_append 32 = .ok (.ireturn, 1) := by decide +kernel
theorem dX0_append_33 : decode cX0_append 33 = .ok (.aload_n 0, 1) := by decide +kernel
theorem dX0_append_34 : decode cX0_append 34 = .ok (.getfield 17, 3) := by decide +kernel
theorem dX0_append_37 : decode cX0_append 37 = .ok (.iload_n 1, 1) := by decide +kernel
theorem dX0_append_38 : decode cX0_append 38 = .ok (.aaload, 1) := by decide +kernel
theorem dX0_append_39 : decode cX0_append 39 = .ok (.aload_n 0, 1) := by decide +kernel
theorem dX0_append_40 : decode cX0_append 40 = .ok (.getfield 9, 3) := by decide +kernel
theorem dX0_append_43 : decode cX0_append 43 = .ok (.iload_n 1, 1) := by decide +kernel
theorem dX0_append_44 : decode cX0_append 44 = .ok (.iaload, 1) := by decide +kernel
theorem dX0_append_45 : decode cX0_append 45 = .ok (.iload_n 2, 1) := by decide +kernel
theorem dX0_append_46 : decode cX0_append 46 = .ok (.iastore, 1) := by decide +kernel
theorem dX0_append_47 : decode cX0_append 47 = .ok (.aload_n 0, 1) := by decide +kernel
theorem dX0_append_48 : decode cX0_append 48 = .ok (.getfield 9, 3) := by decide +kernel
theorem dX0_append_51 : decode cX0_append 51 = .ok (.iload_n 1, 1) := by decide +kernel
theorem dX0_append_52 : decode cX0_append 52 = .ok (.dup2, 1) := by decide +kernel
theorem dX0_append_53 : decode cX0_append 53 = .ok (.iaload, 1) := by decide +kernel
theorem dX0_append_54 : decode cX0_append 54 = .ok (.iconst 1, 1) := by decide +kernel
theorem dX0_append_55 : decode cX0_append 55 = .ok (.iadd, 1) := by decide +kernel
theorem dX0_append_56 : decode cX0_append 56 = .ok (.iastore, 1) := by decide +kernel
theorem dX0_append_57 : decode cX0_append 57 = .ok (.aload_n 0, 1) := by decide +kernel
theorem dX0_append_58 : decode cX0_append 58 = .ok (.getfield 9, 3) := by decide +kernel
theorem dX0_append_61 : decode cX0_append 61 = .ok (.iload_n 1, 1) := by decide +kernel
theorem dX0_append_62 : decode cX0_append 62 = .ok (.iaload, 1) := by decide +kernel
theorem dX0_append_63 : decode cX0_append 63 = .ok (.ireturn, 1) := by decide +kernel
theorem dX0_firstWrong_0 : decode cX0_firstWrong 0 = .ok (.iload_n 1, 1) := by decide +kernel
theorem dX0_firstWrong_1 : decode cX0_firstWrong 1 = .ok (.ifCond .lt 9, 3) := by decide +kernel
theorem dX0_firstWrong_4 : decode cX0_firstWrong 4 = .ok (.iload_n 1, 1) := by decide +kernel
theorem dX0_firstWrong_5 : decode cX0_firstWrong 5 = .ok (.bipush 6, 2) := by decide +kernel
theorem dX0_firstWrong_7 : decode cX0_firstWrong 7 = .ok (.if_icmp .lt 5, 3) := by decide +kernel
theorem dX0_firstWrong_10 : decode cX0_firstWrong 10 = .ok (.iconst (-1), 1) := by decide +kernel
theorem dX0_firstWrong_11 : decode cX0_firstWrong 11 = .ok (.ireturn, 1) := by decide +kernel
theorem dX0_firstWrong_12 : decode cX0_firstWrong 12 = .ok (.iconst 0, 1) := by decide +kernel
theorem dX0_firstWrong_13 : decode cX0_firstWrong 13 = .ok (.istore_n 3, 1) := by decide +kernel
theorem dX0_firstWrong_14 : decode cX0_firstWrong 14 = .ok (.iload_n 3, 1) := by decide +kernel
theorem dX0_firstWrong_15 : decode cX0_firstWrong 15 = .ok (.aload_n 0, 1) := by decide +kernel
theorem dX0_firstWrong_16 : decode cX0_firstWrong 16 = .ok (.getfield 9, 3) := by decide +kernel
theorem dX0_firstWrong_19 : decode cX0_firstWrong 19 = .ok (.iload_n 1, 1) := by decide +kernel
theorem dX0_firstWrong_20 : decode cX0_firstWrong 20 = .ok (.iaload, 1) := by decide +kernel
theorem dX0_firstWrong_21 : decode cX0_firstWrong 21 = .ok (.if_icmp .ge 44, 3) := by decide +kernel
theorem dX0_firstWrong_24 : decode cX0_firstWrong 24 = .ok (.iload_n 3, 1) := by decide +kernel
theorem dX0_firstWrong_25 : decode cX0_firstWrong 25 = .ok (.bipush 60, 2) := by decide +kernel
theorem dX0_firstWrong_27 : decode cX0_firstWrong 27 = .ok (.if_icmp .ge 38, 3) := by decide +kernel
theorem dX0_firstWrong_30 : decode cX0_firstWrong 30 = .ok (.iload_n 3, 1) := by decide +kernel
theorem dX0_firstWrong_31 : decode cX0_firstWrong 31 = .ok (.aload_n 2, 1) := by decide +kernel
theorem dX0_firstWrong_32 : decode cX0_firstWrong 32 = .ok (.getfield 27, 3) := by decide +kernel
theorem dX0_firstWrong_35 : decode cX0_firstWrong 35 = .ok (.if_icmp .ge 30, 3) := by decide +kernel
theorem dX0_firstWrong_38 : decode cX0_firstWrong 38 = .ok (.aload_n 0, 1) := by decide +kernel
theorem dX0_firstWrong_39 : decode cX0_firstWrong 39 = .ok (.getfield 17, 3) := by decide +kernel
theorem dX0_firstWrong_42 : decode cX0_firstWrong 42 = .ok (.iload_n 1, 1) := by decide +kernel
theorem dX0_firstWrong_43 : decode cX0_firstWrong 43 = .ok (.aaload, 1) := by decide +kernel
theorem dX0_firstWrong_44 : decode cX0_firstWrong 44 = .ok (.iload_n 3, 1) := by decide +kernel
theorem dX0_firstWrong_45 : decode cX0_firstWrong 45 = .ok (.iaload, 1) := by decide +kernel
theorem dX0_firstWrong_46 : decode cX0_firstWrong 46 = .ok (.aload_n 2, 1) := by decide +kernel
theorem dX0_firstWrong_47 : decode cX0_firstWrong 47 = .ok (.getfield 33, 3) := by decide +kernel
theorem dX0_firstWrong_50 : decode cX0_firstWrong 50 = .ok (.iload_n 1, 1) := by decide +kernel
theorem dX0_firstWrong_51 : decode cX0_firstWrong 51 = .ok (.aaload, 1) := by decide +kernel
theorem dX0_firstWrong_52 : decode cX0_firstWrong 52 = .ok (.iload_n 3, 1) := by decide +kernel
theorem dX0_firstWrong_53 : decode cX0_firstWrong 53 = .ok (.iaload, 1) := by decide +kernel
theorem dX0_firstWrong_54 : decode cX0_firstWrong 54 = .ok (.if_icmp .eq 5, 3) := by decide +kernel
theorem dX0_firstWrong_57 : decode cX0_firstWrong 57 = .ok (.iload_n 3, 1) := by decide +kernel
theorem dX0_firstWrong_58 : decode cX0_firstWrong 58 = .ok (.ireturn, 1) := by decide +kernel
theorem dX0_firstWrong_59 : decode cX0_firstWrong 59 = .ok (.iinc 3 1, 3) := by decide +kernel
theorem dX0_firstWrong_62 : decode cX0_firstWrong 62 = .ok (.goto (-48), 3) := by decide +kernel
theorem dX0_firstWrong_65 : decode cX0_firstWrong 65 = .ok (.iconst (-1), 1) := by decide +kernel
theorem dX0_firstWrong_66 : decode cX0_firstWrong 66 = .ok (.ireturn, 1) := by decide +kernel
theorem dX1_init_0 : decode cX1_init 0 = .ok (.aload_n 0, 1) := by decide +kernel
theorem dX1_init_1 : decode cX1_init 1 = .ok (.invokespecial 3, 3) := by decide +kernel
theorem dX1_init_4 : decode cX1_init 4 = .ok (.aload_n 0, 1) := by decide +kernel
theorem dX1_init_5 : decode cX1_init 5 = .ok (.bipush 6, 2) := by decide +kernel
theorem dX1_init_7 : decode cX1_init 7 = .ok (.newarray .int, 2) := by decide +kernel
theorem dX1_init_9 : decode cX1_init 9 = .ok (.putfield 9, 3) := by decide +kernel
theorem dX1_init_12 : decode cX1_init 12 = .ok (.aload_n 0, 1) := by decide +kernel
theorem dX1_init_13 : decode cX1_init 13 = .ok (.bipush 6, 2) := by decide +kernel
theorem dX1_init_15 : decode cX1_init 15 = .ok (.bipush 31, 2) := by decide +kernel
theorem dX1_init_17 : decode cX1_init 17 = .ok (.multianewarray 15 2, 4) := by decide +kernel
theorem dX1_init_21 : decode cX1_init 21 = .ok (.putfield 17, 3) := by decide +kernel
theorem dX1_init_24 : decode cX1_init 24 = .ok (.aload_n 0, 1) := by decide +kernel
theorem dX1_init_25 : decode cX1_init 25 = .ok (.bipush 31, 2) := by decide +kernel
theorem dX1_init_27 : decode cX1_init 27 = .ok (.newarray .int, 2) := by decide +kernel
theorem dX1_init_29 : decode cX1_init 29 = .ok (.putfield 20, 3) := by decide +kernel
theorem dX1_init_32 : decode cX1_init 32 = .ok (.aload_n 0, 1) := by decide +kernel
theorem dX1_init_33 : decode cX1_init 33 = .ok (.bipush 64, 2) := by decide +kernel
theorem dX1_init_35 : decode cX1_init 35 = .ok (.newarray .long, 2) := by decide +kernel
theorem dX1_init_37 : decode cX1_init 37 = .ok (.putfield 23, 3) := by decide +kernel
theorem dX1_init_40 : decode cX1_init 40 = .ok (.aload_n 0, 1) := by decide +kernel
theorem dX1_init_41 : decode cX1_init 41 = .ok (.bipush 64, 2) := by decide +kernel
theorem dX1_init_43 : decode cX1_init 43 = .ok (.newarray .long, 2) := by decide +kernel
theorem dX1_init_45 : decode cX1_init 45 = .ok (.putfield 27, 3) := by decide +kernel
theorem dX1_init_48 : decode cX1_init 48 = .ok (.aload_n 0, 1) := by decide +kernel
theorem dX1_init_49 : decode cX1_init 49 = .ok (.bipush 64, 2) := by decide +kernel
theorem dX1_init_51 : decode cX1_init 51 = .ok (.newarray .boolean, 2) := by decide +kernel
theorem dX1_init_53 : decode cX1_init 53 = .ok (.putfield 30, 3) := by decide +kernel
theorem dX1_init_56 : decode cX1_init 56 = .ok (.aload_n 0, 1) := by decide +kernel
theorem dX1_init_57 : decode cX1_init 57 = .ok (.bipush 6, 2) := by decide +kernel
theorem dX1_init_59 : decode cX1_init 59 = .ok (.newarray .int, 2) := by decide +kernel
theorem dX1_init_61 : decode cX1_init 61 = .ok (.putfield 34, 3) := by decide +kernel
theorem dX1_init_64 : decode cX1_init 64 = .ok (.aload_n 0, 1) := by decide +kernel
theorem dX1_init_65 : decode cX1_init 65 = .ok (.aload_n 1, 1) := by decide +kernel
theorem dX1_init_66 : decode cX1_init 66 = .ok (.putfield 37, 3) := by decide +kernel
theorem dX1_init_69 : decode cX1_init 69 = .ok (.return_, 1) := by decide +kernel
theorem dX1_mostOn_0 : decode cX1_mostOn 0 = .ok (.aload_n 0, 1) := by decide +kernel
theorem dX1_mostOn_1 : decode cX1_mostOn 1 = .ok (.iload_n 1, 1) := by decide +kernel
theorem dX1_mostOn_2 : decode cX1_mostOn 2 = .ok (.invokevirtual 41, 3) := by decide +kernel
theorem dX1_mostOn_5 : decode cX1_mostOn 5 = .ok (.aload_n 0, 1) := by decide +kernel
theorem dX1_mostOn_6 : decode cX1_mostOn 6 = .ok (.invokevirtual 45, 3) := by decide +kernel
theorem dX1_mostOn_9 : decode cX1_mostOn 9 = .ok (.iconst 0, 1) := by decide +kernel
theorem dX1_mostOn_10 : decode cX1_mostOn 10 = .ok (.istore_n 3, 1) := by decide +kernel
theorem dX1_mostOn_11 : decode cX1_mostOn 11 = .ok (.iload_n 3, 1) := by decide +kernel
theorem dX1_mostOn_12 : decode cX1_mostOn 12 = .ok (.iload_n 2, 1) := by decide +kernel
theorem dX1_mostOn_13 : decode cX1_mostOn 13 = .ok (.if_icmp .gt 26, 3) := by decide +kernel
theorem dX1_mostOn_16 : decode cX1_mostOn 16 = .ok (.iload_n 3, 1) := by decide +kernel
theorem dX1_mostOn_17 : decode cX1_mostOn 17 = .ok (.aload_n 0, 1) := by decide +kernel
theorem dX1_mostOn_18 : decode cX1_mostOn 18 = .ok (.getfield 48, 3) := by decide +kernel
theorem dX1_mostOn_21 : decode cX1_mostOn 21 = .ok (.if_icmp .gt 18, 3) := by decide +kernel
theorem dX1_mostOn_24 : decode cX1_mostOn 24 = .ok (.aload_n 0, 1) := by decide +kernel
theorem dX1_mostOn_25 : decode cX1_mostOn 25 = .ok (.iload_n 3, 1) := by decide +kernel
theorem dX1_mostOn_26 : decode cX1_mostOn 26 = .ok (.aload_n 0, 1) := by decide +kernel
theorem dX1_mostOn_27 : decode cX1_mostOn 27 = .ok (.invokevirtual 52, 3) := by decide +kernel
theorem dX1_mostOn_30 : decode cX1_mostOn 30 = .ok (.invokevirtual 56, 3) := by decide +kernel
theorem dX1_mostOn_33 : decode cX1_mostOn 33 = .ok (.iinc 3 1, 3) := by decide +kernel
theorem dX1_mostOn_36 : decode cX1_mostOn 36 = .ok (.goto (-25), 3) := by decide +kernel
theorem dX1_mostOn_39 : decode cX1_mostOn 39 = .ok (.aload_n 0, 1) := by decide +kernel
theorem dX1_mostOn_40 : decode cX1_mostOn 40 = .ok (.invokevirtual 60, 3) := by decide +kernel
theorem dX1_mostOn_43 : decode cX1_mostOn 43 = .ok (.iload_n 2, 1) := by decide +kernel
theorem dX1_mostOn_44 : decode cX1_mostOn 44 = .ok (.lshr, 1) := by decide +kernel
theorem dX1_mostOn_45 : decode cX1_mostOn 45 = .ok (.l2i, 1) := by decide +kernel
theorem dX1_mostOn_46 : decode cX1_mostOn 46 = .ok (.ireturn, 1) := by decide +kernel
theorem dX1_soonestOf_0 : decode cX1_soonestOf 0 = .ok (.aload_n 0, 1) := by decide +kernel
theorem dX1_soonestOf_1 : decode cX1_soonestOf 1 = .ok (.getfield 37, 3) := by decide +kernel
theorem dX1_soonestOf_4 : decode cX1_soonestOf 4 = .ok (.iload_n 1, 1) := by decide +kernel
theorem dX1_soonestOf_5 : decode cX1_soonestOf 5 = .ok (.invokevirtual 64, 3) := by decide +kernel
theorem dX1_soonestOf_8 : decode cX1_soonestOf 8 = .ok (.ifCond .ne 5, 3) := by decide +kernel
theorem dX1_soonestOf_11 : decode cX1_soonestOf 11 = .ok (.iconst (-1), 1) := by decide +kernel
theorem dX1_soonestOf_12 : decode cX1_soonestOf 12 = .ok (.ireturn, 1) := by decide +kernel
theorem dX1_soonestOf_13 : decode cX1_soonestOf 13 = .ok (.aload_n 0, 1) := by decide +kernel
theorem dX1_soonestOf_14 : decode cX1_soonestOf 14 = .ok (.iload_n 1, 1) := by decide +kernel
theorem dX1_soonestOf_15 : decode cX1_soonestOf 15 = .ok (.invokevirtual 41, 3) := by decide +kernel
theorem dX1_soonestOf_18 : decode cX1_soonestOf 18 = .ok (.aload_n 0, 1) := by decide +kernel
theorem dX1_soonestOf_19 : decode cX1_soonestOf 19 = .ok (.invokevirtual 45, 3) := by decide +kernel
theorem dX1_soonestOf_22 : decode cX1_soonestOf 22 = .ok (.iconst 0, 1) := by decide +kernel
theorem dX1_soonestOf_23 : decode cX1_soonestOf 23 = .ok (.istore_n 2, 1) := by decide +kernel
theorem dX1_soonestOf_24 : decode cX1_soonestOf 24 = .ok (.iload_n 2, 1) := by decide +kernel
theorem dX1_soonestOf_25 : decode cX1_soonestOf 25 = .ok (.aload_n 0, 1) := by decide +kernel
theorem dX1_soonestOf_26 : decode cX1_soonestOf 26 = .ok (.getfield 48, 3) := by decide +kernel
theorem dX1_soonestOf_29 : decode cX1_soonestOf 29 = .ok (.if_icmp .gt 34, 3) := by decide +kernel
theorem dX1_soonestOf_32 : decode cX1_soonestOf 32 = .ok (.aload_n 0, 1) := by decide +kernel
theorem dX1_soonestOf_33 : decode cX1_soonestOf 33 = .ok (.iload_n 2, 1) := by decide +kernel
theorem dX1_soonestOf_34 : decode cX1_soonestOf 34 = .ok (.aload_n 0, 1) := by decide +kernel
theorem dX1_soonestOf_35 : decode cX1_soonestOf 35 = .ok (.invokevirtual 52, 3) := by decide +kernel
theorem dX1_soonestOf_38 : decode cX1_soonestOf 38 = .ok (.invokevirtual 56, 3) := by decide +kernel
theorem dX1_soonestOf_41 : decode cX1_soonestOf 41 = .ok (.aload_n 0, 1) := by decide +kernel
theorem dX1_soonestOf_42 : decode cX1_soonestOf 42 = .ok (.invokevirtual 60, 3) := by decide +kernel
theorem dX1_soonestOf_45 : decode cX1_soonestOf 45 = .ok (.aload_n 0, 1) := by decide +kernel
theorem dX1_soonestOf_46 : decode cX1_soonestOf 46 = .ok (.getfield 70, 3) := by decide +kernel
theorem dX1_soonestOf_49 : decode cX1_soonestOf 49 = .ok (.iload_n 2, 1) := by decide +kernel
theorem dX1_soonestOf_50 : decode cX1_soonestOf 50 = .ok (.lshl, 1) := by decide +kernel
theorem dX1_soonestOf_51 : decode cX1_soonestOf 51 = .ok (.lcmp, 1) := by decide +kernel
theorem dX1_soonestOf_52 : decode cX1_soonestOf 52 = .ok (.ifCond .lt 5, 3) := by decide +kernel
theorem dX1_soonestOf_55 : decode cX1_soonestOf 55 = .ok (.iload_n 2, 1) := by decide +kernel
theorem dX1_soonestOf_56 : decode cX1_soonestOf 56 = .ok (.ireturn, 1) := by decide +kernel
theorem dX1_soonestOf_57 : decode cX1_soonestOf 57 = .ok (.iinc 2 1, 3) := by decide +kernel
theorem dX1_soonestOf_60 : decode cX1_soonestOf 60 = .ok (.goto (-36), 3) := by decide +kernel
theorem dX1_soonestOf_63 : decode cX1_soonestOf 63 = .ok (.iconst (-1), 1) := by decide +kernel
theorem dX1_soonestOf_64 : decode cX1_soonestOf 64 = .ok (.ireturn, 1) := by decide +kernel
theorem dX1_plannedDayOf_0 : decode cX1_plannedDayOf 0 = .ok (.aload_n 0, 1) := by decide +kernel
theorem dX1_plannedDayOf_1 : decode cX1_plannedDayOf 1 = .ok (.iload_n 2, 1) := by decide +kernel
theorem dX1_plannedDayOf_2 : decode cX1_plannedDayOf 2 = .ok (.aload_n 0, 1) := by decide +kernel
theorem dX1_plannedDayOf_3 : decode cX1_plannedDayOf 3 = .ok (.iload_n 2, 1) := by decide +kernel
theorem dX1_plannedDayOf_4 : decode cX1_plannedDayOf 4 = .ok (.invokevirtual 74, 3) := by decide +kernel
theorem dX1_plannedDayOf_7 : decode cX1_plannedDayOf 7 = .ok (.invokevirtual 78, 3) := by decide +kernel
theorem dX1_plannedDayOf_10 : decode cX1_plannedDayOf 10 = .ok (.iconst 0, 1) := by decide +kernel
theorem dX1_plannedDayOf_11 : decode cX1_plannedDayOf 11 = .ok (.istore_n 3, 1) := by decide +kernel
theorem dX1_plannedDayOf_12 : decode cX1_plannedDayOf 12 = .ok (.iload_n 3, 1) := by decide +kernel
theorem dX1_plannedDayOf_13 : decode cX1_plannedDayOf 13 = .ok (.aload_n 0, 1) := by decide +kernel
theorem dX1_plannedDayOf_14 : decode cX1_plannedDayOf 14 = .ok (.getfield 81, 3) := by decide +kernel
theorem dX1_plannedDayOf_17 : decode cX1_plannedDayOf 17 = .ok (.if_icmp .ge 26, 3) := by decide +kernel
theorem dX1_plannedDayOf_20 : decode cX1_plannedDayOf 20 = .ok (.aload_n 0, 1) := by decide +kernel
theorem dX1_plannedDayOf_21 : decode cX1_plannedDayOf 21 = .ok (.getfield 9, 3) := by decide +kernel
theorem dX1_plannedDayOf_24 : decode cX1_plannedDayOf 24 = .ok (.iload_n 3, 1) := by decide +kernel
theorem dX1_plannedDayOf_25 : decode cX1_plannedDayOf 25 = .ok (.iaload, 1) := by decide +kernel
theorem dX1_plannedDayOf_26 : decode cX1_plannedDayOf 26 = .ok (.iload_n 1, 1) := by decide +kernel
theorem dX1_plannedDayOf_27 : decode cX1_plannedDayOf 27 = .ok (.if_icmp .ne 10, 3) := by decide +kernel
theorem dX1_plannedDayOf_30 : decode cX1_plannedDayOf 30 = .ok (.aload_n 0, 1) := by decide +kernel
theorem dX1_plannedDayOf_31 : decode cX1_plannedDayOf 31 = .ok (.getfield 34, 3) := by decide +kernel
theorem dX1_plannedDayOf_34 : decode cX1_plannedDayOf 34 = .ok (.iload_n 3, 1) := by decide +kernel
theorem dX1_plannedDayOf_35 : decode cX1_plannedDayOf 35 = .ok (.iaload, 1) := by decide +kernel
theorem dX1_plannedDayOf_36 : decode cX1_plannedDayOf 36 = .ok (.ireturn, 1) := by decide +kernel
theorem dX1_plannedDayOf_37 : decode cX1_plannedDayOf 37 = .ok (.iinc 3 1, 3) := by decide +kernel
theorem dX1_plannedDayOf_40 : decode cX1_plannedDayOf 40 = .ok (.goto (-28), 3) := by decide +kernel
theorem dX1_plannedDayOf_43 : decode cX1_plannedDayOf 43 = .ok (.iconst (-1), 1) := by decide +kernel
theorem dX1_plannedDayOf_44 : decode cX1_plannedDayOf 44 = .ok (.ireturn, 1) := by decide +kernel
theorem dX1_fewestToStrike_0 : decode cX1_fewestToStrike 0 = .ok (.aload_n 0, 1) := by decide +kernel
theorem dX1_fewestToStrike_1 : decode cX1_fewestToStrike 1 = .ok (.iload_n 1, 1) := by decide +kernel
theorem dX1_fewestToStrike_2 : decode cX1_fewestToStrike 2 = .ok (.invokevirtual 41, 3) := by decide +kernel
theorem dX1_fewestToStrike_5 : decode cX1_fewestToStrike 5 = .ok (.aload_n 0, 1) := by decide +kernel
theorem dX1_fewestToStrike_6 : decode cX1_fewestToStrike 6 = .ok (.invokevirtual 84, 3) := by decide +kernel
theorem dX1_fewestToStrike_9 : decode cX1_fewestToStrike 9 = .ok (.aload_n 0, 1) := by decide +kernel
theorem dX1_fewestToStrike_10 : decode cX1_fewestToStrike 10 = .ok (.getfield 30, 3) := by decide +kernel
theorem dX1_fewestToStrike_13 : decode cX1_fewestToStrike 13 = .ok (.iconst 0, 1) := by decide +kernel
theorem dX1_fewestToStrike_14 : decode cX1_fewestToStrike 14 = .ok (.baload, 1) := by decide +kernel
theorem dX1_fewestToStrike_15 : decode cX1_fewestToStrike 15 = .ok (.ifCond .eq 5, 3) := by decide +kernel
theorem dX1_fewestToStrike_18 : decode cX1_fewestToStrike 18 = .ok (.iconst (-1), 1) := by decide +kernel
theorem dX1_fewestToStrike_19 : decode cX1_fewestToStrike 19 = .ok (.ireturn, 1) := by decide +kernel
theorem dX1_fewestToStrike_20 : decode cX1_fewestToStrike 20 = .ok (.aload_n 0, 1) := by decide +kernel
theorem dX1_fewestToStrike_21 : decode cX1_fewestToStrike 21 = .ok (.invokevirtual 52, 3) := by decide +kernel
theorem dX1_fewestToStrike_24 : decode cX1_fewestToStrike 24 = .ok (.istore_n 2, 1) := by decide +kernel
theorem dX1_fewestToStrike_25 : decode cX1_fewestToStrike 25 = .ok (.iconst 0, 1) := by decide +kernel
theorem dX1_fewestToStrike_26 : decode cX1_fewestToStrike 26 = .ok (.istore_n 3, 1) := by decide +kernel
theorem dX1_fewestToStrike_27 : decode cX1_fewestToStrike 27 = .ok (.iload_n 3, 1) := by decide +kernel
theorem dX1_fewestToStrike_28 : decode cX1_fewestToStrike 28 = .ok (.aload_n 0, 1) := by decide +kernel
theorem dX1_fewestToStrike_29 : decode cX1_fewestToStrike 29 = .ok (.invokevirtual 52, 3) := by decide +kernel
theorem dX1_fewestToStrike_32 : decode cX1_fewestToStrike 32 = .ok (.if_icmp .ge 30, 3) := by decide +kernel
theorem dX1_fewestToStrike_35 : decode cX1_fewestToStrike 35 = .ok (.iload_n 3, 1) := by decide +kernel
theorem dX1_fewestToStrike_36 : decode cX1_fewestToStrike 36 = .ok (.invokestatic 87, 3) := by decide +kernel
theorem dX1_fewestToStrike_39 : decode cX1_fewestToStrike 39 = .ok (.iload_n 2, 1) := by decide +kernel
theorem dX1_fewestToStrike_40 : decode cX1_fewestToStrike 40 = .ok (.invokestatic 87, 3) := by decide +kernel
theorem dX1_fewestToStrike_43 : decode cX1_fewestToStrike 43 = .ok (.if_icmp .ge 13, 3) := by decide +kernel
theorem dX1_fewestToStrike_46 : decode cX1_fewestToStrike 46 = .ok (.aload_n 0, 1) := by decide +kernel
theorem dX1_fewestToStrike_47 : decode cX1_fewestToStrike 47 = .ok (.iload_n 3, 1) := by decide +kernel
theorem dX1_fewestToStrike_48 : decode cX1_fewestToStrike 48 = .ok (.invokevirtual 92, 3) := by decide +kernel
theorem dX1_fewestToStrike_51 : decode cX1_fewestToStrike 51 = .ok (.ifCond .eq 5, 3) := by decide +kernel
theorem dX1_fewestToStrike_54 : decode cX1_fewestToStrike 54 = .ok (.iload_n 3, 1) := by decide +kernel
theorem dX1_fewestToStrike_55 : decode cX1_fewestToStrike 55 = .ok (.istore_n 2, 1) := by decide +kernel
theorem dX1_fewestToStrike_56 : decode cX1_fewestToStrike 56 = .ok (.iinc 3 1, 3) := by decide +kernel
theorem dX1_fewestToStrike_59 : decode cX1_fewestToStrike 59 = .ok (.goto (-32), 3) := by decide +kernel
theorem dX1_fewestToStrike_62 : decode cX1_fewestToStrike 62 = .ok (.aload_n 0, 1) := by decide +kernel
theorem dX1_fewestToStrike_63 : decode cX1_fewestToStrike 63 = .ok (.iload_n 2, 1) := by decide +kernel
theorem dX1_fewestToStrike_64 : decode cX1_fewestToStrike 64 = .ok (.invokevirtual 95, 3) := by decide +kernel
theorem dX1_fewestToStrike_67 : decode cX1_fewestToStrike 67 = .ok (.ireturn, 1) := by decide +kernel
theorem dX1_prepare_0 : decode cX1_prepare 0 = .ok (.aload_n 0, 1) := by decide +kernel
theorem dX1_prepare_1 : decode cX1_prepare 1 = .ok (.iconst 0, 1) := by decide +kernel
theorem dX1_prepare_2 : decode cX1_prepare 2 = .ok (.putfield 81, 3) := by decide +kernel
theorem dX1_prepare_5 : decode cX1_prepare 5 = .ok (.iconst 0, 1) := by decide +kernel
theorem dX1_prepare_6 : decode cX1_prepare 6 = .ok (.istore_n 2, 1) := by decide +kernel
theorem dX1_prepare_7 : decode cX1_prepare 7 = .ok (.iload_n 2, 1) := by decide +kernel
theorem dX1_prepare_8 : decode cX1_prepare 8 = .ok (.aload_n 0, 1) := by decide +kernel
theorem dX1_prepare_9 : decode cX1_prepare 9 = .ok (.getfield 37, 3) := by decide +kernel
theorem dX1_prepare_12 : decode cX1_prepare 12 = .ok (.getfield 98, 3) := by decide +kernel
theorem dX1_prepare_15 : decode cX1_prepare 15 = .ok (.getfield 102, 3) := by decide +kernel
theorem dX1_prepare_18 : decode cX1_prepare 18 = .ok (.if_icmp .ge 60, 3) := by decide +kernel
theorem dX1_prepare_21 : decode cX1_prepare 21 = .ok (.iload_n 2, 1) := by decide +kernel
theorem dX1_prepare_22 : decode cX1_prepare 22 = .ok (.bipush 12, 2) := by decide +kernel
theorem dX1_prepare_24 : decode cX1_prepare 24 = .ok (.if_icmp .ge 54, 3) := by decide +kernel
theorem dX1_prepare_27 : decode cX1_prepare 27 = .ok (.aload_n 0, 1) := by decide +kernel
theorem dX1_prepare_28 : decode cX1_prepare 28 = .ok (.getfield 37, 3) := by decide +kernel
theorem dX1_prepare_31 : decode cX1_prepare 31 = .ok (.getfield 98, 3) := by decide +kernel
theorem dX1_prepare_34 : decode cX1_prepare 34 = .ok (.getfield 107, 3) := by decide +kernel
theorem dX1_prepare_37 : decode cX1_prepare 37 = .ok (.iload_n 2, 1) := by decide +kernel
theorem dX1_prepare_38 : decode cX1_prepare 38 = .ok (.iaload, 1) := by decide +kernel
theorem dX1_prepare_39 : decode cX1_prepare 39 = .ok (.iload_n 1, 1) := by decide +kernel
theorem dX1_prepare_40 : decode cX1_prepare 40 = .ok (.if_icmp .ne 32, 3) := by decide +kernel
theorem dX1_prepare_43 : decode cX1_prepare 43 = .ok (.aload_n 0, 1) := by decide +kernel
theorem dX1_prepare_44 : decode cX1_prepare 44 = .ok (.getfield 81, 3) := by decide +kernel
theorem dX1_prepare_47 : decode cX1_prepare 47 = .ok (.bipush 6, 2) := by decide +kernel
theorem dX1_prepare_49 : decode cX1_prepare 49 = .ok (.if_icmp .ge 23, 3) := by decide +kernel
theorem dX1_prepare_52 : decode cX1_prepare 52 = .ok (.aload_n 0, 1) := by decide +kernel
theorem dX1_prepare_53 : decode cX1_prepare 53 = .ok (.getfield 9, 3) := by decide +kernel
theorem dX1_prepare_56 : decode cX1_prepare 56 = .ok (.aload_n 0, 1) := by decide +kernel
theorem dX1_prepare_57 : decode cX1_prepare 57 = .ok (.getfield 81, 3) := by decide +kernel
theorem dX1_prepare_60 : decode cX1_prepare 60 = .ok (.iload_n 2, 1) := by decide +kernel
theorem dX1_prepare_61 : decode cX1_prepare 61 = .ok (.iastore, 1) := by decide +kernel
theorem dX1_prepare_62 : decode cX1_prepare 62 = .ok (.aload_n 0, 1) := by decide +kernel
theorem dX1_prepare_63 : decode cX1_prepare 63 = .ok (.dup, 1) := by decide +kernel
theorem dX1_prepare_64 : decode cX1_prepare 64 = .ok (.getfield 81, 3) := by decide +kernel
theorem dX1_prepare_67 : decode cX1_prepare 67 = .ok (.iconst 1, 1) := by decide +kernel
theorem dX1_prepare_68 : decode cX1_prepare 68 = .ok (.iadd, 1) := by decide +kernel
theorem dX1_prepare_69 : decode cX1_prepare 69 = .ok (.putfield 81, 3) := by decide +kernel
theorem dX1_prepare_72 : decode cX1_prepare 72 = .ok (.iinc 2 1, 3) := by decide +kernel
theorem dX1_prepare_75 : decode cX1_prepare 75 = .ok (.goto (-68), 3) := by decide +kernel
theorem dX1_prepare_78 : decode cX1_prepare 78 = .ok (.aload_n 0, 1) := by decide +kernel
theorem dX1_prepare_79 : decode cX1_prepare 79 = .ok (.getfield 37, 3) := by decide +kernel
theorem dX1_prepare_82 : decode cX1_prepare 82 = .ok (.getfield 110, 3) := by decide +kernel
theorem dX1_prepare_85 : decode cX1_prepare 85 = .ok (.getfield 114, 3) := by decide +kernel
theorem dX1_prepare_88 : decode cX1_prepare 88 = .ok (.istore_n 2, 1) := by decide +kernel
theorem dX1_prepare_89 : decode cX1_prepare 89 = .ok (.aload_n 0, 1) := by decide +kernel
theorem dX1_prepare_90 : decode cX1_prepare 90 = .ok (.bipush 30, 2) := by decide +kernel
theorem dX1_prepare_92 : decode cX1_prepare 92 = .ok (.sipush 399, 3) := by decide +kernel
theorem dX1_prepare_95 : decode cX1_prepare 95 = .ok (.iload_n 2, 1) := by decide +kernel
theorem dX1_prepare_96 : decode cX1_prepare 96 = .ok (.isub, 1) := by decide +kernel
theorem dX1_prepare_97 : decode cX1_prepare 97 = .ok (.invokestatic 119, 3) := by decide +kernel
theorem dX1_prepare_100 : decode cX1_prepare 100 = .ok (.putfield 48, 3) := by decide +kernel
theorem dX1_prepare_103 : decode cX1_prepare 103 = .ok (.iconst 0, 1) := by decide +kernel
theorem dX1_prepare_104 : decode cX1_prepare 104 = .ok (.istore_n 3, 1) := by decide +kernel
theorem dX1_prepare_105 : decode cX1_prepare 105 = .ok (.iload_n 3, 1) := by decide +kernel
theorem dX1_prepare_106 : decode cX1_prepare 106 = .ok (.aload_n 0, 1) := by decide +kernel
theorem dX1_prepare_107 : decode cX1_prepare 107 = .ok (.getfield 48, 3) := by decide +kernel
theorem dX1_prepare_110 : decode cX1_prepare 110 = .ok (.if_icmp .gt 102, 3) := by decide +kernel
theorem dX1_prepare_113 : decode cX1_prepare 113 = .ok (.aload_n 0, 1) := by decide +kernel
theorem dX1_prepare_114 : decode cX1_prepare 114 = .ok (.getfield 20, 3) := by decide +kernel
theorem dX1_prepare_117 : decode cX1_prepare 117 = .ok (.iload_n 3, 1) := by decide +kernel
theorem dX1_prepare_118 : decode cX1_prepare 118 = .ok (.aload_n 0, 1) := by decide +kernel
theorem dX1_prepare_119 : decode cX1_prepare 119 = .ok (.getfield 37, 3) := by decide +kernel
theorem dX1_prepare_122 : decode cX1_prepare 122 = .ok (.iload_n 2, 1) := by decide +kernel
theorem dX1_prepare_123 : decode cX1_prepare 123 = .ok (.iload_n 3, 1) := by decide +kernel
theorem dX1_prepare_124 : decode cX1_prepare 124 = .ok (.iadd, 1) := by decide +kernel
theorem dX1_prepare_125 : decode cX1_prepare 125 = .ok (.invokevirtual 125, 3) := by decide +kernel
theorem dX1_prepare_128 : decode cX1_prepare 128 = .ok (.iastore, 1) := by decide +kernel
theorem dX1_prepare_129 : decode cX1_prepare 129 = .ok (.iconst 0, 1) := by decide +kernel
theorem dX1_prepare_130 : decode cX1_prepare 130 = .ok (.istore 4, 2) := by decide +kernel
theorem dX1_prepare_132 : decode cX1_prepare 132 = .ok (.iload 4, 2) := by decide +kernel
theorem dX1_prepare_134 : decode cX1_prepare 134 = .ok (.aload_n 0, 1) := by decide +kernel
theorem dX1_prepare_135 : decode cX1_prepare 135 = .ok (.getfield 81, 3) := by decide +kernel
theorem dX1_prepare_138 : decode cX1_prepare 138 = .ok (.if_icmp .ge 68, 3) := by decide +kernel
theorem dX1_prepare_141 : decode cX1_prepare 141 = .ok (.aload_n 0, 1) := by decide +kernel
theorem dX1_prepare_142 : decode cX1_prepare 142 = .ok (.getfield 37, 3) := by decide +kernel
theorem dX1_prepare_145 : decode cX1_prepare 145 = .ok (.aload_n 0, 1) := by decide +kernel
theorem dX1_prepare_146 : decode cX1_prepare 146 = .ok (.getfield 9, 3) := by decide +kernel
theorem dX1_prepare_149 : decode cX1_prepare 149 = .ok (.iload 4, 2) := by decide +kernel
theorem dX1_prepare_151 : decode cX1_prepare 151 = .ok (.iaload, 1) := by decide +kernel
theorem dX1_prepare_152 : decode cX1_prepare 152 = .ok (.iload_n 2, 1) := by decide +kernel
theorem dX1_prepare_153 : decode cX1_prepare 153 = .ok (.iload_n 3, 1) := by decide +kernel
theorem dX1_prepare_154 : decode cX1_prepare 154 = .ok (.iadd, 1) := by decide +kernel
theorem dX1_prepare_155 : decode cX1_prepare 155 = .ok (.invokevirtual 128, 3) := by decide +kernel
theorem dX1_prepare_158 : decode cX1_prepare 158 = .ok (.istore 5, 2) := by decide +kernel
theorem dX1_prepare_160 : decode cX1_prepare 160 = .ok (.aload_n 0, 1) := by decide +kernel
theorem dX1_prepare_161 : decode cX1_prepare 161 = .ok (.getfield 17, 3) := by decide +kernel
theorem dX1_prepare_164 : decode cX1_prepare 164 = .ok (.iload 4, 2) := by decide +kernel
theorem dX1_prepare_166 : decode cX1_prepare 166 = .ok (.aaload, 1) := by decide +kernel
theorem dX1_prepare_167 : decode cX1_prepare 167 = .ok (.iload_n 3, 1) := by decide +kernel
theorem dX1_prepare_168 : decode cX1_prepare 168 = .ok (.iload 5, 2) := by decide +kernel
theorem dX1_prepare_170 : decode cX1_prepare 170 = .ok (.ifCond .eq 26, 3) := by decide +kernel
theorem dX1_prepare_173 : decode cX1_prepare 173 = .ok (.aload_n 0, 1) := by decide +kernel
theorem dX1_prepare_174 : decode cX1_prepare 174 = .ok (.getfield 37, 3) := by decide +kernel
theorem dX1_prepare_177 : decode cX1_prepare 177 = .ok (.aload_n 0, 1) := by decide +kernel
theorem dX1_prepare_178 : decode cX1_prepare 178 = .ok (.getfield 9, 3) := by decide +kernel
theorem dX1_prepare_181 : decode cX1_prepare 181 = .ok (.iload 4, 2) := by decide +kernel
theorem dX1_prepare_183 : decode cX1_prepare 183 = .ok (.iaload, 1) := by decide +kernel
theorem dX1_prepare_184 : decode cX1_prepare 184 = .ok (.iload_n 2, 1) := by decide +kernel
theorem dX1_prepare_185 : decode cX1_prepare 185 = .ok (.iload_n 3, 1) := by decide +kernel
theorem dX1_prepare_186 : decode cX1_prepare 186 = .ok (.iadd, 1) := by decide +kernel
theorem dX1_prepare_187 : decode cX1_prepare 187 = .ok (.invokevirtual 132, 3) := by decide +kernel
theorem dX1_prepare_190 : decode cX1_prepare 190 = .ok (.i2l, 1) := by decide +kernel
theorem dX1_prepare_191 : decode cX1_prepare 191 = .ok (.iload_n 3, 1) := by decide +kernel
theorem dX1_prepare_192 : decode cX1_prepare 192 = .ok (.lshl, 1) := by decide +kernel
theorem dX1_prepare_193 : decode cX1_prepare 193 = .ok (.goto 6, 3) := by decide +kernel
theorem dX1_prepare_196 : decode cX1_prepare 196 = .ok (.ldc2_w 135, 3) := by decide +kernel
theorem dX1_prepare_199 : decode cX1_prepare 199 = .ok (.lastore, 1) := by decide +kernel
theorem dX1_prepare_200 : decode cX1_prepare 200 = .ok (.iinc 4 1, 3) := by decide +kernel
theorem dX1_prepare_203 : decode cX1_prepare 203 = .ok (.goto (-71), 3) := by decide +kernel
theorem dX1_prepare_206 : decode cX1_prepare 206 = .ok (.iinc 3 1, 3) := by decide +kernel
theorem dX1_prepare_209 : decode cX1_prepare 209 = .ok (.goto (-104), 3) := by decide +kernel
theorem dX1_prepare_212 : decode cX1_prepare 212 = .ok (.aload_n 0, 1) := by decide +kernel
theorem dX1_prepare_213 : decode cX1_prepare 213 = .ok (.aload_n 0, 1) := by decide +kernel
theorem dX1_prepare_214 : decode cX1_prepare 214 = .ok (.getfield 37, 3) := by decide +kernel
theorem dX1_prepare_217 : decode cX1_prepare 217 = .ok (.getfield 98, 3) := by decide +kernel
theorem dX1_prepare_220 : decode cX1_prepare 220 = .ok (.iload_n 1, 1) := by decide +kernel
theorem dX1_prepare_221 : decode cX1_prepare 221 = .ok (.invokevirtual 137, 3) := by decide +kernel
theorem dX1_prepare_224 : decode cX1_prepare 224 = .ok (.ifCond .eq 19, 3) := by decide +kernel
theorem dX1_prepare_227 : decode cX1_prepare 227 = .ok (.aload_n 0, 1) := by decide +kernel
theorem dX1_prepare_228 : decode cX1_prepare 228 = .ok (.getfield 37, 3) := by decide +kernel
theorem dX1_prepare_231 : decode cX1_prepare 231 = .ok (.getfield 110, 3) := by decide +kernel
theorem dX1_prepare_234 : decode cX1_prepare 234 = .ok (.getfield 140, 3) := by decide +kernel
theorem dX1_prepare_237 : decode cX1_prepare 237 = .ok (.iload_n 1, 1) := by decide +kernel
theorem dX1_prepare_238 : decode cX1_prepare 238 = .ok (.iaload, 1) := by decide +kernel
theorem dX1_prepare_239 : decode cX1_prepare 239 = .ok (.i2l, 1) := by decide +kernel
theorem dX1_prepare_240 : decode cX1_prepare 240 = .ok (.goto 4, 3) := by decide +kernel
theorem dX1_prepare_243 : decode cX1_prepare 243 = .ok (.lconst 0, 1) := by decide +kernel
theorem dX1_prepare_244 : decode cX1_prepare 244 = .ok (.putfield 143, 3) := by decide +kernel
theorem dX1_prepare_247 : decode cX1_prepare 247 = .ok (.aload_n 0, 1) := by decide +kernel
theorem dX1_prepare_248 : decode cX1_prepare 248 = .ok (.aload_n 0, 1) := by decide +kernel
theorem dX1_prepare_249 : decode cX1_prepare 249 = .ok (.getfield 37, 3) := by decide +kernel
theorem dX1_prepare_252 : decode cX1_prepare 252 = .ok (.getfield 98, 3) := by decide +kernel
theorem dX1_prepare_255 : decode cX1_prepare 255 = .ok (.iload_n 1, 1) := by decide +kernel
theorem dX1_prepare_256 : decode cX1_prepare 256 = .ok (.invokevirtual 146, 3) := by decide +kernel
theorem dX1_prepare_259 : decode cX1_prepare 259 = .ok (.i2l, 1) := by decide +kernel
theorem dX1_prepare_260 : decode cX1_prepare 260 = .ok (.putfield 70, 3) := by decide +kernel
theorem dX1_prepare_263 : decode cX1_prepare 263 = .ok (.return_, 1) := by decide +kernel
theorem dX1_allOfThem_0 : decode cX1_allOfThem 0 = .ok (.iconst 1, 1) := by decide +kernel
theorem dX1_allOfThem_1 : decode cX1_allOfThem 1 = .ok (.aload_n 0, 1) := by decide +kernel
theorem dX1_allOfThem_2 : decode cX1_allOfThem 2 = .ok (.getfield 81, 3) := by decide +kernel
theorem dX1_allOfThem_5 : decode cX1_allOfThem 5 = .ok (.ishl, 1) := by decide +kernel
theorem dX1_allOfThem_6 : decode cX1_allOfThem 6 = .ok (.iconst 1, 1) := by decide +kernel
theorem dX1_allOfThem_7 : decode cX1_allOfThem 7 = .ok (.isub, 1) := by decide +kernel
theorem dX1_allOfThem_8 : decode cX1_allOfThem 8 = .ok (.ireturn, 1) := by decide +kernel
theorem dX1_clearPlans_0 : decode cX1_clearPlans 0 = .ok (.aload_n 0, 1) := by decide +kernel
theorem dX1_clearPlans_1 : decode cX1_clearPlans 1 = .ok (.getfield 23, 3) := by decide +kernel
theorem dX1_clearPlans_4 : decode cX1_clearPlans 4 = .ok (.ldc2_w 135, 3) := by decide +kernel
theorem dX1_clearPlans_7 : decode cX1_clearPlans 7 = .ok (.invokestatic 149, 3) := by decide +kernel
theorem dX1_clearPlans_10 : decode cX1_clearPlans 10 = .ok (.aload_n 0, 1) := by decide +kernel
theorem dX1_clearPlans_11 : decode cX1_clearPlans 11 = .ok (.getfield 23, 3) := by decide +kernel
theorem dX1_clearPlans_14 : decode cX1_clearPlans 14 = .ok (.iconst 0, 1) := by decide +kernel
theorem dX1_clearPlans_15 : decode cX1_clearPlans 15 = .ok (.lconst 0, 1) := by decide +kernel
theorem dX1_clearPlans_16 : decode cX1_clearPlans 16 = .ok (.lastore, 1) := by decide +kernel
theorem dX1_clearPlans_17 : decode cX1_clearPlans 17 = .ok (.return_, 1) := by decide +kernel
theorem dX1_callOn_0 : decode cX1_callOn 0 = .ok (.aload_n 0, 1) := by decide +kernel
theorem dX1_callOn_1 : decode cX1_callOn 1 = .ok (.iload_n 1, 1) := by decide +kernel
theorem dX1_callOn_2 : decode cX1_callOn 2 = .ok (.invokevirtual 155, 3) := by decide +kernel
theorem dX1_callOn_5 : decode cX1_callOn 5 = .ok (.istore_n 3, 1) := by decide +kernel
theorem dX1_callOn_6 : decode cX1_callOn 6 = .ok (.iload_n 2, 1) := by decide +kernel
theorem dX1_callOn_7 : decode cX1_callOn 7 = .ok (.istore 4, 2) := by decide +kernel
theorem dX1_callOn_9 : decode cX1_callOn 9 = .ok (.iload 4, 2) := by decide +kernel
theorem dX1_callOn_11 : decode cX1_callOn 11 = .ok (.ifCond .le 101, 3) := by decide +kernel
theorem dX1_callOn_14 : decode cX1_callOn 14 = .ok (.iload 4, 2) := by decide +kernel
theorem dX1_callOn_16 : decode cX1_callOn 16 = .ok (.iload_n 3, 1) := by decide +kernel
theorem dX1_callOn_17 : decode cX1_callOn 17 = .ok (.iand, 1) := by decide +kernel
theorem dX1_callOn_18 : decode cX1_callOn 18 = .ok (.istore 5, 2) := by decide +kernel
theorem dX1_callOn_20 : decode cX1_callOn 20 = .ok (.iload 5, 2) := by decide +kernel
theorem dX1_callOn_22 : decode cX1_callOn 22 = .ok (.ifCond .le 79, 3) := by decide +kernel
theorem dX1_callOn_25 : decode cX1_callOn 25 = .ok (.aload_n 0, 1) := by decide +kernel
theorem dX1_callOn_26 : decode cX1_callOn 26 = .ok (.getfield 23, 3) := by decide +kernel
theorem dX1_callOn_29 : decode cX1_callOn 29 = .ok (.iload 4, 2) := by decide +kernel
theorem dX1_callOn_31 : decode cX1_callOn 31 = .ok (.iload 5, 2) := by decide +kernel
theorem dX1_callOn_33 : decode cX1_callOn 33 = .ok (.iconst (-1), 1) := by decide +kernel
theorem dX1_callOn_34 : decode cX1_callOn 34 = .ok (.ixor, 1) := by decide +kernel
theorem dX1_callOn_35 : decode cX1_callOn 35 = .ok (.iand, 1) := by decide +kernel
theorem dX1_callOn_36 : decode cX1_callOn 36 = .ok (.laload, 1) := by decide +kernel
theorem dX1_callOn_37 : decode cX1_callOn 37 = .ok (.lstore 6, 2) := by decide +kernel
theorem dX1_callOn_39 : decode cX1_callOn 39 = .ok (.lload 6, 2) := by decide +kernel
theorem dX1_callOn_41 : decode cX1_callOn 41 = .ok (.lconst 0, 1) := by decide +kernel
theorem dX1_callOn_42 : decode cX1_callOn 42 = .ok (.lcmp, 1) := by decide +kernel
theorem dX1_callOn_43 : decode cX1_callOn 43 = .ok (.ifCond .lt 44, 3) := by decide +kernel
theorem dX1_callOn_46 : decode cX1_callOn 46 = .ok (.iload 5, 2) := by decide +kernel
theorem dX1_callOn_48 : decode cX1_callOn 48 = .ok (.invokestatic 87, 3) := by decide +kernel
theorem dX1_callOn_51 : decode cX1_callOn 51 = .ok (.aload_n 0, 1) := by decide +kernel
theorem dX1_callOn_52 : decode cX1_callOn 52 = .ok (.getfield 20, 3) := by decide +kernel
theorem dX1_callOn_55 : decode cX1_callOn 55 = .ok (.iload_n 1, 1) := by decide +kernel
theorem dX1_callOn_56 : decode cX1_callOn 56 = .ok (.iaload, 1) := by decide +kernel
theorem dX1_callOn_57 : decode cX1_callOn 57 = .ok (.if_icmp .gt 30, 3) := by decide +kernel
theorem dX1_callOn_60 : decode cX1_callOn 60 = .ok (.aload_n 0, 1) := by decide +kernel
theorem dX1_callOn_61 : decode cX1_callOn 61 = .ok (.getfield 23, 3) := by decide +kernel
theorem dX1_callOn_64 : decode cX1_callOn 64 = .ok (.iload 4, 2) := by decide +kernel
theorem dX1_callOn_66 : decode cX1_callOn 66 = .ok (.aload_n 0, 1) := by decide +kernel
theorem dX1_callOn_67 : decode cX1_callOn 67 = .ok (.getfield 23, 3) := by decide +kernel
theorem dX1_callOn_70 : decode cX1_callOn 70 = .ok (.iload 4, 2) := by decide +kernel
theorem dX1_callOn_72 : decode cX1_callOn 72 = .ok (.laload, 1) := by decide +kernel
theorem dX1_callOn_73 : decode cX1_callOn 73 = .ok (.lload 6, 2) := by decide +kernel
theorem dX1_callOn_75 : decode cX1_callOn 75 = .ok (.aload_n 0, 1) := by decide +kernel
theorem dX1_callOn_76 : decode cX1_callOn 76 = .ok (.getfield 27, 3) := by decide +kernel
theorem dX1_callOn_79 : decode cX1_callOn 79 = .ok (.iload 5, 2) := by decide +kernel
theorem dX1_callOn_81 : decode cX1_callOn 81 = .ok (.laload, 1) := by decide +kernel
theorem dX1_callOn_82 : decode cX1_callOn 82 = .ok (.ladd, 1) := by decide +kernel
theorem dX1_callOn_83 : decode cX1_callOn 83 = .ok (.invokestatic 158, 3) := by decide +kernel
theorem dX1_callOn_86 : decode cX1_callOn 86 = .ok (.lastore, 1) := by decide +kernel
theorem dX1_callOn_87 : decode cX1_callOn 87 = .ok (.iload 5, 2) := by decide +kernel
theorem dX1_callOn_89 : decode cX1_callOn 89 = .ok (.iconst 1, 1) := by decide +kernel
theorem dX1_callOn_90 : decode cX1_callOn 90 = .ok (.isub, 1) := by decide +kernel
theorem dX1_callOn_91 : decode cX1_callOn 91 = .ok (.iload 4, 2) := by decide +kernel
theorem dX1_callOn_93 : decode cX1_callOn 93 = .ok (.iand, 1) := by decide +kernel
theorem dX1_callOn_94 : decode cX1_callOn 94 = .ok (.iload_n 3, 1) := by decide +kernel
theorem dX1_callOn_95 : decode cX1_callOn 95 = .ok (.iand, 1) := by decide +kernel
theorem dX1_callOn_96 : decode cX1_callOn 96 = .ok (.istore 5, 2) := by decide +kernel
theorem dX1_callOn_98 : decode cX1_callOn 98 = .ok (.goto (-78), 3) := by decide +kernel
theorem dX1_callOn_101 : decode cX1_callOn 101 = .ok (.iload 4, 2) := by decide +kernel
theorem dX1_callOn_103 : decode cX1_callOn 103 = .ok (.iconst 1, 1) := by decide +kernel
theorem dX1_callOn_104 : decode cX1_callOn 104 = .ok (.isub, 1) := by decide +kernel
theorem dX1_callOn_105 : decode cX1_callOn 105 = .ok (.iload_n 2, 1) := by decide +kernel
theorem dX1_callOn_106 : decode cX1_callOn 106 = .ok (.iand, 1) := by decide +kernel
theorem dX1_callOn_107 : decode cX1_callOn 107 = .ok (.istore 4, 2) := by decide +kernel
theorem dX1_callOn_109 : decode cX1_callOn 109 = .ok (.goto (-100), 3) := by decide +kernel
theorem dX1_callOn_112 : decode cX1_callOn 112 = .ok (.return_, 1) := by decide +kernel
theorem dX1_addUp_0 : decode cX1_addUp 0 = .ok (.iconst 0, 1) := by decide +kernel
theorem dX1_addUp_1 : decode cX1_addUp 1 = .ok (.istore_n 2, 1) := by decide +kernel
theorem dX1_addUp_2 : decode cX1_addUp 2 = .ok (.aload_n 0, 1) := by decide +kernel
theorem dX1_addUp_3 : decode cX1_addUp 3 = .ok (.getfield 27, 3) := by decide +kernel
theorem dX1_addUp_6 : decode cX1_addUp 6 = .ok (.iconst 0, 1) := by decide +kernel
theorem dX1_addUp_7 : decode cX1_addUp 7 = .ok (.lconst 0, 1) := by decide +kernel
theorem dX1_addUp_8 : decode cX1_addUp 8 = .ok (.lastore, 1) := by decide +kernel
theorem dX1_addUp_9 : decode cX1_addUp 9 = .ok (.iconst 0, 1) := by decide +kernel
theorem dX1_addUp_10 : decode cX1_addUp 10 = .ok (.istore_n 3, 1) := by decide +kernel
theorem dX1_addUp_11 : decode cX1_addUp 11 = .ok (.iload_n 3, 1) := by decide +kernel
theorem dX1_addUp_12 : decode cX1_addUp 12 = .ok (.aload_n 0, 1) := by decide +kernel
theorem dX1_addUp_13 : decode cX1_addUp 13 = .ok (.getfield 81, 3) := by decide +kernel
theorem dX1_addUp_16 : decode cX1_addUp 16 = .ok (.if_icmp .ge 74, 3) := by decide +kernel
theorem dX1_addUp_19 : decode cX1_addUp 19 = .ok (.iconst 1, 1) := by decide +kernel
theorem dX1_addUp_20 : decode cX1_addUp 20 = .ok (.iload_n 3, 1) := by decide +kernel
theorem dX1_addUp_21 : decode cX1_addUp 21 = .ok (.ishl, 1) := by decide +kernel
theorem dX1_addUp_22 : decode cX1_addUp 22 = .ok (.istore 4, 2) := by decide +kernel
theorem dX1_addUp_24 : decode cX1_addUp 24 = .ok (.aload_n 0, 1) := by decide +kernel
theorem dX1_addUp_25 : decode cX1_addUp 25 = .ok (.getfield 17, 3) := by decide +kernel
theorem dX1_addUp_28 : decode cX1_addUp 28 = .ok (.iload_n 3, 1) := by decide +kernel
theorem dX1_addUp_29 : decode cX1_addUp 29 = .ok (.aaload, 1) := by decide +kernel
theorem dX1_addUp_30 : decode cX1_addUp 30 = .ok (.iload_n 1, 1) := by decide +kernel
theorem dX1_addUp_31 : decode cX1_addUp 31 = .ok (.laload, 1) := by decide +kernel
theorem dX1_addUp_32 : decode cX1_addUp 32 = .ok (.lconst 0, 1) := by decide +kernel
theorem dX1_addUp_33 : decode cX1_addUp 33 = .ok (.lcmp, 1) := by decide +kernel
theorem dX1_addUp_34 : decode cX1_addUp 34 = .ok (.ifCond .lt 8, 3) := by decide +kernel
theorem dX1_addUp_37 : decode cX1_addUp 37 = .ok (.iload_n 2, 1) := by decide +kernel
theorem dX1_addUp_38 : decode cX1_addUp 38 = .ok (.iload 4, 2) := by decide +kernel
theorem dX1_addUp_40 : decode cX1_addUp 40 = .ok (.ior, 1) := by decide +kernel
theorem dX1_addUp_41 : decode cX1_addUp 41 = .ok (.istore_n 2, 1) := by decide +kernel
theorem dX1_addUp_42 : decode cX1_addUp 42 = .ok (.iconst 0, 1) := by decide +kernel
theorem dX1_addUp_43 : decode cX1_addUp 43 = .ok (.istore 5, 2) := by decide +kernel
theorem dX1_addUp_45 : decode cX1_addUp 45 = .ok (.iload 5, 2) := by decide +kernel
theorem dX1_addUp_47 : decode cX1_addUp 47 = .ok (.iload 4, 2) := by decide +kernel
theorem dX1_addUp_49 : decode cX1_addUp 49 = .ok (.if_icmp .ge 35, 3) := by decide +kernel
theorem dX1_addUp_52 : decode cX1_addUp 52 = .ok (.aload_n 0, 1) := by decide +kernel
theorem dX1_addUp_53 : decode cX1_addUp 53 = .ok (.getfield 27, 3) := by decide +kernel
theorem dX1_addUp_56 : decode cX1_addUp 56 = .ok (.iload 5, 2) := by decide +kernel
theorem dX1_addUp_58 : decode cX1_addUp 58 = .ok (.iload 4, 2) := by decide +kernel
theorem dX1_addUp_60 : decode cX1_addUp 60 = .ok (.ior, 1) := by decide +kernel
theorem dX1_addUp_61 : decode cX1_addUp 61 = .ok (.aload_n 0, 1) := by decide +kernel
theorem dX1_addUp_62 : decode cX1_addUp 62 = .ok (.getfield 27, 3) := by decide +kernel
theorem dX1_addUp_65 : decode cX1_addUp 65 = .ok (.iload 5, 2) := by decide +kernel
theorem dX1_addUp_67 : decode cX1_addUp 67 = .ok (.laload, 1) := by decide +kernel
theorem dX1_addUp_68 : decode cX1_addUp 68 = .ok (.aload_n 0, 1) := by decide +kernel
theorem dX1_addUp_69 : decode cX1_addUp 69 = .ok (.getfield 17, 3) := by decide +kernel
theorem dX1_addUp_72 : decode cX1_addUp 72 = .ok (.iload_n 3, 1) := by decide +kernel
theorem dX1_addUp_73 : decode cX1_addUp 73 = .ok (.aaload, 1) := by decide +kernel
theorem dX1_addUp_74 : decode cX1_addUp 74 = .ok (.iload_n 1, 1) := by decide +kernel
theorem dX1_addUp_75 : decode cX1_addUp 75 = .ok (.laload, 1) := by decide +kernel
theorem dX1_addUp_76 : decode cX1_addUp 76 = .ok (.ladd, 1) := by decide +kernel
theorem dX1_addUp_77 : decode cX1_addUp 77 = .ok (.lastore, 1) := by decide +kernel
theorem dX1_addUp_78 : decode cX1_addUp 78 = .ok (.iinc 5 1, 3) := by decide +kernel
theorem dX1_addUp_81 : decode cX1_addUp 81 = .ok (.goto (-36), 3) := by decide +kernel
theorem dX1_addUp_84 : decode cX1_addUp 84 = .ok (.iinc 3 1, 3) := by decide +kernel
theorem dX1_addUp_87 : decode cX1_addUp 87 = .ok (.goto (-76), 3) := by decide +kernel
theorem dX1_addUp_90 : decode cX1_addUp 90 = .ok (.aload_n 0, 1) := by decide +kernel
theorem dX1_addUp_91 : decode cX1_addUp 91 = .ok (.getfield 20, 3) := by decide +kernel
theorem dX1_addUp_94 : decode cX1_addUp 94 = .ok (.iload_n 1, 1) := by decide +kernel
theorem dX1_addUp_95 : decode cX1_addUp 95 = .ok (.iaload, 1) := by decide +kernel
theorem dX1_addUp_96 : decode cX1_addUp 96 = .ok (.ifCond .le 7, 3) := by decide +kernel
theorem dX1_addUp_99 : decode cX1_addUp 99 = .ok (.iload_n 2, 1) := by decide +kernel
theorem dX1_addUp_100 : decode cX1_addUp 100 = .ok (.goto 4, 3) := by decide +kernel
theorem dX1_addUp_103 : decode cX1_addUp 103 = .ok (.iconst 0, 1) := by decide +kernel
theorem dX1_addUp_104 : decode cX1_addUp 104 = .ok (.ireturn, 1) := by decide +kernel
theorem dX1_greatest_0 : decode cX1_greatest 0 = .ok (.lconst 0, 1) := by decide +kernel
theorem dX1_greatest_1 : decode cX1_greatest 1 = .ok (.lstore_n 1, 1) := by decide +kernel
theorem dX1_greatest_2 : decode cX1_greatest 2 = .ok (.iconst 0, 1) := by decide +kernel
theorem dX1_greatest_3 : decode cX1_greatest 3 = .ok (.istore_n 3, 1) := by decide +kernel
theorem dX1_greatest_4 : decode cX1_greatest 4 = .ok (.iload_n 3, 1) := by decide +kernel
theorem dX1_greatest_5 : decode cX1_greatest 5 = .ok (.aload_n 0, 1) := by decide +kernel
theorem dX1_greatest_6 : decode cX1_greatest 6 = .ok (.invokevirtual 52, 3) := by decide +kernel
theorem dX1_greatest_9 : decode cX1_greatest 9 = .ok (.if_icmp .gt 20, 3) := by decide +kernel
theorem dX1_greatest_12 : decode cX1_greatest 12 = .ok (.lload_n 1, 1) := by decide +kernel
theorem dX1_greatest_13 : decode cX1_greatest 13 = .ok (.aload_n 0, 1) := by decide +kernel
theorem dX1_greatest_14 : decode cX1_greatest 14 = .ok (.getfield 23, 3) := by decide +kernel
theorem dX1_greatest_17 : decode cX1_greatest 17 = .ok (.iload_n 3, 1) := by decide +kernel
theorem dX1_greatest_18 : decode cX1_greatest 18 = .ok (.laload, 1) := by decide +kernel
theorem dX1_greatest_19 : decode cX1_greatest 19 = .ok (.invokestatic 158, 3) := by decide +kernel
theorem dX1_greatest_22 : decode cX1_greatest 22 = .ok (.lstore_n 1, 1) := by decide +kernel
theorem dX1_greatest_23 : decode cX1_greatest 23 = .ok (.iinc 3 1, 3) := by decide +kernel
theorem dX1_greatest_26 : decode cX1_greatest 26 = .ok (.goto (-22), 3) := by decide +kernel
theorem dX1_greatest_29 : decode cX1_greatest 29 = .ok (.aload_n 0, 1) := by decide +kernel
theorem dX1_greatest_30 : decode cX1_greatest 30 = .ok (.getfield 143, 3) := by decide +kernel
theorem dX1_greatest_33 : decode cX1_greatest 33 = .ok (.lload_n 1, 1) := by decide +kernel
theorem dX1_greatest_34 : decode cX1_greatest 34 = .ok (.ladd, 1) := by decide +kernel
theorem dX1_greatest_35 : decode cX1_greatest 35 = .ok (.lreturn, 1) := by decide +kernel
theorem dX1_suffices_0 : decode cX1_suffices 0 = .ok (.aload_n 0, 1) := by decide +kernel
theorem dX1_suffices_1 : decode cX1_suffices 1 = .ok (.getfield 143, 3) := by decide +kernel
theorem dX1_suffices_4 : decode cX1_suffices 4 = .ok (.lload_n 1, 1) := by decide +kernel
theorem dX1_suffices_5 : decode cX1_suffices 5 = .ok (.ladd, 1) := by decide +kernel
theorem dX1_suffices_6 : decode cX1_suffices 6 = .ok (.aload_n 0, 1) := by decide +kernel
theorem dX1_suffices_7 : decode cX1_suffices 7 = .ok (.getfield 70, 3) := by decide +kernel
theorem dX1_suffices_10 : decode cX1_suffices 10 = .ok (.iload_n 3, 1) := by decide +kernel
theorem dX1_suffices_11 : decode cX1_suffices 11 = .ok (.lshl, 1) := by decide +kernel
theorem dX1_suffices_12 : decode cX1_suffices 12 = .ok (.lcmp, 1) := by decide +kernel
theorem dX1_suffices_13 : decode cX1_suffices 13 = .ok (.ifCond .lt 7, 3) := by decide +kernel
theorem dX1_suffices_16 : decode cX1_suffices 16 = .ok (.iconst 1, 1) := by decide +kernel
theorem dX1_suffices_17 : decode cX1_suffices 17 = .ok (.goto 4, 3) := by decide +kernel
theorem dX1_suffices_20 : decode cX1_suffices 20 = .ok (.iconst 0, 1) := by decide +kernel
theorem dX1_suffices_21 : decode cX1_suffices 21 = .ok (.ireturn, 1) := by decide +kernel
theorem dX1_fewestSpeakers_0 : decode cX1_fewestSpeakers 0 = .ok (.iconst (-1), 1) := by decide +kernel
theorem dX1_fewestSpeakers_1 : decode cX1_fewestSpeakers 1 = .ok (.istore_n 2, 1) := by decide +kernel
theorem dX1_fewestSpeakers_2 : decode cX1_fewestSpeakers 2 = .ok (.iconst 0, 1) := by decide +kernel
theorem dX1_fewestSpeakers_3 : decode cX1_fewestSpeakers 3 = .ok (.istore_n 3, 1) := by decide +kernel
theorem dX1_fewestSpeakers_4 : decode cX1_fewestSpeakers 4 = .ok (.iload_n 3, 1) := by decide +kernel
theorem dX1_fewestSpeakers_5 : decode cX1_fewestSpeakers 5 = .ok (.aload_n 0, 1) := by decide +kernel
theorem dX1_fewestSpeakers_6 : decode cX1_fewestSpeakers 6 = .ok (.invokevirtual 52, 3) := by decide +kernel
theorem dX1_fewestSpeakers_9 : decode cX1_fewestSpeakers 9 = .ok (.if_icmp .gt 64, 3) := by decide +kernel
theorem dX1_fewestSpeakers_12 : decode cX1_fewestSpeakers 12 = .ok (.iload_n 2, 1) := by decide +kernel
theorem dX1_fewestSpeakers_13 : decode cX1_fewestSpeakers 13 = .ok (.iconst (-1), 1) := by decide +kernel
theorem dX1_fewestSpeakers_14 : decode cX1_fewestSpeakers 14 = .ok (.if_icmp .eq 14, 3) := by decide +kernel
theorem dX1_fewestSpeakers_17 : decode cX1_fewestSpeakers 17 = .ok (.iload_n 3, 1) := by decide +kernel
theorem dX1_fewestSpeakers_18 : decode cX1_fewestSpeakers 18 = .ok (.invokestatic 87, 3) := by decide +kernel
theorem dX1_fewestSpeakers_21 : decode cX1_fewestSpeakers 21 = .ok (.iload_n 2, 1) := by decide +kernel
theorem dX1_fewestSpeakers_22 : decode cX1_fewestSpeakers 22 = .ok (.invokestatic 87, 3) := by decide +kernel
theorem dX1_fewestSpeakers_25 : decode cX1_fewestSpeakers 25 = .ok (.if_icmp .ge 7, 3) := by decide +kernel
theorem dX1_fewestSpeakers_28 : decode cX1_fewestSpeakers 28 = .ok (.iconst 1, 1) := by decide +kernel
theorem dX1_fewestSpeakers_29 : decode cX1_fewestSpeakers 29 = .ok (.goto 4, 3) := by decide +kernel
theorem dX1_fewestSpeakers_32 : decode cX1_fewestSpeakers 32 = .ok (.iconst 0, 1) := by decide +kernel
theorem dX1_fewestSpeakers_33 : decode cX1_fewestSpeakers 33 = .ok (.istore 4, 2) := by decide +kernel
theorem dX1_fewestSpeakers_35 : decode cX1_fewestSpeakers 35 = .ok (.iload 4, 2) := by decide +kernel
theorem dX1_fewestSpeakers_37 : decode cX1_fewestSpeakers 37 = .ok (.ifCond .eq 30, 3) := by decide +kernel
theorem dX1_fewestSpeakers_40 : decode cX1_fewestSpeakers 40 = .ok (.aload_n 0, 1) := by decide +kernel
theorem dX1_fewestSpeakers_41 : decode cX1_fewestSpeakers 41 = .ok (.getfield 23, 3) := by decide +kernel
theorem dX1_fewestSpeakers_44 : decode cX1_fewestSpeakers 44 = .ok (.iload_n 3, 1) := by decide +kernel
theorem dX1_fewestSpeakers_45 : decode cX1_fewestSpeakers 45 = .ok (.laload, 1) := by decide +kernel
theorem dX1_fewestSpeakers_46 : decode cX1_fewestSpeakers 46 = .ok (.lconst 0, 1) := by decide +kernel
theorem dX1_fewestSpeakers_47 : decode cX1_fewestSpeakers 47 = .ok (.lcmp, 1) := by decide +kernel
theorem dX1_fewestSpeakers_48 : decode cX1_fewestSpeakers 48 = .ok (.ifCond .lt 19, 3) := by decide +kernel
theorem dX1_fewestSpeakers_51 : decode cX1_fewestSpeakers 51 = .ok (.aload_n 0, 1) := by decide +kernel
theorem dX1_fewestSpeakers_52 : decode cX1_fewestSpeakers 52 = .ok (.aload_n 0, 1) := by decide +kernel
theorem dX1_fewestSpeakers_53 : decode cX1_fewestSpeakers 53 = .ok (.getfield 23, 3) := by decide +kernel
theorem dX1_fewestSpeakers_56 : decode cX1_fewestSpeakers 56 = .ok (.iload_n 3, 1) := by decide +kernel
theorem dX1_fewestSpeakers_57 : decode cX1_fewestSpeakers 57 = .ok (.laload, 1) := by decide +kernel
theorem dX1_fewestSpeakers_58 : decode cX1_fewestSpeakers 58 = .ok (.iload_n 1, 1) := by decide +kernel
theorem dX1_fewestSpeakers_59 : decode cX1_fewestSpeakers 59 = .ok (.invokevirtual 162, 3) := by decide +kernel
theorem dX1_fewestSpeakers_62 : decode cX1_fewestSpeakers 62 = .ok (.ifCond .eq 5, 3) := by decide +kernel
theorem dX1_fewestSpeakers_65 : decode cX1_fewestSpeakers 65 = .ok (.iload_n 3, 1) := by decide +kernel
theorem dX1_fewestSpeakers_66 : decode cX1_fewestSpeakers 66 = .ok (.istore_n 2, 1) := by decide +kernel
theorem dX1_fewestSpeakers_67 : decode cX1_fewestSpeakers 67 = .ok (.iinc 3 1, 3) := by decide +kernel
theorem dX1_fewestSpeakers_70 : decode cX1_fewestSpeakers 70 = .ok (.goto (-66), 3) := by decide +kernel
theorem dX1_fewestSpeakers_73 : decode cX1_fewestSpeakers 73 = .ok (.iconst 0, 1) := by decide +kernel
theorem dX1_fewestSpeakers_74 : decode cX1_fewestSpeakers 74 = .ok (.iload_n 2, 1) := by decide +kernel
theorem dX1_fewestSpeakers_75 : decode cX1_fewestSpeakers 75 = .ok (.invokestatic 166, 3) := by decide +kernel
theorem dX1_fewestSpeakers_78 : decode cX1_fewestSpeakers 78 = .ok (.ireturn, 1) := by decide +kernel
theorem dX1_setDays_0 : decode cX1_setDays 0 = .ok (.lconst 0, 1) := by decide +kernel
theorem dX1_setDays_1 : decode cX1_setDays 1 = .ok (.lstore_n 3, 1) := by decide +kernel
theorem dX1_setDays_2 : decode cX1_setDays 2 = .ok (.iload_n 2, 1) := by decide +kernel
theorem dX1_setDays_3 : decode cX1_setDays 3 = .ok (.istore 5, 2) := by decide +kernel
theorem dX1_setDays_5 : decode cX1_setDays 5 = .ok (.iconst 0, 1) := by decide +kernel
theorem dX1_setDays_6 : decode cX1_setDays 6 = .ok (.istore 6, 2) := by decide +kernel
theorem dX1_setDays_8 : decode cX1_setDays 8 = .ok (.iload 6, 2) := by decide +kernel
theorem dX1_setDays_10 : decode cX1_setDays 10 = .ok (.aload_n 0, 1) := by decide +kernel
theorem dX1_setDays_11 : decode cX1_setDays 11 = .ok (.getfield 81, 3) := by decide +kernel
theorem dX1_setDays_14 : decode cX1_setDays 14 = .ok (.if_icmp .ge 147, 3) := by decide +kernel
theorem dX1_setDays_17 : decode cX1_setDays 17 = .ok (.aload_n 0, 1) := by decide +kernel
theorem dX1_setDays_18 : decode cX1_setDays 18 = .ok (.getfield 34, 3) := by decide +kernel
theorem dX1_setDays_21 : decode cX1_setDays 21 = .ok (.iload 6, 2) := by decide +kernel
theorem dX1_setDays_23 : decode cX1_setDays 23 = .ok (.iconst (-1), 1) := by decide +kernel
theorem dX1_setDays_24 : decode cX1_setDays 24 = .ok (.iastore, 1) := by decide +kernel
theorem dX1_setDays_25 : decode cX1_setDays 25 = .ok (.iload_n 2, 1) := by decide +kernel
theorem dX1_setDays_26 : decode cX1_setDays 26 = .ok (.iload 6, 2) := by decide +kernel
theorem dX1_setDays_28 : decode cX1_setDays 28 = .ok (.ishr, 1) := by decide +kernel
theorem dX1_setDays_29 : decode cX1_setDays 29 = .ok (.iconst 1, 1) := by decide +kernel
theorem dX1_setDays_30 : decode cX1_setDays 30 = .ok (.iand, 1) := by decide +kernel
theorem dX1_setDays_31 : decode cX1_setDays 31 = .ok (.ifCond .ne 6, 3) := by decide +kernel
theorem dX1_setDays_34 : decode cX1_setDays 34 = .ok (.goto 121, 3) := by decide +kernel
theorem dX1_setDays_37 : decode cX1_setDays 37 = .ok (.iload 5, 2) := by decide +kernel
theorem dX1_setDays_39 : decode cX1_setDays 39 = .ok (.iconst 1, 1) := by decide +kernel
theorem dX1_setDays_40 : decode cX1_setDays 40 = .ok (.iload 6, 2) := by decide +kernel
theorem dX1_setDays_42 : decode cX1_setDays 42 = .ok (.ishl, 1) := by decide +kernel
theorem dX1_setDays_43 : decode cX1_setDays 43 = .ok (.iconst (-1), 1) := by decide +kernel
theorem dX1_setDays_44 : decode cX1_setDays 44 = .ok (.ixor, 1) := by decide +kernel
theorem dX1_setDays_45 : decode cX1_setDays 45 = .ok (.iand, 1) := by decide +kernel
theorem dX1_setDays_46 : decode cX1_setDays 46 = .ok (.istore 5, 2) := by decide +kernel
theorem dX1_setDays_48 : decode cX1_setDays 48 = .ok (.iload_n 1, 1) := by decide +kernel
theorem dX1_setDays_49 : decode cX1_setDays 49 = .ok (.istore 7, 2) := by decide +kernel
theorem dX1_setDays_51 : decode cX1_setDays 51 = .ok (.iload 7, 2) := by decide +kernel
theorem dX1_setDays_53 : decode cX1_setDays 53 = .ok (.ifCond .lt 102, 3) := by decide +kernel
theorem dX1_setDays_56 : decode cX1_setDays 56 = .ok (.aload_n 0, 1) := by decide +kernel
theorem dX1_setDays_57 : decode cX1_setDays 57 = .ok (.getfield 34, 3) := by decide +kernel
theorem dX1_setDays_60 : decode cX1_setDays 60 = .ok (.iload 6, 2) := by decide +kernel
theorem dX1_setDays_62 : decode cX1_setDays 62 = .ok (.iaload, 1) := by decide +kernel
theorem dX1_setDays_63 : decode cX1_setDays 63 = .ok (.iconst (-1), 1) := by decide +kernel
theorem dX1_setDays_64 : decode cX1_setDays 64 = .ok (.if_icmp .ne 91, 3) := by decide +kernel
theorem dX1_setDays_67 : decode cX1_setDays 67 = .ok (.aload_n 0, 1) := by decide +kernel
theorem dX1_setDays_68 : decode cX1_setDays 68 = .ok (.getfield 17, 3) := by decide +kernel
theorem dX1_setDays_71 : decode cX1_setDays 71 = .ok (.iload 6, 2) := by decide +kernel
theorem dX1_setDays_73 : decode cX1_setDays 73 = .ok (.aaload, 1) := by decide +kernel
theorem dX1_setDays_74 : decode cX1_setDays 74 = .ok (.iload 7, 2) := by decide +kernel
theorem dX1_setDays_76 : decode cX1_setDays 76 = .ok (.laload, 1) := by decide +kernel
theorem dX1_setDays_77 : decode cX1_setDays 77 = .ok (.lconst 0, 1) := by decide +kernel
theorem dX1_setDays_78 : decode cX1_setDays 78 = .ok (.lcmp, 1) := by decide +kernel
theorem dX1_setDays_79 : decode cX1_setDays 79 = .ok (.ifCond .lt 70, 3) := by decide +kernel
theorem dX1_setDays_82 : decode cX1_setDays 82 = .ok (.aload_n 0, 1) := by decide +kernel
theorem dX1_setDays_83 : decode cX1_setDays 83 = .ok (.getfield 20, 3) := by decide +kernel
theorem dX1_setDays_86 : decode cX1_setDays 86 = .ok (.iload 7, 2) := by decide +kernel
theorem dX1_setDays_88 : decode cX1_setDays 88 = .ok (.iaload, 1) := by decide +kernel
theorem dX1_setDays_89 : decode cX1_setDays 89 = .ok (.ifCond .le 60, 3) := by decide +kernel
theorem dX1_setDays_92 : decode cX1_setDays 92 = .ok (.aload_n 0, 1) := by decide +kernel
theorem dX1_setDays_93 : decode cX1_setDays 93 = .ok (.iload_n 1, 1) := by decide +kernel
theorem dX1_setDays_94 : decode cX1_setDays 94 = .ok (.iload 7, 2) := by decide +kernel
theorem dX1_setDays_96 : decode cX1_setDays 96 = .ok (.iload 5, 2) := by decide +kernel
theorem dX1_setDays_98 : decode cX1_setDays 98 = .ok (.lload_n 3, 1) := by decide +kernel
theorem dX1_setDays_99 : decode cX1_setDays 99 = .ok (.aload_n 0, 1) := by decide +kernel
theorem dX1_setDays_100 : decode cX1_setDays 100 = .ok (.getfield 17, 3) := by decide +kernel
theorem dX1_setDays_103 : decode cX1_setDays 103 = .ok (.iload 6, 2) := by decide +kernel
theorem dX1_setDays_105 : decode cX1_setDays 105 = .ok (.aaload, 1) := by decide +kernel
theorem dX1_setDays_106 : decode cX1_setDays 106 = .ok (.iload 7, 2) := by decide +kernel
theorem dX1_setDays_108 : decode cX1_setDays 108 = .ok (.laload, 1) := by decide +kernel
theorem dX1_setDays_109 : decode cX1_setDays 109 = .ok (.ladd, 1) := by decide +kernel
theorem dX1_setDays_110 : decode cX1_setDays 110 = .ok (.invokevirtual 168, 3) := by decide +kernel
theorem dX1_setDays_113 : decode cX1_setDays 113 = .ok (.ifCond .eq 36, 3) := by decide +kernel
theorem dX1_setDays_116 : decode cX1_setDays 116 = .ok (.aload_n 0, 1) := by decide +kernel
theorem dX1_setDays_117 : decode cX1_setDays 117 = .ok (.getfield 34, 3) := by decide +kernel
theorem dX1_setDays_120 : decode cX1_setDays 120 = .ok (.iload 6, 2) := by decide +kernel
theorem dX1_setDays_122 : decode cX1_setDays 122 = .ok (.iload 7, 2) := by decide +kernel
theorem dX1_setDays_124 : decode cX1_setDays 124 = .ok (.iastore, 1) := by decide +kernel
theorem dX1_setDays_125 : decode cX1_setDays 125 = .ok (.lload_n 3, 1) := by decide +kernel
theorem dX1_setDays_126 : decode cX1_setDays 126 = .ok (.aload_n 0, 1) := by decide +kernel
theorem dX1_setDays_127 : decode cX1_setDays 127 = .ok (.getfield 17, 3) := by decide +kernel
theorem dX1_setDays_130 : decode cX1_setDays 130 = .ok (.iload 6, 2) := by decide +kernel
theorem dX1_setDays_132 : decode cX1_setDays 132 = .ok (.aaload, 1) := by decide +kernel
theorem dX1_setDays_133 : decode cX1_setDays 133 = .ok (.iload 7, 2) := by decide +kernel
theorem dX1_setDays_135 : decode cX1_setDays 135 = .ok (.laload, 1) := by decide +kernel
theorem dX1_setDays_136 : decode cX1_setDays 136 = .ok (.ladd, 1) := by decide +kernel
theorem dX1_setDays_137 : decode cX1_setDays 137 = .ok (.lstore_n 3, 1) := by decide +kernel
theorem dX1_setDays_138 : decode cX1_setDays 138 = .ok (.aload_n 0, 1) := by decide +kernel
theorem dX1_setDays_139 : decode cX1_setDays 139 = .ok (.getfield 20, 3) := by decide +kernel
theorem dX1_setDays_142 : decode cX1_setDays 142 = .ok (.iload 7, 2) := by decide +kernel
theorem dX1_setDays_144 : decode cX1_setDays 144 = .ok (.dup2, 1) := by decide +kernel
theorem dX1_setDays_145 : decode cX1_setDays 145 = .ok (.iaload, 1) := by decide +kernel
theorem dX1_setDays_146 : decode cX1_setDays 146 = .ok (.iconst 1, 1) := by decide +kernel
theorem dX1_setDays_147 : decode cX1_setDays 147 = .ok (.isub, 1) := by decide +kernel
theorem dX1_setDays_148 : decode cX1_setDays 148 = .ok (.iastore, 1) := by decide +kernel
theorem dX1_setDays_149 : decode cX1_setDays 149 = .ok (.iinc 7 (-1), 3) := by decide +kernel
theorem dX1_setDays_152 : decode cX1_setDays 152 = .ok (.goto (-101), 3) := by decide +kernel
theorem dX1_setDays_155 : decode cX1_setDays 155 = .ok (.iinc 6 1, 3) := by decide +kernel
theorem dX1_setDays_158 : decode cX1_setDays 158 = .ok (.goto (-150), 3) := by decide +kernel
theorem dX1_setDays_161 : decode cX1_setDays 161 = .ok (.return_, 1) := by decide +kernel
theorem dX1_othersMakeUp_0 : decode cX1_othersMakeUp 0 = .ok (.aload_n 0, 1) := by decide +kernel
theorem dX1_othersMakeUp_1 : decode cX1_othersMakeUp 1 = .ok (.invokevirtual 45, 3) := by decide +kernel
theorem dX1_othersMakeUp_4 : decode cX1_othersMakeUp 4 = .ok (.aload_n 0, 1) := by decide +kernel
theorem dX1_othersMakeUp_5 : decode cX1_othersMakeUp 5 = .ok (.getfield 20, 3) := by decide +kernel
theorem dX1_othersMakeUp_8 : decode cX1_othersMakeUp 8 = .ok (.iload_n 2, 1) := by decide +kernel
theorem dX1_othersMakeUp_9 : decode cX1_othersMakeUp 9 = .ok (.dup2, 1) := by decide +kernel
theorem dX1_othersMakeUp_10 : decode cX1_othersMakeUp 10 = .ok (.iaload, 1) := by decide +kernel
theorem dX1_othersMakeUp_11 : decode cX1_othersMakeUp 11 = .ok (.iconst 1, 1) := by decide +kernel
theorem dX1_othersMakeUp_12 : decode cX1_othersMakeUp 12 = .ok (.isub, 1) := by decide +kernel
theorem dX1_othersMakeUp_13 : decode cX1_othersMakeUp 13 = .ok (.iastore, 1) := by decide +kernel
theorem dX1_othersMakeUp_14 : decode cX1_othersMakeUp 14 = .ok (.iconst 0, 1) := by decide +kernel
theorem dX1_othersMakeUp_15 : decode cX1_othersMakeUp 15 = .ok (.istore 6, 2) := by decide +kernel
theorem dX1_othersMakeUp_17 : decode cX1_othersMakeUp 17 = .ok (.iload 6, 2) := by decide +kernel
theorem dX1_othersMakeUp_19 : decode cX1_othersMakeUp 19 = .ok (.iload_n 1, 1) := by decide +kernel
theorem dX1_othersMakeUp_20 : decode cX1_othersMakeUp 20 = .ok (.if_icmp .gt 16, 3) := by decide +kernel
theorem dX1_othersMakeUp_23 : decode cX1_othersMakeUp 23 = .ok (.aload_n 0, 1) := by decide +kernel
theorem dX1_othersMakeUp_24 : decode cX1_othersMakeUp 24 = .ok (.iload 6, 2) := by decide +kernel
theorem dX1_othersMakeUp_26 : decode cX1_othersMakeUp 26 = .ok (.iload_n 3, 1) := by decide +kernel
theorem dX1_othersMakeUp_27 : decode cX1_othersMakeUp 27 = .ok (.invokevirtual 56, 3) := by decide +kernel
theorem dX1_othersMakeUp_30 : decode cX1_othersMakeUp 30 = .ok (.iinc 6 1, 3) := by decide +kernel
theorem dX1_othersMakeUp_33 : decode cX1_othersMakeUp 33 = .ok (.goto (-16), 3) := by decide +kernel
theorem dX1_othersMakeUp_36 : decode cX1_othersMakeUp 36 = .ok (.aload_n 0, 1) := by decide +kernel
theorem dX1_othersMakeUp_37 : decode cX1_othersMakeUp 37 = .ok (.getfield 20, 3) := by decide +kernel
theorem dX1_othersMakeUp_40 : decode cX1_othersMakeUp 40 = .ok (.iload_n 2, 1) := by decide +kernel
theorem dX1_othersMakeUp_41 : decode cX1_othersMakeUp 41 = .ok (.dup2, 1) := by decide +kernel
theorem dX1_othersMakeUp_42 : decode cX1_othersMakeUp 42 = .ok (.iaload, 1) := by decide +kernel
theorem dX1_othersMakeUp_43 : decode cX1_othersMakeUp 43 = .ok (.iconst 1, 1) := by decide +kernel
theorem dX1_othersMakeUp_44 : decode cX1_othersMakeUp 44 = .ok (.iadd, 1) := by decide +kernel
theorem dX1_othersMakeUp_45 : decode cX1_othersMakeUp 45 = .ok (.iastore, 1) := by decide +kernel
theorem dX1_othersMakeUp_46 : decode cX1_othersMakeUp 46 = .ok (.aload_n 0, 1) := by decide +kernel
theorem dX1_othersMakeUp_47 : decode cX1_othersMakeUp 47 = .ok (.getfield 23, 3) := by decide +kernel
theorem dX1_othersMakeUp_50 : decode cX1_othersMakeUp 50 = .ok (.iload_n 3, 1) := by decide +kernel
theorem dX1_othersMakeUp_51 : decode cX1_othersMakeUp 51 = .ok (.laload, 1) := by decide +kernel
theorem dX1_othersMakeUp_52 : decode cX1_othersMakeUp 52 = .ok (.lconst 0, 1) := by decide +kernel
theorem dX1_othersMakeUp_53 : decode cX1_othersMakeUp 53 = .ok (.lcmp, 1) := by decide +kernel
theorem dX1_othersMakeUp_54 : decode cX1_othersMakeUp 54 = .ok (.ifCond .lt 24, 3) := by decide +kernel
theorem dX1_othersMakeUp_57 : decode cX1_othersMakeUp 57 = .ok (.aload_n 0, 1) := by decide +kernel
theorem dX1_othersMakeUp_58 : decode cX1_othersMakeUp 58 = .ok (.lload 4, 2) := by decide +kernel
theorem dX1_othersMakeUp_60 : decode cX1_othersMakeUp 60 = .ok (.aload_n 0, 1) := by decide +kernel
theorem dX1_othersMakeUp_61 : decode cX1_othersMakeUp 61 = .ok (.getfield 23, 3) := by decide +kernel
theorem dX1_othersMakeUp_64 : decode cX1_othersMakeUp 64 = .ok (.iload_n 3, 1) := by decide +kernel
theorem dX1_othersMakeUp_65 : decode cX1_othersMakeUp 65 = .ok (.laload, 1) := by decide +kernel
theorem dX1_othersMakeUp_66 : decode cX1_othersMakeUp 66 = .ok (.ladd, 1) := by decide +kernel
theorem dX1_othersMakeUp_67 : decode cX1_othersMakeUp 67 = .ok (.iload_n 1, 1) := by decide +kernel
theorem dX1_othersMakeUp_68 : decode cX1_othersMakeUp 68 = .ok (.invokevirtual 162, 3) := by decide +kernel
theorem dX1_othersMakeUp_71 : decode cX1_othersMakeUp 71 = .ok (.ifCond .eq 7, 3) := by decide +kernel
theorem dX1_othersMakeUp_74 : decode cX1_othersMakeUp 74 = .ok (.iconst 1, 1) := by decide +kernel
theorem dX1_othersMakeUp_75 : decode cX1_othersMakeUp 75 = .ok (.goto 4, 3) := by decide +kernel
theorem dX1_othersMakeUp_78 : decode cX1_othersMakeUp 78 = .ok (.iconst 0, 1) := by decide +kernel
theorem dX1_othersMakeUp_79 : decode cX1_othersMakeUp 79 = .ok (.ireturn, 1) := by decide +kernel
theorem dX1_findWins_0 : decode cX1_findWins 0 = .ok (.aload_n 0, 1) := by decide +kernel
theorem dX1_findWins_1 : decode cX1_findWins 1 = .ok (.invokevirtual 45, 3) := by decide +kernel
theorem dX1_findWins_4 : decode cX1_findWins 4 = .ok (.iconst 0, 1) := by decide +kernel
theorem dX1_findWins_5 : decode cX1_findWins 5 = .ok (.istore_n 1, 1) := by decide +kernel
theorem dX1_findWins_6 : decode cX1_findWins 6 = .ok (.iload_n 1, 1) := by decide +kernel
theorem dX1_findWins_7 : decode cX1_findWins 7 = .ok (.bipush 64, 2) := by decide +kernel
theorem dX1_findWins_9 : decode cX1_findWins 9 = .ok (.if_icmp .ge 16, 3) := by decide +kernel
theorem dX1_findWins_12 : decode cX1_findWins 12 = .ok (.aload_n 0, 1) := by decide +kernel
theorem dX1_findWins_13 : decode cX1_findWins 13 = .ok (.getfield 30, 3) := by decide +kernel
theorem dX1_findWins_16 : decode cX1_findWins 16 = .ok (.iload_n 1, 1) := by decide +kernel
theorem dX1_findWins_17 : decode cX1_findWins 17 = .ok (.iconst 0, 1) := by decide +kernel
theorem dX1_findWins_18 : decode cX1_findWins 18 = .ok (.bastore, 1) := by decide +kernel
theorem dX1_findWins_19 : decode cX1_findWins 19 = .ok (.iinc 1 1, 3) := by decide +kernel
theorem dX1_findWins_22 : decode cX1_findWins 22 = .ok (.goto (-16), 3) := by decide +kernel
theorem dX1_findWins_25 : decode cX1_findWins 25 = .ok (.iconst 0, 1) := by decide +kernel
theorem dX1_findWins_26 : decode cX1_findWins 26 = .ok (.istore_n 1, 1) := by decide +kernel
theorem dX1_findWins_27 : decode cX1_findWins 27 = .ok (.iload_n 1, 1) := by decide +kernel
theorem dX1_findWins_28 : decode cX1_findWins 28 = .ok (.aload_n 0, 1) := by decide +kernel
theorem dX1_findWins_29 : decode cX1_findWins 29 = .ok (.getfield 48, 3) := by decide +kernel
theorem dX1_findWins_32 : decode cX1_findWins 32 = .ok (.if_icmp .gt 66, 3) := by decide +kernel
theorem dX1_findWins_35 : decode cX1_findWins 35 = .ok (.aload_n 0, 1) := by decide +kernel
theorem dX1_findWins_36 : decode cX1_findWins 36 = .ok (.iload_n 1, 1) := by decide +kernel
theorem dX1_findWins_37 : decode cX1_findWins 37 = .ok (.aload_n 0, 1) := by decide +kernel
theorem dX1_findWins_38 : decode cX1_findWins 38 = .ok (.invokevirtual 52, 3) := by decide +kernel
theorem dX1_findWins_41 : decode cX1_findWins 41 = .ok (.invokevirtual 56, 3) := by decide +kernel
theorem dX1_findWins_44 : decode cX1_findWins 44 = .ok (.iconst 0, 1) := by decide +kernel
theorem dX1_findWins_45 : decode cX1_findWins 45 = .ok (.istore_n 2, 1) := by decide +kernel
theorem dX1_findWins_46 : decode cX1_findWins 46 = .ok (.iload_n 2, 1) := by decide +kernel
theorem dX1_findWins_47 : decode cX1_findWins 47 = .ok (.aload_n 0, 1) := by decide +kernel
theorem dX1_findWins_48 : decode cX1_findWins 48 = .ok (.invokevirtual 52, 3) := by decide +kernel
theorem dX1_findWins_51 : decode cX1_findWins 51 = .ok (.if_icmp .gt 41, 3) := by decide +kernel
theorem dX1_findWins_54 : decode cX1_findWins 54 = .ok (.aload_n 0, 1) := by decide +kernel
theorem dX1_findWins_55 : decode cX1_findWins 55 = .ok (.getfield 23, 3) := by decide +kernel
theorem dX1_findWins_58 : decode cX1_findWins 58 = .ok (.iload_n 2, 1) := by decide +kernel
theorem dX1_findWins_59 : decode cX1_findWins 59 = .ok (.laload, 1) := by decide +kernel
theorem dX1_findWins_60 : decode cX1_findWins 60 = .ok (.lconst 0, 1) := by decide +kernel
theorem dX1_findWins_61 : decode cX1_findWins 61 = .ok (.lcmp, 1) := by decide +kernel
theorem dX1_findWins_62 : decode cX1_findWins 62 = .ok (.ifCond .lt 24, 3) := by decide +kernel
theorem dX1_findWins_65 : decode cX1_findWins 65 = .ok (.aload_n 0, 1) := by decide +kernel
theorem dX1_findWins_66 : decode cX1_findWins 66 = .ok (.aload_n 0, 1) := by decide +kernel
theorem dX1_findWins_67 : decode cX1_findWins 67 = .ok (.getfield 23, 3) := by decide +kernel
theorem dX1_findWins_70 : decode cX1_findWins 70 = .ok (.iload_n 2, 1) := by decide +kernel
theorem dX1_findWins_71 : decode cX1_findWins 71 = .ok (.laload, 1) := by decide +kernel
theorem dX1_findWins_72 : decode cX1_findWins 72 = .ok (.iload_n 1, 1) := by decide +kernel
theorem dX1_findWins_73 : decode cX1_findWins 73 = .ok (.invokevirtual 162, 3) := by decide +kernel
theorem dX1_findWins_76 : decode cX1_findWins 76 = .ok (.ifCond .eq 10, 3) := by decide +kernel
theorem dX1_findWins_79 : decode cX1_findWins 79 = .ok (.aload_n 0, 1) := by decide +kernel
theorem dX1_findWins_80 : decode cX1_findWins 80 = .ok (.getfield 30, 3) := by decide +kernel
theorem dX1_findWins_83 : decode cX1_findWins 83 = .ok (.iload_n 2, 1) := by decide +kernel
theorem dX1_findWins_84 : decode cX1_findWins 84 = .ok (.iconst 1, 1) := by decide +kernel
theorem dX1_findWins_85 : decode cX1_findWins 85 = .ok (.bastore, 1) := by decide +kernel
theorem dX1_findWins_86 : decode cX1_findWins 86 = .ok (.iinc 2 1, 3) := by decide +kernel
theorem dX1_findWins_89 : decode cX1_findWins 89 = .ok (.goto (-43), 3) := by decide +kernel
theorem dX1_findWins_92 : decode cX1_findWins 92 = .ok (.iinc 1 1, 3) := by decide +kernel
theorem dX1_findWins_95 : decode cX1_findWins 95 = .ok (.goto (-68), 3) := by decide +kernel
theorem dX1_findWins_98 : decode cX1_findWins 98 = .ok (.return_, 1) := by decide +kernel
theorem dX1_stopsAll_0 : decode cX1_stopsAll 0 = .ok (.iconst 0, 1) := by decide +kernel
theorem dX1_stopsAll_1 : decode cX1_stopsAll 1 = .ok (.istore_n 2, 1) := by decide +kernel
theorem dX1_stopsAll_2 : decode cX1_stopsAll 2 = .ok (.iload_n 2, 1) := by decide +kernel
theorem dX1_stopsAll_3 : decode cX1_stopsAll 3 = .ok (.aload_n 0, 1) := by decide +kernel
theorem dX1_stopsAll_4 : decode cX1_stopsAll 4 = .ok (.invokevirtual 52, 3) := by decide +kernel
theorem dX1_stopsAll_7 : decode cX1_stopsAll 7 = .ok (.if_icmp .gt 26, 3) := by decide +kernel
theorem dX1_stopsAll_10 : decode cX1_stopsAll 10 = .ok (.aload_n 0, 1) := by decide +kernel
theorem dX1_stopsAll_11 : decode cX1_stopsAll 11 = .ok (.getfield 30, 3) := by decide +kernel
theorem dX1_stopsAll_14 : decode cX1_stopsAll 14 = .ok (.iload_n 2, 1) := by decide +kernel
theorem dX1_stopsAll_15 : decode cX1_stopsAll 15 = .ok (.baload, 1) := by decide +kernel
theorem dX1_stopsAll_16 : decode cX1_stopsAll 16 = .ok (.ifCond .eq 11, 3) := by decide +kernel
theorem dX1_stopsAll_19 : decode cX1_stopsAll 19 = .ok (.iload_n 2, 1) := by decide +kernel
theorem dX1_stopsAll_20 : decode cX1_stopsAll 20 = .ok (.iload_n 1, 1) := by decide +kernel
theorem dX1_stopsAll_21 : decode cX1_stopsAll 21 = .ok (.iand, 1) := by decide +kernel
theorem dX1_stopsAll_22 : decode cX1_stopsAll 22 = .ok (.ifCond .ne 5, 3) := by decide +kernel
theorem dX1_stopsAll_25 : decode cX1_stopsAll 25 = .ok (.iconst 0, 1) := by decide +kernel
theorem dX1_stopsAll_26 : decode cX1_stopsAll 26 = .ok (.ireturn, 1) := by decide +kernel
theorem dX1_stopsAll_27 : decode cX1_stopsAll 27 = .ok (.iinc 2 1, 3) := by decide +kernel
theorem dX1_stopsAll_30 : decode cX1_stopsAll 30 = .ok (.goto (-28), 3) := by decide +kernel
theorem dX1_stopsAll_33 : decode cX1_stopsAll 33 = .ok (.iconst 1, 1) := by decide +kernel
theorem dX1_stopsAll_34 : decode cX1_stopsAll 34 = .ok (.ireturn, 1) := by decide +kernel
theorem dX1_asWitnesses_0 : decode cX1_asWitnesses 0 = .ok (.iconst 0, 1) := by decide +kernel
theorem dX1_asWitnesses_1 : decode cX1_asWitnesses 1 = .ok (.istore_n 2, 1) := by decide +kernel
theorem dX1_asWitnesses_2 : decode cX1_asWitnesses 2 = .ok (.iconst 0, 1) := by decide +kernel
theorem dX1_asWitnesses_3 : decode cX1_asWitnesses 3 = .ok (.istore_n 3, 1) := by decide +kernel
theorem dX1_asWitnesses_4 : decode cX1_asWitnesses 4 = .ok (.iload_n 3, 1) := by decide +kernel
theorem dX1_asWitnesses_5 : decode cX1_asWitnesses 5 = .ok (.aload_n 0, 1) := by decide +kernel
theorem dX1_asWitnesses_6 : decode cX1_asWitnesses 6 = .ok (.getfield 81, 3) := by decide +kernel
theorem dX1_asWitnesses_9 : decode cX1_asWitnesses 9 = .ok (.if_icmp .ge 29, 3) := by decide +kernel
theorem dX1_asWitnesses_12 : decode cX1_asWitnesses 12 = .ok (.iload_n 1, 1) := by decide +kernel
theorem dX1_asWitnesses_13 : decode cX1_asWitnesses 13 = .ok (.iload_n 3, 1) := by decide +kernel
theorem dX1_asWitnesses_14 : decode cX1_asWitnesses 14 = .ok (.ishr, 1) := by decide +kernel
theorem dX1_asWitnesses_15 : decode cX1_asWitnesses 15 = .ok (.iconst 1, 1) := by decide +kernel
theorem dX1_asWitnesses_16 : decode cX1_asWitnesses 16 = .ok (.iand, 1) := by decide +kernel
theorem dX1_asWitnesses_17 : decode cX1_asWitnesses 17 = .ok (.iconst 1, 1) := by decide +kernel
theorem dX1_asWitnesses_18 : decode cX1_asWitnesses 18 = .ok (.if_icmp .ne 14, 3) := by decide +kernel
theorem dX1_asWitnesses_21 : decode cX1_asWitnesses 21 = .ok (.iload_n 2, 1) := by decide +kernel
theorem dX1_asWitnesses_22 : decode cX1_asWitnesses 22 = .ok (.iconst 1, 1) := by decide +kernel
theorem dX1_asWitnesses_23 : decode cX1_asWitnesses 23 = .ok (.aload_n 0, 1) := by decide +kernel
theorem dX1_asWitnesses_24 : decode cX1_asWitnesses 24 = .ok (.getfield 9, 3) := by decide +kernel
theorem dX1_asWitnesses_27 : decode cX1_asWitnesses 27 = .ok (.iload_n 3, 1) := by decide +kernel
theorem dX1_asWitnesses_28 : decode cX1_asWitnesses 28 = .ok (.iaload, 1) := by decide +kernel
theorem dX1_asWitnesses_29 : decode cX1_asWitnesses 29 = .ok (.ishl, 1) := by decide +kernel
theorem dX1_asWitnesses_30 : decode cX1_asWitnesses 30 = .ok (.ior, 1) := by decide +kernel
theorem dX1_asWitnesses_31 : decode cX1_asWitnesses 31 = .ok (.istore_n 2, 1) := by decide +kernel
theorem dX1_asWitnesses_32 : decode cX1_asWitnesses 32 = .ok (.iinc 3 1, 3) := by decide +kernel
theorem dX1_asWitnesses_35 : decode cX1_asWitnesses 35 = .ok (.goto (-31), 3) := by decide +kernel
theorem dX1_asWitnesses_38 : decode cX1_asWitnesses 38 = .ok (.iload_n 2, 1) := by decide +kernel
theorem dX1_asWitnesses_39 : decode cX1_asWitnesses 39 = .ok (.ireturn, 1) := by decide +kernel
theorem dX2_init_0 : decode cX2_init 0 = .ok (.aload_n 0, 1) := by decide +kernel
theorem dX2_init_1 : decode cX2_init 1 = .ok (.invokespecial 3, 3) := by decide +kernel
theorem dX2_init_4 : decode cX2_init 4 = .ok (.aload_n 0, 1) := by decide +kernel
theorem dX2_init_5 : decode cX2_init 5 = .ok (.bipush 6, 2) := by decide +kernel
theorem dX2_init_7 : decode cX2_init 7 = .ok (.newarray .int, 2) := by decide +kernel
theorem dX2_init_9 : decode cX2_init 9 = .ok (.putfield 9, 3) := by decide +kernel
theorem dX2_init_12 : decode cX2_init 12 = .ok (.aload_n 0, 1) := by decide +kernel
theorem dX2_init_13 : decode cX2_init 13 = .ok (.bipush 6, 2) := by decide +kernel
theorem dX2_init_15 : decode cX2_init 15 = .ok (.newarray .int, 2) := by decide +kernel
theorem dX2_init_17 : decode cX2_init 17 = .ok (.putfield 15, 3) := by decide +kernel
theorem dX2_init_20 : decode cX2_init 20 = .ok (.aload_n 0, 1) := by decide +kernel
theorem dX2_init_21 : decode cX2_init 21 = .ok (.bipush 6, 2) := by decide +kernel
theorem dX2_init_23 : decode cX2_init 23 = .ok (.newarray .int, 2) := by decide +kernel
theorem dX2_init_25 : decode cX2_init 25 = .ok (.putfield 18, 3) := by decide +kernel
theorem dX2_init_28 : decode cX2_init 28 = .ok (.aload_n 0, 1) := by decide +kernel
theorem dX2_init_29 : decode cX2_init 29 = .ok (.bipush 12, 2) := by decide +kernel
theorem dX2_init_31 : decode cX2_init 31 = .ok (.newarray .int, 2) := by decide +kernel
theorem dX2_init_33 : decode cX2_init 33 = .ok (.putfield 21, 3) := by decide +kernel
theorem dX2_init_36 : decode cX2_init 36 = .ok (.aload_n 0, 1) := by decide +kernel
theorem dX2_init_37 : decode cX2_init 37 = .ok (.bipush 12, 2) := by decide +kernel
theorem dX2_init_39 : decode cX2_init 39 = .ok (.newarray .int, 2) := by decide +kernel
theorem dX2_init_41 : decode cX2_init 41 = .ok (.putfield 24, 3) := by decide +kernel
theorem dX2_init_44 : decode cX2_init 44 = .ok (.aload_n 0, 1) := by decide +kernel
theorem dX2_init_45 : decode cX2_init 45 = .ok (.bipush 12, 2) := by decide +kernel
theorem dX2_init_47 : decode cX2_init 47 = .ok (.newarray .int, 2) := by decide +kernel
theorem dX2_init_49 : decode cX2_init 49 = .ok (.putfield 27, 3) := by decide +kernel
theorem dX2_init_52 : decode cX2_init 52 = .ok (.return_, 1) := by decide +kernel
theorem dX2_hasSuit_0 : decode cX2_hasSuit 0 = .ok (.iload_n 1, 1) := by decide +kernel
theorem dX2_hasSuit_1 : decode cX2_hasSuit 1 = .ok (.ifCond .lt 21, 3) := by decide +kernel
theorem dX2_hasSuit_4 : decode cX2_hasSuit 4 = .ok (.iload_n 1, 1) := by decide +kernel
theorem dX2_hasSuit_5 : decode cX2_hasSuit 5 = .ok (.aload_n 0, 1) := by decide +kernel
theorem dX2_hasSuit_6 : decode cX2_hasSuit 6 = .ok (.getfield 30, 3) := by decide +kernel
theorem dX2_hasSuit_9 : decode cX2_hasSuit 9 = .ok (.if_icmp .ge 13, 3) := by decide +kernel
theorem dX2_hasSuit_12 : decode cX2_hasSuit 12 = .ok (.iload_n 1, 1) := by decide +kernel
theorem dX2_hasSuit_13 : decode cX2_hasSuit 13 = .ok (.bipush 6, 2) := by decide +kernel
theorem dX2_hasSuit_15 : decode cX2_hasSuit 15 = .ok (.if_icmp .ge 7, 3) := by decide +kernel
theorem dX2_hasSuit_18 : decode cX2_hasSuit 18 = .ok (.iconst 1, 1) := by decide +kernel
theorem dX2_hasSuit_19 : decode cX2_hasSuit 19 = .ok (.goto 4, 3) := by decide +kernel
theorem dX2_hasSuit_22 : decode cX2_hasSuit 22 = .ok (.iconst 0, 1) := by decide +kernel
theorem dX2_hasSuit_23 : decode cX2_hasSuit 23 = .ok (.ireturn, 1) := by decide +kernel
theorem dX2_hasWitness_0 : decode cX2_hasWitness 0 = .ok (.iload_n 1, 1) := by decide +kernel
theorem dX2_hasWitness_1 : decode cX2_hasWitness 1 = .ok (.ifCond .lt 21, 3) := by decide +kernel
theorem dX2_hasWitness_4 : decode cX2_hasWitness 4 = .ok (.iload_n 1, 1) := by decide +kernel
theorem dX2_hasWitness_5 : decode cX2_hasWitness 5 = .ok (.aload_n 0, 1) := by decide +kernel
theorem dX2_hasWitness_6 : decode cX2_hasWitness 6 = .ok (.getfield 34, 3) := by decide +kernel
theorem dX2_hasWitness_9 : decode cX2_hasWitness 9 = .ok (.if_icmp .ge 13, 3) := by decide +kernel
theorem dX2_hasWitness_12 : decode cX2_hasWitness 12 = .ok (.iload_n 1, 1) := by decide +kernel
theorem dX2_hasWitness_13 : decode cX2_hasWitness 13 = .ok (.bipush 12, 2) := by decide +kernel
theorem dX2_hasWitness_15 : decode cX2_hasWitness 15 = .ok (.if_icmp .ge 7, 3) := by decide +kernel
theorem dX2_hasWitness_18 : decode cX2_hasWitness 18 = .ok (.iconst 1, 1) := by decide +kernel
theorem dX2_hasWitness_19 : decode cX2_hasWitness 19 = .ok (.goto 4, 3) := by decide +kernel
theorem dX2_hasWitness_22 : decode cX2_hasWitness 22 = .ok (.iconst 0, 1) := by decide +kernel
theorem dX2_hasWitness_23 : decode cX2_hasWitness 23 = .ok (.ireturn, 1) := by decide +kernel
theorem dX2_goalOf_0 : decode cX2_goalOf 0 = .ok (.aload_n 0, 1) := by decide +kernel
theorem dX2_goalOf_1 : decode cX2_goalOf 1 = .ok (.iload_n 1, 1) := by decide +kernel
theorem dX2_goalOf_2 : decode cX2_goalOf 2 = .ok (.invokevirtual 37, 3) := by decide +kernel
theorem dX2_goalOf_5 : decode cX2_goalOf 5 = .ok (.ifCond .eq 14, 3) := by decide +kernel
theorem dX2_goalOf_8 : decode cX2_goalOf 8 = .ok (.iconst 3, 1) := by decide +kernel
theorem dX2_goalOf_9 : decode cX2_goalOf 9 = .ok (.aload_n 0, 1) := by decide +kernel
theorem dX2_goalOf_10 : decode cX2_goalOf 10 = .ok (.getfield 9, 3) := by decide +kernel
theorem dX2_goalOf_13 : decode cX2_goalOf 13 = .ok (.iload_n 1, 1) := by decide +kernel
theorem dX2_goalOf_14 : decode cX2_goalOf 14 = .ok (.iaload, 1) := by decide +kernel
theorem dX2_goalOf_15 : decode cX2_goalOf 15 = .ok (.imul, 1) := by decide +kernel
theorem dX2_goalOf_16 : decode cX2_goalOf 16 = .ok (.goto 4, 3) := by decide +kernel
theorem dX2_goalOf_19 : decode cX2_goalOf 19 = .ok (.iconst 0, 1) := by decide +kernel
theorem dX2_goalOf_20 : decode cX2_goalOf 20 = .ok (.ireturn, 1) := by decide +kernel
theorem dX2_witnessesOf_0 : decode cX2_witnessesOf 0 = .ok (.iconst 0, 1) := by decide +kernel
theorem dX2_witnessesOf_1 : decode cX2_witnessesOf 1 = .ok (.istore_n 2, 1) := by decide +kernel
theorem dX2_witnessesOf_2 : decode cX2_witnessesOf 2 = .ok (.iconst 0, 1) := by decide +kernel
theorem dX2_witnessesOf_3 : decode cX2_witnessesOf 3 = .ok (.istore_n 3, 1) := by decide +kernel
theorem dX2_witnessesOf_4 : decode cX2_witnessesOf 4 = .ok (.iload_n 3, 1) := by decide +kernel
theorem dX2_witnessesOf_5 : decode cX2_witnessesOf 5 = .ok (.aload_n 0, 1) := by decide +kernel
theorem dX2_witnessesOf_6 : decode cX2_witnessesOf 6 = .ok (.getfield 34, 3) := by decide +kernel
theorem dX2_witnessesOf_9 : decode cX2_witnessesOf 9 = .ok (.if_icmp .ge 31, 3) := by decide +kernel
theorem dX2_witnessesOf_12 : decode cX2_witnessesOf 12 = .ok (.iload_n 3, 1) := by decide +kernel
theorem dX2_witnessesOf_13 : decode cX2_witnessesOf 13 = .ok (.bipush 12, 2) := by decide +kernel
theorem dX2_witnessesOf_15 : decode cX2_witnessesOf 15 = .ok (.if_icmp .ge 25, 3) := by decide +kernel
theorem dX2_witnessesOf_18 : decode cX2_witnessesOf 18 = .ok (.aload_n 0, 1) := by decide +kernel
theorem dX2_witnessesOf_19 : decode cX2_witnessesOf 19 = .ok (.getfield 21, 3) := by decide +kernel
theorem dX2_witnessesOf_22 : decode cX2_witnessesOf 22 = .ok (.iload_n 3, 1) := by decide +kernel
theorem dX2_witnessesOf_23 : decode cX2_witnessesOf 23 = .ok (.iaload, 1) := by decide +kernel
theorem dX2_witnessesOf_24 : decode cX2_witnessesOf 24 = .ok (.iload_n 1, 1) := by decide +kernel
theorem dX2_witnessesOf_25 : decode cX2_witnessesOf 25 = .ok (.if_icmp .ne 9, 3) := by decide +kernel
theorem dX2_witnessesOf_28 : decode cX2_witnessesOf 28 = .ok (.iload_n 2, 1) := by decide +kernel
theorem dX2_witnessesOf_29 : decode cX2_witnessesOf 29 = .ok (.iconst 1, 1) := by decide +kernel
theorem dX2_witnessesOf_30 : decode cX2_witnessesOf 30 = .ok (.iload_n 3, 1) := by decide +kernel
theorem dX2_witnessesOf_31 : decode cX2_witnessesOf 31 = .ok (.ishl, 1) := by decide +kernel
theorem dX2_witnessesOf_32 : decode cX2_witnessesOf 32 = .ok (.ior, 1) := by decide +kernel
theorem dX2_witnessesOf_33 : decode cX2_witnessesOf 33 = .ok (.istore_n 2, 1) := by decide +kernel
theorem dX2_witnessesOf_34 : decode cX2_witnessesOf 34 = .ok (.iinc 3 1, 3) := by decide +kernel
theorem dX2_witnessesOf_37 : decode cX2_witnessesOf 37 = .ok (.goto (-33), 3) := by decide +kernel
theorem dX2_witnessesOf_40 : decode cX2_witnessesOf 40 = .ok (.iload_n 2, 1) := by decide +kernel
theorem dX2_witnessesOf_41 : decode cX2_witnessesOf 41 = .ok (.ireturn, 1) := by decide +kernel
theorem dX2_readFrom_0 : decode cX2_readFrom 0 = .ok (.aload_n 0, 1) := by decide +kernel
theorem dX2_readFrom_1 : decode cX2_readFrom 1 = .ok (.iconst 0, 1) := by decide +kernel
theorem dX2_readFrom_2 : decode cX2_readFrom 2 = .ok (.putfield 30, 3) := by decide +kernel
theorem dX2_readFrom_5 : decode cX2_readFrom 5 = .ok (.aload_n 0, 1) := by decide +kernel
theorem dX2_readFrom_6 : decode cX2_readFrom 6 = .ok (.iconst 0, 1) := by decide +kernel
theorem dX2_readFrom_7 : decode cX2_readFrom 7 = .ok (.putfield 34, 3) := by decide +kernel
theorem dX2_readFrom_10 : decode cX2_readFrom 10 = .ok (.iconst 0, 1) := by decide +kernel
theorem dX2_readFrom_11 : decode cX2_readFrom 11 = .ok (.istore_n 2, 1) := by decide +kernel
theorem dX2_readFrom_12 : decode cX2_readFrom 12 = .ok (.iload_n 2, 1) := by decide +kernel
theorem dX2_readFrom_13 : decode cX2_readFrom 13 = .ok (.sipush 500, 3) := by decide +kernel
theorem dX2_readFrom_16 : decode cX2_readFrom 16 = .ok (.if_icmp .ge 55, 3) := by decide +kernel
theorem dX2_readFrom_19 : decode cX2_readFrom 19 = .ok (.aload_n 1, 1) := by decide +kernel
theorem dX2_readFrom_20 : decode cX2_readFrom 20 = .ok (.invokevirtual 41, 3) := by decide +kernel
theorem dX2_readFrom_23 : decode cX2_readFrom 23 = .ok (.ifCond .eq 48, 3) := by decide +kernel
theorem dX2_readFrom_26 : decode cX2_readFrom 26 = .ok (.aload_n 1, 1) := by decide +kernel
theorem dX2_readFrom_27 : decode cX2_readFrom 27 = .ok (.ldc 47, 2) := by decide +kernel
theorem dX2_readFrom_29 : decode cX2_readFrom 29 = .ok (.invokevirtual 49, 3) := by decide +kernel
theorem dX2_readFrom_32 : decode cX2_readFrom 32 = .ok (.ifCond .eq 11, 3) := by decide +kernel
theorem dX2_readFrom_35 : decode cX2_readFrom 35 = .ok (.aload_n 0, 1) := by decide +kernel
theorem dX2_readFrom_36 : decode cX2_readFrom 36 = .ok (.aload_n 1, 1) := by decide +kernel
theorem dX2_readFrom_37 : decode cX2_readFrom 37 = .ok (.invokevirtual 53, 3) := by decide +kernel
theorem dX2_readFrom_40 : decode cX2_readFrom 40 = .ok (.goto 25, 3) := by decide +kernel
theorem dX2_readFrom_43 : decode cX2_readFrom 43 = .ok (.aload_n 1, 1) := by decide +kernel
theorem dX2_readFrom_44 : decode cX2_readFrom 44 = .ok (.ldc 57, 2) := by decide +kernel
theorem dX2_readFrom_46 : decode cX2_readFrom 46 = .ok (.invokevirtual 49, 3) := by decide +kernel
theorem dX2_readFrom_49 : decode cX2_readFrom 49 = .ok (.ifCond .eq 11, 3) := by decide +kernel
theorem dX2_readFrom_52 : decode cX2_readFrom 52 = .ok (.aload_n 0, 1) := by decide +kernel
theorem dX2_readFrom_53 : decode cX2_readFrom 53 = .ok (.aload_n 1, 1) := by decide +kernel
theorem dX2_readFrom_54 : decode cX2_readFrom 54 = .ok (.invokevirtual 59, 3) := by decide +kernel
theorem dX2_readFrom_57 : decode cX2_readFrom 57 = .ok (.goto 8, 3) := by decide +kernel
theorem dX2_readFrom_60 : decode cX2_readFrom 60 = .ok (.aload_n 1, 1) := by decide +kernel
theorem dX2_readFrom_61 : decode cX2_readFrom 61 = .ok (.iconst 1, 1) := by decide +kernel
theorem dX2_readFrom_62 : decode cX2_readFrom 62 = .ok (.invokevirtual 62, 3) := by decide +kernel
theorem dX2_readFrom_65 : decode cX2_readFrom 65 = .ok (.iinc 2 1, 3) := by decide +kernel
theorem dX2_readFrom_68 : decode cX2_readFrom 68 = .ok (.goto (-56), 3) := by decide +kernel
theorem dX2_readFrom_71 : decode cX2_readFrom 71 = .ok (.return_, 1) := by decide +kernel
theorem dX2_readSuit_0 : decode cX2_readSuit 0 = .ok (.aload_n 0, 1) := by decide +kernel
theorem dX2_readSuit_1 : decode cX2_readSuit 1 = .ok (.getfield 30, 3) := by decide +kernel
theorem dX2_readSuit_4 : decode cX2_readSuit 4 = .ok (.bipush 6, 2) := by decide +kernel
theorem dX2_readSuit_6 : decode cX2_readSuit 6 = .ok (.if_icmp .lt 9, 3) := by decide +kernel
theorem dX2_readSuit_9 : decode cX2_readSuit 9 = .ok (.aload_n 1, 1) := by decide +kernel
theorem dX2_readSuit_10 : decode cX2_readSuit 10 = .ok (.iconst 3, 1) := by decide +kernel
theorem dX2_readSuit_11 : decode cX2_readSuit 11 = .ok (.invokevirtual 66, 3) := by decide +kernel
theorem dX2_readSuit_14 : decode cX2_readSuit 14 = .ok (.return_, 1) := by decide +kernel
theorem dX2_readSuit_15 : decode cX2_readSuit 15 = .ok (.aload_n 0, 1) := by decide +kernel
theorem dX2_readSuit_16 : decode cX2_readSuit 16 = .ok (.getfield 9, 3) := by decide +kernel
theorem dX2_readSuit_19 : decode cX2_readSuit 19 = .ok (.aload_n 0, 1) := by decide +kernel
theorem dX2_readSuit_20 : decode cX2_readSuit 20 = .ok (.getfield 30, 3) := by decide +kernel
theorem dX2_readSuit_23 : decode cX2_readSuit 23 = .ok (.aload_n 1, 1) := by decide +kernel
theorem dX2_readSuit_24 : decode cX2_readSuit 24 = .ok (.iconst 1, 1) := by decide +kernel
theorem dX2_readSuit_25 : decode cX2_readSuit 25 = .ok (.sipush 999, 3) := by decide +kernel
theorem dX2_readSuit_28 : decode cX2_readSuit 28 = .ok (.invokevirtual 69, 3) := by decide +kernel
theorem dX2_readSuit_31 : decode cX2_readSuit 31 = .ok (.iastore, 1) := by decide +kernel
theorem dX2_readSuit_32 : decode cX2_readSuit 32 = .ok (.aload_n 0, 1) := by decide +kernel
theorem dX2_readSuit_33 : decode cX2_readSuit 33 = .ok (.getfield 15, 3) := by decide +kernel
theorem dX2_readSuit_36 : decode cX2_readSuit 36 = .ok (.aload_n 0, 1) := by decide +kernel
theorem dX2_readSuit_37 : decode cX2_readSuit 37 = .ok (.getfield 30, 3) := by decide +kernel
theorem dX2_readSuit_40 : decode cX2_readSuit 40 = .ok (.aload_n 1, 1) := by decide +kernel
theorem dX2_readSuit_41 : decode cX2_readSuit 41 = .ok (.iconst 1, 1) := by decide +kernel
theorem dX2_readSuit_42 : decode cX2_readSuit 42 = .ok (.sipush 399, 3) := by decide +kernel
theorem dX2_readSuit_45 : decode cX2_readSuit 45 = .ok (.invokevirtual 69, 3) := by decide +kernel
theorem dX2_readSuit_48 : decode cX2_readSuit 48 = .ok (.iastore, 1) := by decide +kernel
theorem dX2_readSuit_49 : decode cX2_readSuit 49 = .ok (.aload_n 0, 1) := by decide +kernel
theorem dX2_readSuit_50 : decode cX2_readSuit 50 = .ok (.getfield 18, 3) := by decide +kernel
theorem dX2_readSuit_53 : decode cX2_readSuit 53 = .ok (.aload_n 0, 1) := by decide +kernel
theorem dX2_readSuit_54 : decode cX2_readSuit 54 = .ok (.getfield 30, 3) := by decide +kernel
theorem dX2_readSuit_57 : decode cX2_readSuit 57 = .ok (.aload_n 1, 1) := by decide +kernel
theorem dX2_readSuit_58 : decode cX2_readSuit 58 = .ok (.ldc 73, 2) := by decide +kernel
theorem dX2_readSuit_60 : decode cX2_readSuit 60 = .ok (.invokevirtual 49, 3) := by decide +kernel
theorem dX2_readSuit_63 : decode cX2_readSuit 63 = .ok (.ifCond .eq 17, 3) := by decide +kernel
theorem dX2_readSuit_66 : decode cX2_readSuit 66 = .ok (.aload_n 1, 1) := by decide +kernel
theorem dX2_readSuit_67 : decode cX2_readSuit 67 = .ok (.iconst 0, 1) := by decide +kernel
theorem dX2_readSuit_68 : decode cX2_readSuit 68 = .ok (.aload_n 0, 1) := by decide +kernel
theorem dX2_readSuit_69 : decode cX2_readSuit 69 = .ok (.getfield 30, 3) := by decide +kernel
theorem dX2_readSuit_72 : decode cX2_readSuit 72 = .ok (.iconst 1, 1) := by decide +kernel
theorem dX2_readSuit_73 : decode cX2_readSuit 73 = .ok (.isub, 1) := by decide +kernel
theorem dX2_readSuit_74 : decode cX2_readSuit 74 = .ok (.invokevirtual 69, 3) := by decide +kernel
theorem dX2_readSuit_77 : decode cX2_readSuit 77 = .ok (.goto 4, 3) := by decide +kernel
theorem dX2_readSuit_80 : decode cX2_readSuit 80 = .ok (.iconst (-1), 1) := by decide +kernel
theorem dX2_readSuit_81 : decode cX2_readSuit 81 = .ok (.iastore, 1) := by decide +kernel
theorem dX2_readSuit_82 : decode cX2_readSuit 82 = .ok (.aload_n 1, 1) := by decide +kernel
theorem dX2_readSuit_83 : decode cX2_readSuit 83 = .ok (.invokevirtual 75, 3) := by decide +kernel
theorem dX2_readSuit_86 : decode cX2_readSuit 86 = .ok (.aload_n 0, 1) := by decide +kernel
theorem dX2_readSuit_87 : decode cX2_readSuit 87 = .ok (.dup, 1) := by decide +kernel
theorem dX2_readSuit_88 : decode cX2_readSuit 88 = .ok (.getfield 30, 3) := by decide +kernel
theorem dX2_readSuit_91 : decode cX2_readSuit 91 = .ok (.iconst 1, 1) := by decide +kernel
theorem dX2_readSuit_92 : decode cX2_readSuit 92 = .ok (.iadd, 1) := by decide +kernel
theorem dX2_readSuit_93 : decode cX2_readSuit 93 = .ok (.putfield 30, 3) := by decide +kernel
theorem dX2_readSuit_96 : decode cX2_readSuit 96 = .ok (.return_, 1) := by decide +kernel
theorem dX2_readWitness_0 : decode cX2_readWitness 0 = .ok (.aload_n 0, 1) := by decide +kernel
theorem dX2_readWitness_1 : decode cX2_readWitness 1 = .ok (.getfield 34, 3) := by decide +kernel
theorem dX2_readWitness_4 : decode cX2_readWitness 4 = .ok (.bipush 12, 2) := by decide +kernel
theorem dX2_readWitness_6 : decode cX2_readWitness 6 = .ok (.if_icmp .lt 9, 3) := by decide +kernel
theorem dX2_readWitness_9 : decode cX2_readWitness 9 = .ok (.aload_n 1, 1) := by decide +kernel
theorem dX2_readWitness_10 : decode cX2_readWitness 10 = .ok (.iconst 3, 1) := by decide +kernel
theorem dX2_readWitness_11 : decode cX2_readWitness 11 = .ok (.invokevirtual 66, 3) := by decide +kernel
theorem dX2_readWitness_14 : decode cX2_readWitness 14 = .ok (.return_, 1) := by decide +kernel
theorem dX2_readWitness_15 : decode cX2_readWitness 15 = .ok (.aload_n 1, 1) := by decide +kernel
theorem dX2_readWitness_16 : decode cX2_readWitness 16 = .ok (.iconst 0, 1) := by decide +kernel
theorem dX2_readWitness_17 : decode cX2_readWitness 17 = .ok (.aload_n 0, 1) := by decide +kernel
theorem dX2_readWitness_18 : decode cX2_readWitness 18 = .ok (.getfield 30, 3) := by decide +kernel
theorem dX2_readWitness_21 : decode cX2_readWitness 21 = .ok (.iconst 1, 1) := by decide +kernel
theorem dX2_readWitness_22 : decode cX2_readWitness 22 = .ok (.isub, 1) := by decide +kernel
theorem dX2_readWitness_23 : decode cX2_readWitness 23 = .ok (.invokevirtual 69, 3) := by decide +kernel
theorem dX2_readWitness_26 : decode cX2_readWitness 26 = .ok (.istore_n 2, 1) := by decide +kernel
theorem dX2_readWitness_27 : decode cX2_readWitness 27 = .ok (.aload_n 1, 1) := by decide +kernel
theorem dX2_readWitness_28 : decode cX2_readWitness 28 = .ok (.invokevirtual 78, 3) := by decide +kernel
theorem dX2_readWitness_31 : decode cX2_readWitness 31 = .ok (.ifCond .eq 21, 3) := by decide +kernel
theorem dX2_readWitness_34 : decode cX2_readWitness 34 = .ok (.aload_n 0, 1) := by decide +kernel
theorem dX2_readWitness_35 : decode cX2_readWitness 35 = .ok (.iload_n 2, 1) := by decide +kernel
theorem dX2_readWitness_36 : decode cX2_readWitness 36 = .ok (.invokevirtual 81, 3) := by decide +kernel
theorem dX2_readWitness_39 : decode cX2_readWitness 39 = .ok (.invokestatic 85, 3) := by decide +kernel
theorem dX2_readWitness_42 : decode cX2_readWitness 42 = .ok (.bipush 6, 2) := by decide +kernel
theorem dX2_readWitness_44 : decode cX2_readWitness 44 = .ok (.if_icmp .lt 8, 3) := by decide +kernel
theorem dX2_readWitness_47 : decode cX2_readWitness 47 = .ok (.aload_n 1, 1) := by decide +kernel
theorem dX2_readWitness_48 : decode cX2_readWitness 48 = .ok (.iconst 4, 1) := by decide +kernel
theorem dX2_readWitness_49 : decode cX2_readWitness 49 = .ok (.invokevirtual 66, 3) := by decide +kernel
theorem dX2_readWitness_52 : decode cX2_readWitness 52 = .ok (.aload_n 0, 1) := by decide +kernel
theorem dX2_readWitness_53 : decode cX2_readWitness 53 = .ok (.getfield 21, 3) := by decide +kernel
theorem dX2_readWitness_56 : decode cX2_readWitness 56 = .ok (.aload_n 0, 1) := by decide +kernel
theorem dX2_readWitness_57 : decode cX2_readWitness 57 = .ok (.getfield 34, 3) := by decide +kernel
theorem dX2_readWitness_60 : decode cX2_readWitness 60 = .ok (.iload_n 2, 1) := by decide +kernel
theorem dX2_readWitness_61 : decode cX2_readWitness 61 = .ok (.iastore, 1) := by decide +kernel
theorem dX2_readWitness_62 : decode cX2_readWitness 62 = .ok (.aload_n 0, 1) := by decide +kernel
theorem dX2_readWitness_63 : decode cX2_readWitness 63 = .ok (.getfield 24, 3) := by decide +kernel
theorem dX2_readWitness_66 : decode cX2_readWitness 66 = .ok (.aload_n 0, 1) := by decide +kernel
theorem dX2_readWitness_67 : decode cX2_readWitness 67 = .ok (.getfield 34, 3) := by decide +kernel
theorem dX2_readWitness_70 : decode cX2_readWitness 70 = .ok (.aload_n 1, 1) := by decide +kernel
theorem dX2_readWitness_71 : decode cX2_readWitness 71 = .ok (.iconst 1, 1) := by decide +kernel
theorem dX2_readWitness_72 : decode cX2_readWitness 72 = .ok (.bipush 99, 2) := by decide +kernel
theorem dX2_readWitness_74 : decode cX2_readWitness 74 = .ok (.invokevirtual 69, 3) := by decide +kernel
theorem dX2_readWitness_77 : decode cX2_readWitness 77 = .ok (.iastore, 1) := by decide +kernel
theorem dX2_readWitness_78 : decode cX2_readWitness 78 = .ok (.aload_n 0, 1) := by decide +kernel
theorem dX2_readWitness_79 : decode cX2_readWitness 79 = .ok (.getfield 27, 3) := by decide +kernel
theorem dX2_readWitness_82 : decode cX2_readWitness 82 = .ok (.aload_n 0, 1) := by decide +kernel
theorem dX2_readWitness_83 : decode cX2_readWitness 83 = .ok (.getfield 34, 3) := by decide +kernel
theorem dX2_readWitness_86 : decode cX2_readWitness 86 = .ok (.aload_n 1, 1) := by decide +kernel
theorem dX2_readWitness_87 : decode cX2_readWitness 87 = .ok (.invokestatic 90, 3) := by decide +kernel
theorem dX2_readWitness_90 : decode cX2_readWitness 90 = .ok (.iastore, 1) := by decide +kernel
theorem dX2_readWitness_91 : decode cX2_readWitness 91 = .ok (.aload_n 1, 1) := by decide +kernel
theorem dX2_readWitness_92 : decode cX2_readWitness 92 = .ok (.invokevirtual 75, 3) := by decide +kernel
theorem dX2_readWitness_95 : decode cX2_readWitness 95 = .ok (.aload_n 0, 1) := by decide +kernel
theorem dX2_readWitness_96 : decode cX2_readWitness 96 = .ok (.dup, 1) := by decide +kernel
theorem dX2_readWitness_97 : decode cX2_readWitness 97 = .ok (.getfield 34, 3) := by decide +kernel
theorem dX2_readWitness_100 : decode cX2_readWitness 100 = .ok (.iconst 1, 1) := by decide +kernel
theorem dX2_readWitness_101 : decode cX2_readWitness 101 = .ok (.iadd, 1) := by decide +kernel
theorem dX2_readWitness_102 : decode cX2_readWitness 102 = .ok (.putfield 34, 3) := by decide +kernel
theorem dX2_readWitness_105 : decode cX2_readWitness 105 = .ok (.return_, 1) := by decide +kernel
theorem dX2_readKind_0 : decode cX2_readKind 0 = .ok (.aload_n 0, 1) := by decide +kernel
theorem dX2_readKind_1 : decode cX2_readKind 1 = .ok (.ldc 94, 2) := by decide +kernel
theorem dX2_readKind_3 : decode cX2_readKind 3 = .ok (.invokevirtual 49, 3) := by decide +kernel
theorem dX2_readKind_6 : decode cX2_readKind 6 = .ok (.ifCond .eq 5, 3) := by decide +kernel
theorem dX2_readKind_9 : decode cX2_readKind 9 = .ok (.iconst 0, 1) := by decide +kernel
theorem dX2_readKind_10 : decode cX2_readKind 10 = .ok (.ireturn, 1) := by decide +kernel
theorem dX2_readKind_11 : decode cX2_readKind 11 = .ok (.aload_n 0, 1) := by decide +kernel
theorem dX2_readKind_12 : decode cX2_readKind 12 = .ok (.ldc 96, 2) := by decide +kernel
theorem dX2_readKind_14 : decode cX2_readKind 14 = .ok (.invokevirtual 49, 3) := by decide +kernel
theorem dX2_readKind_17 : decode cX2_readKind 17 = .ok (.ifCond .eq 5, 3) := by decide +kernel
theorem dX2_readKind_20 : decode cX2_readKind 20 = .ok (.iconst 1, 1) := by decide +kernel
theorem dX2_readKind_21 : decode cX2_readKind 21 = .ok (.ireturn, 1) := by decide +kernel
theorem dX2_readKind_22 : decode cX2_readKind 22 = .ok (.aload_n 0, 1) := by decide +kernel
theorem dX2_readKind_23 : decode cX2_readKind 23 = .ok (.ldc 98, 2) := by decide +kernel
theorem dX2_readKind_25 : decode cX2_readKind 25 = .ok (.invokevirtual 49, 3) := by decide +kernel
theorem dX2_readKind_28 : decode cX2_readKind 28 = .ok (.ifCond .eq 5, 3) := by decide +kernel
theorem dX2_readKind_31 : decode cX2_readKind 31 = .ok (.iconst 2, 1) := by decide +kernel
theorem dX2_readKind_32 : decode cX2_readKind 32 = .ok (.ireturn, 1) := by decide +kernel
theorem dX2_readKind_33 : decode cX2_readKind 33 = .ok (.aload_n 0, 1) := by decide +kernel
theorem dX2_readKind_34 : decode cX2_readKind 34 = .ok (.ldc 100, 2) := by decide +kernel
theorem dX2_readKind_36 : decode cX2_readKind 36 = .ok (.invokevirtual 49, 3) := by decide +kernel
theorem dX2_readKind_39 : decode cX2_readKind 39 = .ok (.ifCond .eq 5, 3) := by decide +kernel
theorem dX2_readKind_42 : decode cX2_readKind 42 = .ok (.iconst 3, 1) := by decide +kernel
theorem dX2_readKind_43 : decode cX2_readKind 43 = .ok (.ireturn, 1) := by decide +kernel
theorem dX2_readKind_44 : decode cX2_readKind 44 = .ok (.aload_n 0, 1) := by decide +kernel
theorem dX2_readKind_45 : decode cX2_readKind 45 = .ok (.iconst 1, 1) := by decide +kernel
theorem dX2_readKind_46 : decode cX2_readKind 46 = .ok (.invokevirtual 62, 3) := by decide +kernel
theorem dX2_readKind_49 : decode cX2_readKind 49 = .ok (.iconst 0, 1) := by decide +kernel
theorem dX2_readKind_50 : decode cX2_readKind 50 = .ok (.ireturn, 1) := by decide +kernel
theorem dX3_init_0 : decode cX3_init 0 = .ok (.aload_n 0, 1) := by decide +kernel
theorem dX3_init_1 : decode cX3_init 1 = .ok (.invokespecial 3, 3) := by decide +kernel
theorem dX3_init_4 : decode cX3_init 4 = .ok (.aload_n 0, 1) := by decide +kernel
theorem dX3_init_5 : decode cX3_init 5 = .ok (.bipush 12, 2) := by decide +kernel
theorem dX3_init_7 : decode cX3_init 7 = .ok (.newarray .int, 2) := by decide +kernel
theorem dX3_init_9 : decode cX3_init 9 = .ok (.putfield 9, 3) := by decide +kernel
theorem dX3_init_12 : decode cX3_init 12 = .ok (.aload_n 0, 1) := by decide +kernel
theorem dX3_init_13 : decode cX3_init 13 = .ok (.aload_n 1, 1) := by decide +kernel
theorem dX3_init_14 : decode cX3_init 14 = .ok (.putfield 15, 3) := by decide +kernel
theorem dX3_init_17 : decode cX3_init 17 = .ok (.return_, 1) := by decide +kernel
theorem dX3_prepare_0 : decode cX3_prepare 0 = .ok (.aload_n 0, 1) := by decide +kernel
theorem dX3_prepare_1 : decode cX3_prepare 1 = .ok (.iconst 0, 1) := by decide +kernel
theorem dX3_prepare_2 : decode cX3_prepare 2 = .ok (.putfield 19, 3) := by decide +kernel
theorem dX3_prepare_5 : decode cX3_prepare 5 = .ok (.iconst 0, 1) := by decide +kernel
theorem dX3_prepare_6 : decode cX3_prepare 6 = .ok (.istore_n 2, 1) := by decide +kernel
theorem dX3_prepare_7 : decode cX3_prepare 7 = .ok (.iload_n 2, 1) := by decide +kernel
theorem dX3_prepare_8 : decode cX3_prepare 8 = .ok (.aload_n 0, 1) := by decide +kernel
theorem dX3_prepare_9 : decode cX3_prepare 9 = .ok (.getfield 15, 3) := by decide +kernel
theorem dX3_prepare_12 : decode cX3_prepare 12 = .ok (.getfield 23, 3) := by decide +kernel
theorem dX3_prepare_15 : decode cX3_prepare 15 = .ok (.getfield 29, 3) := by decide +kernel
theorem dX3_prepare_18 : decode cX3_prepare 18 = .ok (.if_icmp .ge 88, 3) := by decide +kernel
theorem dX3_prepare_21 : decode cX3_prepare 21 = .ok (.iload_n 2, 1) := by decide +kernel
theorem dX3_prepare_22 : decode cX3_prepare 22 = .ok (.bipush 12, 2) := by decide +kernel
theorem dX3_prepare_24 : decode cX3_prepare 24 = .ok (.if_icmp .ge 82, 3) := by decide +kernel
theorem dX3_prepare_27 : decode cX3_prepare 27 = .ok (.aload_n 0, 1) := by decide +kernel
theorem dX3_prepare_28 : decode cX3_prepare 28 = .ok (.getfield 9, 3) := by decide +kernel
theorem dX3_prepare_31 : decode cX3_prepare 31 = .ok (.iload_n 2, 1) := by decide +kernel
theorem dX3_prepare_32 : decode cX3_prepare 32 = .ok (.aload_n 0, 1) := by decide +kernel
theorem dX3_prepare_33 : decode cX3_prepare 33 = .ok (.getfield 15, 3) := by decide +kernel
theorem dX3_prepare_36 : decode cX3_prepare 36 = .ok (.iload_n 2, 1) := by decide +kernel
theorem dX3_prepare_37 : decode cX3_prepare 37 = .ok (.aload_n 0, 1) := by decide +kernel
theorem dX3_prepare_38 : decode cX3_prepare 38 = .ok (.getfield 15, 3) := by decide +kernel
theorem dX3_prepare_41 : decode cX3_prepare 41 = .ok (.getfield 34, 3) := by decide +kernel
theorem dX3_prepare_44 : decode cX3_prepare 44 = .ok (.getfield 38, 3) := by decide +kernel
theorem dX3_prepare_47 : decode cX3_prepare 47 = .ok (.invokevirtual 43, 3) := by decide +kernel
theorem dX3_prepare_50 : decode cX3_prepare 50 = .ok (.iastore, 1) := by decide +kernel
theorem dX3_prepare_51 : decode cX3_prepare 51 = .ok (.aload_n 0, 1) := by decide +kernel
theorem dX3_prepare_52 : decode cX3_prepare 52 = .ok (.getfield 15, 3) := by decide +kernel
theorem dX3_prepare_55 : decode cX3_prepare 55 = .ok (.getfield 23, 3) := by decide +kernel
theorem dX3_prepare_58 : decode cX3_prepare 58 = .ok (.getfield 47, 3) := by decide +kernel
theorem dX3_prepare_61 : decode cX3_prepare 61 = .ok (.iload_n 2, 1) := by decide +kernel
theorem dX3_prepare_62 : decode cX3_prepare 62 = .ok (.iaload, 1) := by decide +kernel
theorem dX3_prepare_63 : decode cX3_prepare 63 = .ok (.iload_n 1, 1) := by decide +kernel
theorem dX3_prepare_64 : decode cX3_prepare 64 = .ok (.if_icmp .ne 36, 3) := by decide +kernel
theorem dX3_prepare_67 : decode cX3_prepare 67 = .ok (.aload_n 0, 1) := by decide +kernel
theorem dX3_prepare_68 : decode cX3_prepare 68 = .ok (.getfield 15, 3) := by decide +kernel
theorem dX3_prepare_71 : decode cX3_prepare 71 = .ok (.iload_n 2, 1) := by decide +kernel
theorem dX3_prepare_72 : decode cX3_prepare 72 = .ok (.aload_n 0, 1) := by decide +kernel
theorem dX3_prepare_73 : decode cX3_prepare 73 = .ok (.getfield 15, 3) := by decide +kernel
theorem dX3_prepare_76 : decode cX3_prepare 76 = .ok (.getfield 34, 3) := by decide +kernel
theorem dX3_prepare_79 : decode cX3_prepare 79 = .ok (.getfield 38, 3) := by decide +kernel
theorem dX3_prepare_82 : decode cX3_prepare 82 = .ok (.invokevirtual 50, 3) := by decide +kernel
theorem dX3_prepare_85 : decode cX3_prepare 85 = .ok (.ifCond .eq 15, 3) := by decide +kernel
theorem dX3_prepare_88 : decode cX3_prepare 88 = .ok (.aload_n 0, 1) := by decide +kernel
theorem dX3_prepare_89 : decode cX3_prepare 89 = .ok (.dup, 1) := by decide +kernel
theorem dX3_prepare_90 : decode cX3_prepare 90 = .ok (.getfield 19, 3) := by decide +kernel
theorem dX3_prepare_93 : decode cX3_prepare 93 = .ok (.iconst 1, 1) := by decide +kernel
theorem dX3_prepare_94 : decode cX3_prepare 94 = .ok (.iload_n 2, 1) := by decide +kernel
theorem dX3_prepare_95 : decode cX3_prepare 95 = .ok (.ishl, 1) := by decide +kernel
theorem dX3_prepare_96 : decode cX3_prepare 96 = .ok (.ior, 1) := by decide +kernel
theorem dX3_prepare_97 : decode cX3_prepare 97 = .ok (.putfield 19, 3) := by decide +kernel
theorem dX3_prepare_100 : decode cX3_prepare 100 = .ok (.iinc 2 1, 3) := by decide +kernel
theorem dX3_prepare_103 : decode cX3_prepare 103 = .ok (.goto (-96), 3) := by decide +kernel
theorem dX3_prepare_106 : decode cX3_prepare 106 = .ok (.aload_n 0, 1) := by decide +kernel
theorem dX3_prepare_107 : decode cX3_prepare 107 = .ok (.aload_n 0, 1) := by decide +kernel
theorem dX3_prepare_108 : decode cX3_prepare 108 = .ok (.getfield 15, 3) := by decide +kernel
theorem dX3_prepare_111 : decode cX3_prepare 111 = .ok (.getfield 23, 3) := by decide +kernel
theorem dX3_prepare_114 : decode cX3_prepare 114 = .ok (.iload_n 1, 1) := by decide +kernel
theorem dX3_prepare_115 : decode cX3_prepare 115 = .ok (.invokevirtual 54, 3) := by decide +kernel
theorem dX3_prepare_118 : decode cX3_prepare 118 = .ok (.ifCond .eq 18, 3) := by decide +kernel
theorem dX3_prepare_121 : decode cX3_prepare 121 = .ok (.aload_n 0, 1) := by decide +kernel
theorem dX3_prepare_122 : decode cX3_prepare 122 = .ok (.getfield 15, 3) := by decide +kernel
theorem dX3_prepare_125 : decode cX3_prepare 125 = .ok (.getfield 34, 3) := by decide +kernel
theorem dX3_prepare_128 : decode cX3_prepare 128 = .ok (.getfield 58, 3) := by decide +kernel
theorem dX3_prepare_131 : decode cX3_prepare 131 = .ok (.iload_n 1, 1) := by decide +kernel
theorem dX3_prepare_132 : decode cX3_prepare 132 = .ok (.iaload, 1) := by decide +kernel
theorem dX3_prepare_133 : decode cX3_prepare 133 = .ok (.goto 4, 3) := by decide +kernel
theorem dX3_prepare_136 : decode cX3_prepare 136 = .ok (.iconst 0, 1) := by decide +kernel
theorem dX3_prepare_137 : decode cX3_prepare 137 = .ok (.putfield 61, 3) := by decide +kernel
theorem dX3_prepare_140 : decode cX3_prepare 140 = .ok (.aload_n 0, 1) := by decide +kernel
theorem dX3_prepare_141 : decode cX3_prepare 141 = .ok (.aload_n 0, 1) := by decide +kernel
theorem dX3_prepare_142 : decode cX3_prepare 142 = .ok (.getfield 15, 3) := by decide +kernel
theorem dX3_prepare_145 : decode cX3_prepare 145 = .ok (.getfield 23, 3) := by decide +kernel
theorem dX3_prepare_148 : decode cX3_prepare 148 = .ok (.iload_n 1, 1) := by decide +kernel
theorem dX3_prepare_149 : decode cX3_prepare 149 = .ok (.invokevirtual 64, 3) := by decide +kernel
theorem dX3_prepare_152 : decode cX3_prepare 152 = .ok (.putfield 68, 3) := by decide +kernel
theorem dX3_prepare_155 : decode cX3_prepare 155 = .ok (.return_, 1) := by decide +kernel
theorem dX3_isWon_0 : decode cX3_isWon 0 = .ok (.aload_n 0, 1) := by decide +kernel
theorem dX3_isWon_1 : decode cX3_isWon 1 = .ok (.aload_n 0, 1) := by decide +kernel
theorem dX3_isWon_2 : decode cX3_isWon 2 = .ok (.getfield 19, 3) := by decide +kernel
theorem dX3_isWon_5 : decode cX3_isWon 5 = .ok (.aload_n 0, 1) := by decide +kernel
theorem dX3_isWon_6 : decode cX3_isWon 6 = .ok (.getfield 61, 3) := by decide +kernel
theorem dX3_isWon_9 : decode cX3_isWon 9 = .ok (.iconst 0, 1) := by decide +kernel
theorem dX3_isWon_10 : decode cX3_isWon 10 = .ok (.invokevirtual 71, 3) := by decide +kernel
theorem dX3_isWon_13 : decode cX3_isWon 13 = .ok (.ireturn, 1) := by decide +kernel
theorem dX3_bestCall_0 : decode cX3_bestCall 0 = .ok (.iconst 0, 1) := by decide +kernel
theorem dX3_bestCall_1 : decode cX3_bestCall 1 = .ok (.istore_n 1, 1) := by decide +kernel
theorem dX3_bestCall_2 : decode cX3_bestCall 2 = .ok (.iload_n 1, 1) := by decide +kernel
theorem dX3_bestCall_3 : decode cX3_bestCall 3 = .ok (.bipush 12, 2) := by decide +kernel
theorem dX3_bestCall_5 : decode cX3_bestCall 5 = .ok (.if_icmp .ge 39, 3) := by decide +kernel
theorem dX3_bestCall_8 : decode cX3_bestCall 8 = .ok (.aload_n 0, 1) := by decide +kernel
theorem dX3_bestCall_9 : decode cX3_bestCall 9 = .ok (.getfield 19, 3) := by decide +kernel
theorem dX3_bestCall_12 : decode cX3_bestCall 12 = .ok (.iload_n 1, 1) := by decide +kernel
theorem dX3_bestCall_13 : decode cX3_bestCall 13 = .ok (.invokestatic 75, 3) := by decide +kernel
theorem dX3_bestCall_16 : decode cX3_bestCall 16 = .ok (.ifCond .eq 22, 3) := by decide +kernel
theorem dX3_bestCall_19 : decode cX3_bestCall 19 = .ok (.aload_n 0, 1) := by decide +kernel
theorem dX3_bestCall_20 : decode cX3_bestCall 20 = .ok (.iload_n 1, 1) := by decide +kernel
theorem dX3_bestCall_21 : decode cX3_bestCall 21 = .ok (.aload_n 0, 1) := by decide +kernel
theorem dX3_bestCall_22 : decode cX3_bestCall 22 = .ok (.getfield 19, 3) := by decide +kernel
theorem dX3_bestCall_25 : decode cX3_bestCall 25 = .ok (.aload_n 0, 1) := by decide +kernel
theorem dX3_bestCall_26 : decode cX3_bestCall 26 = .ok (.getfield 61, 3) := by decide +kernel
theorem dX3_bestCall_29 : decode cX3_bestCall 29 = .ok (.iconst 0, 1) := by decide +kernel
theorem dX3_bestCall_30 : decode cX3_bestCall 30 = .ok (.invokevirtual 78, 3) := by decide +kernel
theorem dX3_bestCall_33 : decode cX3_bestCall 33 = .ok (.ifCond .eq 5, 3) := by decide +kernel
theorem dX3_bestCall_36 : decode cX3_bestCall 36 = .ok (.iload_n 1, 1) := by decide +kernel
theorem dX3_bestCall_37 : decode cX3_bestCall 37 = .ok (.ireturn, 1) := by decide +kernel
theorem dX3_bestCall_38 : decode cX3_bestCall 38 = .ok (.iinc 1 1, 3) := by decide +kernel
theorem dX3_bestCall_41 : decode cX3_bestCall 41 = .ok (.goto (-39), 3) := by decide +kernel
theorem dX3_bestCall_44 : decode cX3_bestCall 44 = .ok (.iconst (-1), 1) := by decide +kernel
theorem dX3_bestCall_45 : decode cX3_bestCall 45 = .ok (.ireturn, 1) := by decide +kernel
theorem dX3_sideWins_0 : decode cX3_sideWins 0 = .ok (.iload_n 2, 1) := by decide +kernel
theorem dX3_sideWins_1 : decode cX3_sideWins 1 = .ok (.aload_n 0, 1) := by decide +kernel
theorem dX3_sideWins_2 : decode cX3_sideWins 2 = .ok (.getfield 68, 3) := by decide +kernel
theorem dX3_sideWins_5 : decode cX3_sideWins 5 = .ok (.if_icmp .lt 5, 3) := by decide +kernel
theorem dX3_sideWins_8 : decode cX3_sideWins 8 = .ok (.iconst 1, 1) := by decide +kernel
theorem dX3_sideWins_9 : decode cX3_sideWins 9 = .ok (.ireturn, 1) := by decide +kernel
theorem dX3_sideWins_10 : decode cX3_sideWins 10 = .ok (.iload_n 3, 1) := by decide +kernel
theorem dX3_sideWins_11 : decode cX3_sideWins 11 = .ok (.bipush 6, 2) := by decide +kernel
theorem dX3_sideWins_13 : decode cX3_sideWins 13 = .ok (.if_icmp .le 5, 3) := by decide +kernel
theorem dX3_sideWins_16 : decode cX3_sideWins 16 = .ok (.iconst 0, 1) := by decide +kernel
theorem dX3_sideWins_17 : decode cX3_sideWins 17 = .ok (.ireturn, 1) := by decide +kernel
theorem dX3_sideWins_18 : decode cX3_sideWins 18 = .ok (.iconst 0, 1) := by decide +kernel
theorem dX3_sideWins_19 : decode cX3_sideWins 19 = .ok (.istore 4, 2) := by decide +kernel
theorem dX3_sideWins_21 : decode cX3_sideWins 21 = .ok (.iload 4, 2) := by decide +kernel
theorem dX3_sideWins_23 : decode cX3_sideWins 23 = .ok (.bipush 12, 2) := by decide +kernel
theorem dX3_sideWins_25 : decode cX3_sideWins 25 = .ok (.if_icmp .ge 32, 3) := by decide +kernel
theorem dX3_sideWins_28 : decode cX3_sideWins 28 = .ok (.iload_n 1, 1) := by decide +kernel
theorem dX3_sideWins_29 : decode cX3_sideWins 29 = .ok (.iload 4, 2) := by decide +kernel
theorem dX3_sideWins_31 : decode cX3_sideWins 31 = .ok (.invokestatic 75, 3) := by decide +kernel
theorem dX3_sideWins_34 : decode cX3_sideWins 34 = .ok (.ifCond .eq 17, 3) := by decide +kernel
theorem dX3_sideWins_37 : decode cX3_sideWins 37 = .ok (.aload_n 0, 1) := by decide +kernel
theorem dX3_sideWins_38 : decode cX3_sideWins 38 = .ok (.iload 4, 2) := by decide +kernel
theorem dX3_sideWins_40 : decode cX3_sideWins 40 = .ok (.iload_n 1, 1) := by decide +kernel
theorem dX3_sideWins_41 : decode cX3_sideWins 41 = .ok (.iload_n 2, 1) := by decide +kernel
theorem dX3_sideWins_42 : decode cX3_sideWins 42 = .ok (.iload_n 3, 1) := by decide +kernel
theorem dX3_sideWins_43 : decode cX3_sideWins 43 = .ok (.invokevirtual 78, 3) := by decide +kernel
theorem dX3_sideWins_46 : decode cX3_sideWins 46 = .ok (.ifCond .eq 5, 3) := by decide +kernel
theorem dX3_sideWins_49 : decode cX3_sideWins 49 = .ok (.iconst 1, 1) := by decide +kernel
theorem dX3_sideWins_50 : decode cX3_sideWins 50 = .ok (.ireturn, 1) := by decide +kernel
theorem dX3_sideWins_51 : decode cX3_sideWins 51 = .ok (.iinc 4 1, 3) := by decide +kernel
theorem dX3_sideWins_54 : decode cX3_sideWins 54 = .ok (.goto (-33), 3) := by decide +kernel
theorem dX3_sideWins_57 : decode cX3_sideWins 57 = .ok (.iconst 0, 1) := by decide +kernel
theorem dX3_sideWins_58 : decode cX3_sideWins 58 = .ok (.ireturn, 1) := by decide +kernel
theorem dX3_winsByCalling_0 : decode cX3_winsByCalling 0 = .ok (.iload_n 3, 1) := by decide +kernel
theorem dX3_winsByCalling_1 : decode cX3_winsByCalling 1 = .ok (.aload_n 0, 1) := by decide +kernel
theorem dX3_winsByCalling_2 : decode cX3_winsByCalling 2 = .ok (.getfield 9, 3) := by decide +kernel
theorem dX3_winsByCalling_5 : decode cX3_winsByCalling 5 = .ok (.iload_n 1, 1) := by decide +kernel
theorem dX3_winsByCalling_6 : decode cX3_winsByCalling 6 = .ok (.iaload, 1) := by decide +kernel
theorem dX3_winsByCalling_7 : decode cX3_winsByCalling 7 = .ok (.iadd, 1) := by decide +kernel
theorem dX3_winsByCalling_8 : decode cX3_winsByCalling 8 = .ok (.istore 5, 2) := by decide +kernel
theorem dX3_winsByCalling_10 : decode cX3_winsByCalling 10 = .ok (.iload 5, 2) := by decide +kernel
theorem dX3_winsByCalling_12 : decode cX3_winsByCalling 12 = .ok (.aload_n 0, 1) := by decide +kernel
theorem dX3_winsByCalling_13 : decode cX3_winsByCalling 13 = .ok (.getfield 68, 3) := by decide +kernel
theorem dX3_winsByCalling_16 : decode cX3_winsByCalling 16 = .ok (.if_icmp .lt 5, 3) := by decide +kernel
theorem dX3_winsByCalling_19 : decode cX3_winsByCalling 19 = .ok (.iconst 1, 1) := by decide +kernel
theorem dX3_winsByCalling_20 : decode cX3_winsByCalling 20 = .ok (.ireturn, 1) := by decide +kernel
theorem dX3_winsByCalling_21 : decode cX3_winsByCalling 21 = .ok (.iload_n 2, 1) := by decide +kernel
theorem dX3_winsByCalling_22 : decode cX3_winsByCalling 22 = .ok (.iconst 1, 1) := by decide +kernel
theorem dX3_winsByCalling_23 : decode cX3_winsByCalling 23 = .ok (.iload_n 1, 1) := by decide +kernel
theorem dX3_winsByCalling_24 : decode cX3_winsByCalling 24 = .ok (.ishl, 1) := by decide +kernel
theorem dX3_winsByCalling_25 : decode cX3_winsByCalling 25 = .ok (.iconst (-1), 1) := by decide +kernel
theorem dX3_winsByCalling_26 : decode cX3_winsByCalling 26 = .ok (.ixor, 1) := by decide +kernel
theorem dX3_winsByCalling_27 : decode cX3_winsByCalling 27 = .ok (.iand, 1) := by decide +kernel
theorem dX3_winsByCalling_28 : decode cX3_winsByCalling 28 = .ok (.istore 6, 2) := by decide +kernel
theorem dX3_winsByCalling_30 : decode cX3_winsByCalling 30 = .ok (.iload 6, 2) := by decide +kernel
theorem dX3_winsByCalling_32 : decode cX3_winsByCalling 32 = .ok (.ifCond .ne 5, 3) := by decide +kernel
theorem dX3_winsByCalling_35 : decode cX3_winsByCalling 35 = .ok (.iconst 0, 1) := by decide +kernel
theorem dX3_winsByCalling_36 : decode cX3_winsByCalling 36 = .ok (.ireturn, 1) := by decide +kernel
theorem dX3_winsByCalling_37 : decode cX3_winsByCalling 37 = .ok (.iconst 0, 1) := by decide +kernel
theorem dX3_winsByCalling_38 : decode cX3_winsByCalling 38 = .ok (.istore 7, 2) := by decide +kernel
theorem dX3_winsByCalling_40 : decode cX3_winsByCalling 40 = .ok (.iload 7, 2) := by decide +kernel
theorem dX3_winsByCalling_42 : decode cX3_winsByCalling 42 = .ok (.bipush 12, 2) := by decide +kernel
theorem dX3_winsByCalling_44 : decode cX3_winsByCalling 44 = .ok (.if_icmp .ge 45, 3) := by decide +kernel
theorem dX3_winsByCalling_47 : decode cX3_winsByCalling 47 = .ok (.iload 6, 2) := by decide +kernel
theorem dX3_winsByCalling_49 : decode cX3_winsByCalling 49 = .ok (.iload 7, 2) := by decide +kernel
theorem dX3_winsByCalling_51 : decode cX3_winsByCalling 51 = .ok (.invokestatic 75, 3) := by decide +kernel
theorem dX3_winsByCalling_54 : decode cX3_winsByCalling 54 = .ok (.ifCond .eq 29, 3) := by decide +kernel
theorem dX3_winsByCalling_57 : decode cX3_winsByCalling 57 = .ok (.aload_n 0, 1) := by decide +kernel
theorem dX3_winsByCalling_58 : decode cX3_winsByCalling 58 = .ok (.iload 6, 2) := by decide +kernel
theorem dX3_winsByCalling_60 : decode cX3_winsByCalling 60 = .ok (.iconst 1, 1) := by decide +kernel
theorem dX3_winsByCalling_61 : decode cX3_winsByCalling 61 = .ok (.iload 7, 2) := by decide +kernel
theorem dX3_winsByCalling_63 : decode cX3_winsByCalling 63 = .ok (.ishl, 1) := by decide +kernel
theorem dX3_winsByCalling_64 : decode cX3_winsByCalling 64 = .ok (.iconst (-1), 1) := by decide +kernel
theorem dX3_winsByCalling_65 : decode cX3_winsByCalling 65 = .ok (.ixor, 1) := by decide +kernel
theorem dX3_winsByCalling_66 : decode cX3_winsByCalling 66 = .ok (.iand, 1) := by decide +kernel
theorem dX3_winsByCalling_67 : decode cX3_winsByCalling 67 = .ok (.iload 5, 2) := by decide +kernel
theorem dX3_winsByCalling_69 : decode cX3_winsByCalling 69 = .ok (.iconst 2, 1) := by decide +kernel
theorem dX3_winsByCalling_70 : decode cX3_winsByCalling 70 = .ok (.idiv, 1) := by decide +kernel
theorem dX3_winsByCalling_71 : decode cX3_winsByCalling 71 = .ok (.iload 4, 2) := by decide +kernel
theorem dX3_winsByCalling_73 : decode cX3_winsByCalling 73 = .ok (.iconst 1, 1) := by decide +kernel
theorem dX3_winsByCalling_74 : decode cX3_winsByCalling 74 = .ok (.iadd, 1) := by decide +kernel
theorem dX3_winsByCalling_75 : decode cX3_winsByCalling 75 = .ok (.invokevirtual 71, 3) := by decide +kernel
theorem dX3_winsByCalling_78 : decode cX3_winsByCalling 78 = .ok (.ifCond .ne 5, 3) := by decide +kernel
theorem dX3_winsByCalling_81 : decode cX3_winsByCalling 81 = .ok (.iconst 0, 1) := by decide +kernel
theorem dX3_winsByCalling_82 : decode cX3_winsByCalling 82 = .ok (.ireturn, 1) := by decide +kernel
theorem dX3_winsByCalling_83 : decode cX3_winsByCalling 83 = .ok (.iinc 7 1, 3) := by decide +kernel
theorem dX3_winsByCalling_86 : decode cX3_winsByCalling 86 = .ok (.goto (-46), 3) := by decide +kernel
theorem dX3_winsByCalling_89 : decode cX3_winsByCalling 89 = .ok (.iconst 1, 1) := by decide +kernel
theorem dX3_winsByCalling_90 : decode cX3_winsByCalling 90 = .ok (.ireturn, 1) := by decide +kernel
theorem dX3_has_0 : decode cX3_has 0 = .ok (.iload_n 0, 1) := by decide +kernel
theorem dX3_has_1 : decode cX3_has 1 = .ok (.iload_n 1, 1) := by decide +kernel
theorem dX3_has_2 : decode cX3_has 2 = .ok (.ishr, 1) := by decide +kernel
theorem dX3_has_3 : decode cX3_has 3 = .ok (.iconst 1, 1) := by decide +kernel
theorem dX3_has_4 : decode cX3_has 4 = .ok (.iand, 1) := by decide +kernel
theorem dX3_has_5 : decode cX3_has 5 = .ok (.iconst 1, 1) := by decide +kernel
theorem dX3_has_6 : decode cX3_has 6 = .ok (.if_icmp .ne 7, 3) := by decide +kernel
theorem dX3_has_9 : decode cX3_has 9 = .ok (.iconst 1, 1) := by decide +kernel
theorem dX3_has_10 : decode cX3_has 10 = .ok (.goto 4, 3) := by decide +kernel
theorem dX3_has_13 : decode cX3_has 13 = .ok (.iconst 0, 1) := by decide +kernel
theorem dX3_has_14 : decode cX3_has 14 = .ok (.ireturn, 1) := by decide +kernel
theorem dX4_init_0 : decode cX4_init 0 = .ok (.aload_n 0, 1) := by decide +kernel
theorem dX4_init_1 : decode cX4_init 1 = .ok (.invokespecial 3, 3) := by decide +kernel
theorem dX4_init_4 : decode cX4_init 4 = .ok (.aload_n 0, 1) := by decide +kernel
theorem dX4_init_5 : decode cX4_init 5 = .ok (.bipush 6, 2) := by decide +kernel
theorem dX4_init_7 : decode cX4_init 7 = .ok (.newarray .int, 2) := by decide +kernel
theorem dX4_init_9 : decode cX4_init 9 = .ok (.putfield 9, 3) := by decide +kernel
theorem dX4_init_12 : decode cX4_init 12 = .ok (.aload_n 0, 1) := by decide +kernel
theorem dX4_init_13 : decode cX4_init 13 = .ok (.bipush 6, 2) := by decide +kernel
theorem dX4_init_15 : decode cX4_init 15 = .ok (.newarray .int, 2) := by decide +kernel
theorem dX4_init_17 : decode cX4_init 17 = .ok (.putfield 15, 3) := by decide +kernel
theorem dX4_init_20 : decode cX4_init 20 = .ok (.aload_n 0, 1) := by decide +kernel
theorem dX4_init_21 : decode cX4_init 21 = .ok (.bipush 6, 2) := by decide +kernel
theorem dX4_init_23 : decode cX4_init 23 = .ok (.newarray .int, 2) := by decide +kernel
theorem dX4_init_25 : decode cX4_init 25 = .ok (.putfield 18, 3) := by decide +kernel
theorem dX4_init_28 : decode cX4_init 28 = .ok (.aload_n 0, 1) := by decide +kernel
theorem dX4_init_29 : decode cX4_init 29 = .ok (.bipush 6, 2) := by decide +kernel
theorem dX4_init_31 : decode cX4_init 31 = .ok (.newarray .int, 2) := by decide +kernel
theorem dX4_init_33 : decode cX4_init 33 = .ok (.putfield 21, 3) := by decide +kernel
theorem dX4_init_36 : decode cX4_init 36 = .ok (.return_, 1) := by decide +kernel
theorem dX4_copiesOn_0 : decode cX4_copiesOn 0 = .ok (.aload_n 0, 1) := by decide +kernel
theorem dX4_copiesOn_1 : decode cX4_copiesOn 1 = .ok (.iload_n 1, 1) := by decide +kernel
theorem dX4_copiesOn_2 : decode cX4_copiesOn 2 = .ok (.invokevirtual 24, 3) := by decide +kernel
theorem dX4_copiesOn_5 : decode cX4_copiesOn 5 = .ok (.istore_n 2, 1) := by decide +kernel
theorem dX4_copiesOn_6 : decode cX4_copiesOn 6 = .ok (.iload_n 2, 1) := by decide +kernel
theorem dX4_copiesOn_7 : decode cX4_copiesOn 7 = .ok (.ifCond .lt 12, 3) := by decide +kernel
theorem dX4_copiesOn_10 : decode cX4_copiesOn 10 = .ok (.aload_n 0, 1) := by decide +kernel
theorem dX4_copiesOn_11 : decode cX4_copiesOn 11 = .ok (.getfield 15, 3) := by decide +kernel
theorem dX4_copiesOn_14 : decode cX4_copiesOn 14 = .ok (.iload_n 2, 1) := by decide +kernel
theorem dX4_copiesOn_15 : decode cX4_copiesOn 15 = .ok (.iaload, 1) := by decide +kernel
theorem dX4_copiesOn_16 : decode cX4_copiesOn 16 = .ok (.goto 4, 3) := by decide +kernel
theorem dX4_copiesOn_19 : decode cX4_copiesOn 19 = .ok (.iconst 1, 1) := by decide +kernel
theorem dX4_copiesOn_20 : decode cX4_copiesOn 20 = .ok (.ireturn, 1) := by decide +kernel
theorem dX4_moonOn_0 : decode cX4_moonOn 0 = .ok (.aload_n 0, 1) := by decide +kernel
theorem dX4_moonOn_1 : decode cX4_moonOn 1 = .ok (.iload_n 1, 1) := by decide +kernel
theorem dX4_moonOn_2 : decode cX4_moonOn 2 = .ok (.invokevirtual 24, 3) := by decide +kernel
theorem dX4_moonOn_5 : decode cX4_moonOn 5 = .ok (.istore_n 2, 1) := by decide +kernel
theorem dX4_moonOn_6 : decode cX4_moonOn 6 = .ok (.iload_n 2, 1) := by decide +kernel
theorem dX4_moonOn_7 : decode cX4_moonOn 7 = .ok (.ifCond .lt 12, 3) := by decide +kernel
theorem dX4_moonOn_10 : decode cX4_moonOn 10 = .ok (.aload_n 0, 1) := by decide +kernel
theorem dX4_moonOn_11 : decode cX4_moonOn 11 = .ok (.getfield 18, 3) := by decide +kernel
theorem dX4_moonOn_14 : decode cX4_moonOn 14 = .ok (.iload_n 2, 1) := by decide +kernel
theorem dX4_moonOn_15 : decode cX4_moonOn 15 = .ok (.iaload, 1) := by decide +kernel
theorem dX4_moonOn_16 : decode cX4_moonOn 16 = .ok (.goto 5, 3) := by decide +kernel
theorem dX4_moonOn_19 : decode cX4_moonOn 19 = .ok (.bipush 28, 2) := by decide +kernel
theorem dX4_moonOn_21 : decode cX4_moonOn 21 = .ok (.ireturn, 1) := by decide +kernel
theorem dX4_talkersOn_0 : decode cX4_talkersOn 0 = .ok (.aload_n 0, 1) := by decide +kernel
theorem dX4_talkersOn_1 : decode cX4_talkersOn 1 = .ok (.iload_n 1, 1) := by decide +kernel
theorem dX4_talkersOn_2 : decode cX4_talkersOn 2 = .ok (.invokevirtual 24, 3) := by decide +kernel
theorem dX4_talkersOn_5 : decode cX4_talkersOn 5 = .ok (.istore_n 2, 1) := by decide +kernel
theorem dX4_talkersOn_6 : decode cX4_talkersOn 6 = .ok (.iload_n 2, 1) := by decide +kernel
theorem dX4_talkersOn_7 : decode cX4_talkersOn 7 = .ok (.ifCond .lt 12, 3) := by decide +kernel
theorem dX4_talkersOn_10 : decode cX4_talkersOn 10 = .ok (.aload_n 0, 1) := by decide +kernel
theorem dX4_talkersOn_11 : decode cX4_talkersOn 11 = .ok (.getfield 21, 3) := by decide +kernel
theorem dX4_talkersOn_14 : decode cX4_talkersOn 14 = .ok (.iload_n 2, 1) := by decide +kernel
theorem dX4_talkersOn_15 : decode cX4_talkersOn 15 = .ok (.iaload, 1) := by decide +kernel
theorem dX4_talkersOn_16 : decode cX4_talkersOn 16 = .ok (.goto 4, 3) := by decide +kernel
theorem dX4_talkersOn_19 : decode cX4_talkersOn 19 = .ok (.iconst 2, 1) := by decide +kernel
theorem dX4_talkersOn_20 : decode cX4_talkersOn 20 = .ok (.ireturn, 1) := by decide +kernel
theorem dX4_readFrom_0 : decode cX4_readFrom 0 = .ok (.aload_n 0, 1) := by decide +kernel
theorem dX4_readFrom_1 : decode cX4_readFrom 1 = .ok (.iconst 0, 1) := by decide +kernel
theorem dX4_readFrom_2 : decode cX4_readFrom 2 = .ok (.putfield 28, 3) := by decide +kernel
theorem dX4_readFrom_5 : decode cX4_readFrom 5 = .ok (.iconst 0, 1) := by decide +kernel
theorem dX4_readFrom_6 : decode cX4_readFrom 6 = .ok (.istore_n 2, 1) := by decide +kernel
theorem dX4_readFrom_7 : decode cX4_readFrom 7 = .ok (.iload_n 2, 1) := by decide +kernel
theorem dX4_readFrom_8 : decode cX4_readFrom 8 = .ok (.sipush 500, 3) := by decide +kernel
theorem dX4_readFrom_11 : decode cX4_readFrom 11 = .ok (.if_icmp .ge 38, 3) := by decide +kernel
theorem dX4_readFrom_14 : decode cX4_readFrom 14 = .ok (.aload_n 1, 1) := by decide +kernel
theorem dX4_readFrom_15 : decode cX4_readFrom 15 = .ok (.invokevirtual 32, 3) := by decide +kernel
theorem dX4_readFrom_18 : decode cX4_readFrom 18 = .ok (.ifCond .eq 31, 3) := by decide +kernel
theorem dX4_readFrom_21 : decode cX4_readFrom 21 = .ok (.aload_n 1, 1) := by decide +kernel
theorem dX4_readFrom_22 : decode cX4_readFrom 22 = .ok (.ldc 38, 2) := by decide +kernel
theorem dX4_readFrom_24 : decode cX4_readFrom 24 = .ok (.invokevirtual 39, 3) := by decide +kernel
theorem dX4_readFrom_27 : decode cX4_readFrom 27 = .ok (.ifCond .eq 11, 3) := by decide +kernel
theorem dX4_readFrom_30 : decode cX4_readFrom 30 = .ok (.aload_n 0, 1) := by decide +kernel
theorem dX4_readFrom_31 : decode cX4_readFrom 31 = .ok (.aload_n 1, 1) := by decide +kernel
theorem dX4_readFrom_32 : decode cX4_readFrom 32 = .ok (.invokevirtual 43, 3) := by decide +kernel
theorem dX4_readFrom_35 : decode cX4_readFrom 35 = .ok (.goto 8, 3) := by decide +kernel
theorem dX4_readFrom_38 : decode cX4_readFrom 38 = .ok (.aload_n 1, 1) := by decide +kernel
theorem dX4_readFrom_39 : decode cX4_readFrom 39 = .ok (.iconst 1, 1) := by decide +kernel
theorem dX4_readFrom_40 : decode cX4_readFrom 40 = .ok (.invokevirtual 47, 3) := by decide +kernel
theorem dX4_readFrom_43 : decode cX4_readFrom 43 = .ok (.iinc 2 1, 3) := by decide +kernel
theorem dX4_readFrom_46 : decode cX4_readFrom 46 = .ok (.goto (-39), 3) := by decide +kernel
theorem dX4_readFrom_49 : decode cX4_readFrom 49 = .ok (.return_, 1) := by decide +kernel
theorem dX4_readClause_0 : decode cX4_readClause 0 = .ok (.aload_n 0, 1) := by decide +kernel
theorem dX4_readClause_1 : decode cX4_readClause 1 = .ok (.getfield 28, 3) := by decide +kernel
theorem dX4_readClause_4 : decode cX4_readClause 4 = .ok (.bipush 6, 2) := by decide +kernel
theorem dX4_readClause_6 : decode cX4_readClause 6 = .ok (.if_icmp .lt 9, 3) := by decide +kernel
theorem dX4_readClause_9 : decode cX4_readClause 9 = .ok (.aload_n 1, 1) := by decide +kernel
theorem dX4_readClause_10 : decode cX4_readClause 10 = .ok (.iconst 3, 1) := by decide +kernel
theorem dX4_readClause_11 : decode cX4_readClause 11 = .ok (.invokevirtual 51, 3) := by decide +kernel
theorem dX4_readClause_14 : decode cX4_readClause 14 = .ok (.return_, 1) := by decide +kernel
theorem dX4_readClause_15 : decode cX4_readClause 15 = .ok (.aload_n 0, 1) := by decide +kernel
theorem dX4_readClause_16 : decode cX4_readClause 16 = .ok (.getfield 9, 3) := by decide +kernel
theorem dX4_readClause_19 : decode cX4_readClause 19 = .ok (.aload_n 0, 1) := by decide +kernel
theorem dX4_readClause_20 : decode cX4_readClause 20 = .ok (.getfield 28, 3) := by decide +kernel
theorem dX4_readClause_23 : decode cX4_readClause 23 = .ok (.aload_n 1, 1) := by decide +kernel
theorem dX4_readClause_24 : decode cX4_readClause 24 = .ok (.iconst 0, 1) := by decide +kernel
theorem dX4_readClause_25 : decode cX4_readClause 25 = .ok (.sipush 399, 3) := by decide +kernel
theorem dX4_readClause_28 : decode cX4_readClause 28 = .ok (.invokevirtual 54, 3) := by decide +kernel
theorem dX4_readClause_31 : decode cX4_readClause 31 = .ok (.iastore, 1) := by decide +kernel
theorem dX4_readClause_32 : decode cX4_readClause 32 = .ok (.aload_n 1, 1) := by decide +kernel
theorem dX4_readClause_33 : decode cX4_readClause 33 = .ok (.invokevirtual 58, 3) := by decide +kernel
theorem dX4_readClause_36 : decode cX4_readClause 36 = .ok (.ifCond .eq 38, 3) := by decide +kernel
theorem dX4_readClause_39 : decode cX4_readClause 39 = .ok (.aload_n 0, 1) := by decide +kernel
theorem dX4_readClause_40 : decode cX4_readClause 40 = .ok (.getfield 28, 3) := by decide +kernel
theorem dX4_readClause_43 : decode cX4_readClause 43 = .ok (.ifCond .le 31, 3) := by decide +kernel
theorem dX4_readClause_46 : decode cX4_readClause 46 = .ok (.aload_n 0, 1) := by decide +kernel
theorem dX4_readClause_47 : decode cX4_readClause 47 = .ok (.getfield 9, 3) := by decide +kernel
theorem dX4_readClause_50 : decode cX4_readClause 50 = .ok (.aload_n 0, 1) := by decide +kernel
theorem dX4_readClause_51 : decode cX4_readClause 51 = .ok (.getfield 28, 3) := by decide +kernel
theorem dX4_readClause_54 : decode cX4_readClause 54 = .ok (.iaload, 1) := by decide +kernel
theorem dX4_readClause_55 : decode cX4_readClause 55 = .ok (.aload_n 0, 1) := by decide +kernel
theorem dX4_readClause_56 : decode cX4_readClause 56 = .ok (.getfield 9, 3) := by decide +kernel
theorem dX4_readClause_59 : decode cX4_readClause 59 = .ok (.aload_n 0, 1) := by decide +kernel
theorem dX4_readClause_60 : decode cX4_readClause 60 = .ok (.getfield 28, 3) := by decide +kernel
theorem dX4_readClause_63 : decode cX4_readClause 63 = .ok (.iconst 1, 1) := by decide +kernel
theorem dX4_readClause_64 : decode cX4_readClause 64 = .ok (.isub, 1) := by decide +kernel
theorem dX4_readClause_65 : decode cX4_readClause 65 = .ok (.iaload, 1) := by decide +kernel
theorem dX4_readClause_66 : decode cX4_readClause 66 = .ok (.if_icmp .gt 8, 3) := by decide +kernel
theorem dX4_readClause_69 : decode cX4_readClause 69 = .ok (.aload_n 1, 1) := by decide +kernel
theorem dX4_readClause_70 : decode cX4_readClause 70 = .ok (.iconst 4, 1) := by decide +kernel
theorem dX4_readClause_71 : decode cX4_readClause 71 = .ok (.invokevirtual 51, 3) := by decide +kernel
theorem dX4_readClause_74 : decode cX4_readClause 74 = .ok (.aload_n 0, 1) := by decide +kernel
theorem dX4_readClause_75 : decode cX4_readClause 75 = .ok (.getfield 15, 3) := by decide +kernel
theorem dX4_readClause_78 : decode cX4_readClause 78 = .ok (.aload_n 0, 1) := by decide +kernel
theorem dX4_readClause_79 : decode cX4_readClause 79 = .ok (.getfield 28, 3) := by decide +kernel
theorem dX4_readClause_82 : decode cX4_readClause 82 = .ok (.aload_n 1, 1) := by decide +kernel
theorem dX4_readClause_83 : decode cX4_readClause 83 = .ok (.iconst 0, 1) := by decide +kernel
theorem dX4_readClause_84 : decode cX4_readClause 84 = .ok (.bipush 6, 2) := by decide +kernel
theorem dX4_readClause_86 : decode cX4_readClause 86 = .ok (.invokevirtual 54, 3) := by decide +kernel
theorem dX4_readClause_89 : decode cX4_readClause 89 = .ok (.iastore, 1) := by decide +kernel
theorem dX4_readClause_90 : decode cX4_readClause 90 = .ok (.aload_n 0, 1) := by decide +kernel
theorem dX4_readClause_91 : decode cX4_readClause 91 = .ok (.getfield 18, 3) := by decide +kernel
theorem dX4_readClause_94 : decode cX4_readClause 94 = .ok (.aload_n 0, 1) := by decide +kernel
theorem dX4_readClause_95 : decode cX4_readClause 95 = .ok (.getfield 28, 3) := by decide +kernel
theorem dX4_readClause_98 : decode cX4_readClause 98 = .ok (.aload_n 1, 1) := by decide +kernel
theorem dX4_readClause_99 : decode cX4_readClause 99 = .ok (.iconst 1, 1) := by decide +kernel
theorem dX4_readClause_100 : decode cX4_readClause 100 = .ok (.bipush 60, 2) := by decide +kernel
theorem dX4_readClause_102 : decode cX4_readClause 102 = .ok (.invokevirtual 54, 3) := by decide +kernel
theorem dX4_readClause_105 : decode cX4_readClause 105 = .ok (.iastore, 1) := by decide +kernel
theorem dX4_readClause_106 : decode cX4_readClause 106 = .ok (.aload_n 0, 1) := by decide +kernel
theorem dX4_readClause_107 : decode cX4_readClause 107 = .ok (.getfield 21, 3) := by decide +kernel
theorem dX4_readClause_110 : decode cX4_readClause 110 = .ok (.aload_n 0, 1) := by decide +kernel
theorem dX4_readClause_111 : decode cX4_readClause 111 = .ok (.getfield 28, 3) := by decide +kernel
theorem dX4_readClause_114 : decode cX4_readClause 114 = .ok (.aload_n 1, 1) := by decide +kernel
theorem dX4_readClause_115 : decode cX4_readClause 115 = .ok (.iconst 1, 1) := by decide +kernel
theorem dX4_readClause_116 : decode cX4_readClause 116 = .ok (.bipush 6, 2) := by decide +kernel
theorem dX4_readClause_118 : decode cX4_readClause 118 = .ok (.invokevirtual 54, 3) := by decide +kernel
theorem dX4_readClause_121 : decode cX4_readClause 121 = .ok (.iastore, 1) := by decide +kernel
theorem dX4_readClause_122 : decode cX4_readClause 122 = .ok (.aload_n 1, 1) := by decide +kernel
theorem dX4_readClause_123 : decode cX4_readClause 123 = .ok (.invokevirtual 61, 3) := by decide +kernel
theorem dX4_readClause_126 : decode cX4_readClause 126 = .ok (.aload_n 0, 1) := by decide +kernel
theorem dX4_readClause_127 : decode cX4_readClause 127 = .ok (.dup, 1) := by decide +kernel
theorem dX4_readClause_128 : decode cX4_readClause 128 = .ok (.getfield 28, 3) := by decide +kernel
theorem dX4_readClause_131 : decode cX4_readClause 131 = .ok (.iconst 1, 1) := by decide +kernel
theorem dX4_readClause_132 : decode cX4_readClause 132 = .ok (.iadd, 1) := by decide +kernel
theorem dX4_readClause_133 : decode cX4_readClause 133 = .ok (.putfield 28, 3) := by decide +kernel
theorem dX4_readClause_136 : decode cX4_readClause 136 = .ok (.return_, 1) := by decide +kernel
theorem dX4_clauseOn_0 : decode cX4_clauseOn 0 = .ok (.iconst (-1), 1) := by decide +kernel
theorem dX4_clauseOn_1 : decode cX4_clauseOn 1 = .ok (.istore_n 2, 1) := by decide +kernel
theorem dX4_clauseOn_2 : decode cX4_clauseOn 2 = .ok (.iconst 0, 1) := by decide +kernel
theorem dX4_clauseOn_3 : decode cX4_clauseOn 3 = .ok (.istore_n 3, 1) := by decide +kernel
theorem dX4_clauseOn_4 : decode cX4_clauseOn 4 = .ok (.iload_n 3, 1) := by decide +kernel
theorem dX4_clauseOn_5 : decode cX4_clauseOn 5 = .ok (.aload_n 0, 1) := by decide +kernel
theorem dX4_clauseOn_6 : decode cX4_clauseOn 6 = .ok (.getfield 28, 3) := by decide +kernel
theorem dX4_clauseOn_9 : decode cX4_clauseOn 9 = .ok (.if_icmp .ge 27, 3) := by decide +kernel
theorem dX4_clauseOn_12 : decode cX4_clauseOn 12 = .ok (.iload_n 3, 1) := by decide +kernel
theorem dX4_clauseOn_13 : decode cX4_clauseOn 13 = .ok (.bipush 6, 2) := by decide +kernel
theorem dX4_clauseOn_15 : decode cX4_clauseOn 15 = .ok (.if_icmp .ge 21, 3) := by decide +kernel
theorem dX4_clauseOn_18 : decode cX4_clauseOn 18 = .ok (.aload_n 0, 1) := by decide +kernel
theorem dX4_clauseOn_19 : decode cX4_clauseOn 19 = .ok (.getfield 9, 3) := by decide +kernel
theorem dX4_clauseOn_22 : decode cX4_clauseOn 22 = .ok (.iload_n 3, 1) := by decide +kernel
theorem dX4_clauseOn_23 : decode cX4_clauseOn 23 = .ok (.iaload, 1) := by decide +kernel
theorem dX4_clauseOn_24 : decode cX4_clauseOn 24 = .ok (.iload_n 1, 1) := by decide +kernel
theorem dX4_clauseOn_25 : decode cX4_clauseOn 25 = .ok (.if_icmp .gt 11, 3) := by decide +kernel
theorem dX4_clauseOn_28 : decode cX4_clauseOn 28 = .ok (.iload_n 3, 1) := by decide +kernel
theorem dX4_clauseOn_29 : decode cX4_clauseOn 29 = .ok (.istore_n 2, 1) := by decide +kernel
theorem dX4_clauseOn_30 : decode cX4_clauseOn 30 = .ok (.iinc 3 1, 3) := by decide +kernel
theorem dX4_clauseOn_33 : decode cX4_clauseOn 33 = .ok (.goto (-29), 3) := by decide +kernel
theorem dX4_clauseOn_36 : decode cX4_clauseOn 36 = .ok (.iload_n 2, 1) := by decide +kernel
theorem dX4_clauseOn_37 : decode cX4_clauseOn 37 = .ok (.ireturn, 1) := by decide +kernel
theorem dX5_init_0 : decode cX5_init 0 = .ok (.aload_n 0, 1) := by decide +kernel
theorem dX5_init_1 : decode cX5_init 1 = .ok (.invokespecial 3, 3) := by decide +kernel
theorem dX5_init_4 : decode cX5_init 4 = .ok (.aload_n 0, 1) := by decide +kernel
theorem dX5_init_5 : decode cX5_init 5 = .ok (.aload_n 1, 1) := by decide +kernel
theorem dX5_init_6 : decode cX5_init 6 = .ok (.putfield 9, 3) := by decide +kernel
theorem dX5_init_9 : decode cX5_init 9 = .ok (.return_, 1) := by decide +kernel
theorem dX5_start_0 : decode cX5_start 0 = .ok (.aload_n 0, 1) := by decide +kernel
theorem dX5_start_1 : decode cX5_start 1 = .ok (.iconst 0, 1) := by decide +kernel
theorem dX5_start_2 : decode cX5_start 2 = .ok (.putfield 15, 3) := by decide +kernel
theorem dX5_start_5 : decode cX5_start 5 = .ok (.aload_n 0, 1) := by decide +kernel
theorem dX5_start_6 : decode cX5_start 6 = .ok (.iconst (-1), 1) := by decide +kernel
theorem dX5_start_7 : decode cX5_start 7 = .ok (.putfield 19, 3) := by decide +kernel
theorem dX5_start_10 : decode cX5_start 10 = .ok (.aload_n 0, 1) := by decide +kernel
theorem dX5_start_11 : decode cX5_start 11 = .ok (.iconst 0, 1) := by decide +kernel
theorem dX5_start_12 : decode cX5_start 12 = .ok (.putfield 22, 3) := by decide +kernel
theorem dX5_start_15 : decode cX5_start 15 = .ok (.aload_n 0, 1) := by decide +kernel
theorem dX5_start_16 : decode cX5_start 16 = .ok (.iconst 0, 1) := by decide +kernel
theorem dX5_start_17 : decode cX5_start 17 = .ok (.invokevirtual 25, 3) := by decide +kernel
theorem dX5_start_20 : decode cX5_start 20 = .ok (.return_, 1) := by decide +kernel
theorem dX5_hasMore_0 : decode cX5_hasMore 0 = .ok (.aload_n 0, 1) := by decide +kernel
theorem dX5_hasMore_1 : decode cX5_hasMore 1 = .ok (.getfield 15, 3) := by decide +kernel
theorem dX5_hasMore_4 : decode cX5_hasMore 4 = .ok (.ifCond .ne 21, 3) := by decide +kernel
theorem dX5_hasMore_7 : decode cX5_hasMore 7 = .ok (.aload_n 0, 1) := by decide +kernel
theorem dX5_hasMore_8 : decode cX5_hasMore 8 = .ok (.getfield 22, 3) := by decide +kernel
theorem dX5_hasMore_11 : decode cX5_hasMore 11 = .ok (.aload_n 0, 1) := by decide +kernel
theorem dX5_hasMore_12 : decode cX5_hasMore 12 = .ok (.getfield 9, 3) := by decide +kernel
theorem dX5_hasMore_15 : decode cX5_hasMore 15 = .ok (.getfield 29, 3) := by decide +kernel
theorem dX5_hasMore_18 : decode cX5_hasMore 18 = .ok (.if_icmp .ge 7, 3) := by decide +kernel
theorem dX5_hasMore_21 : decode cX5_hasMore 21 = .ok (.iconst 1, 1) := by decide +kernel
theorem dX5_hasMore_22 : decode cX5_hasMore 22 = .ok (.goto 4, 3) := by decide +kernel
theorem dX5_hasMore_25 : decode cX5_hasMore 25 = .ok (.iconst 0, 1) := by decide +kernel
theorem dX5_hasMore_26 : decode cX5_hasMore 26 = .ok (.ireturn, 1) := by decide +kernel
theorem dX5_isSound_0 : decode cX5_isSound 0 = .ok (.aload_n 0, 1) := by decide +kernel
theorem dX5_isSound_1 : decode cX5_isSound 1 = .ok (.getfield 15, 3) := by decide +kernel
theorem dX5_isSound_4 : decode cX5_isSound 4 = .ok (.ifCond .ne 7, 3) := by decide +kernel
theorem dX5_isSound_7 : decode cX5_isSound 7 = .ok (.iconst 1, 1) := by decide +kernel
theorem dX5_isSound_8 : decode cX5_isSound 8 = .ok (.goto 4, 3) := by decide +kernel
theorem dX5_isSound_11 : decode cX5_isSound 11 = .ok (.iconst 0, 1) := by decide +kernel
theorem dX5_isSound_12 : decode cX5_isSound 12 = .ok (.ireturn, 1) := by decide +kernel
theorem dX5_refuseHere_0 : decode cX5_refuseHere 0 = .ok (.aload_n 0, 1) := by decide +kernel
theorem dX5_refuseHere_1 : decode cX5_refuseHere 1 = .ok (.aload_n 0, 1) := by decide +kernel
theorem dX5_refuseHere_2 : decode cX5_refuseHere 2 = .ok (.getfield 22, 3) := by decide +kernel
theorem dX5_refuseHere_5 : decode cX5_refuseHere 5 = .ok (.iload_n 1, 1) := by decide +kernel
theorem dX5_refuseHere_6 : decode cX5_refuseHere 6 = .ok (.invokevirtual 34, 3) := by decide +kernel
theorem dX5_refuseHere_9 : decode cX5_refuseHere 9 = .ok (.return_, 1) := by decide +kernel
theorem dX5_refuseTaken_0 : decode cX5_refuseTaken 0 = .ok (.aload_n 0, 1) := by decide +kernel
theorem dX5_refuseTaken_1 : decode cX5_refuseTaken 1 = .ok (.aload_n 0, 1) := by decide +kernel
theorem dX5_refuseTaken_2 : decode cX5_refuseTaken 2 = .ok (.getfield 38, 3) := by decide +kernel
theorem dX5_refuseTaken_5 : decode cX5_refuseTaken 5 = .ok (.iload_n 1, 1) := by decide +kernel
theorem dX5_refuseTaken_6 : decode cX5_refuseTaken 6 = .ok (.invokevirtual 34, 3) := by decide +kernel
theorem dX5_refuseTaken_9 : decode cX5_refuseTaken 9 = .ok (.return_, 1) := by decide +kernel
theorem dX5_takesWord_0 : decode cX5_takesWord 0 = .ok (.aload_n 0, 1) := by decide +kernel
theorem dX5_takesWord_1 : decode cX5_takesWord 1 = .ok (.invokevirtual 41, 3) := by decide +kernel
theorem dX5_takesWord_4 : decode cX5_takesWord 4 = .ok (.ifCond .eq 11, 3) := by decide +kernel
theorem dX5_takesWord_7 : decode cX5_takesWord 7 = .ok (.aload_n 0, 1) := by decide +kernel
theorem dX5_takesWord_8 : decode cX5_takesWord 8 = .ok (.aload_n 1, 1) := by decide +kernel
theorem dX5_takesWord_9 : decode cX5_takesWord 9 = .ok (.invokevirtual 45, 3) := by decide +kernel
theorem dX5_takesWord_12 : decode cX5_takesWord 12 = .ok (.ifCond .ne 5, 3) := by decide +kernel
theorem dX5_takesWord_15 : decode cX5_takesWord 15 = .ok (.iconst 0, 1) := by decide +kernel
theorem dX5_takesWord_16 : decode cX5_takesWord 16 = .ok (.ireturn, 1) := by decide +kernel
theorem dX5_takesWord_17 : decode cX5_takesWord 17 = .ok (.aload_n 0, 1) := by decide +kernel
theorem dX5_takesWord_18 : decode cX5_takesWord 18 = .ok (.aload_n 1, 1) := by decide +kernel
theorem dX5_takesWord_19 : decode cX5_takesWord 19 = .ok (.invokevirtual 49, 3) := by decide +kernel
theorem dX5_takesWord_22 : decode cX5_takesWord 22 = .ok (.invokevirtual 25, 3) := by decide +kernel
theorem dX5_takesWord_25 : decode cX5_takesWord 25 = .ok (.iconst 1, 1) := by decide +kernel
theorem dX5_takesWord_26 : decode cX5_takesWord 26 = .ok (.ireturn, 1) := by decide +kernel
theorem dX5_takeNumber_0 : decode cX5_takeNumber 0 = .ok (.aload_n 0, 1) := by decide +kernel
theorem dX5_takeNumber_1 : decode cX5_takeNumber 1 = .ok (.invokevirtual 41, 3) := by decide +kernel
theorem dX5_takeNumber_4 : decode cX5_takeNumber 4 = .ok (.ifCond .ne 5, 3) := by decide +kernel
theorem dX5_takeNumber_7 : decode cX5_takeNumber 7 = .ok (.iload_n 1, 1) := by decide +kernel
theorem dX5_takeNumber_8 : decode cX5_takeNumber 8 = .ok (.ireturn, 1) := by decide +kernel
theorem dX5_takeNumber_9 : decode cX5_takeNumber 9 = .ok (.iconst 0, 1) := by decide +kernel
theorem dX5_takeNumber_10 : decode cX5_takeNumber 10 = .ok (.istore_n 3, 1) := by decide +kernel
theorem dX5_takeNumber_11 : decode cX5_takeNumber 11 = .ok (.iconst 0, 1) := by decide +kernel
theorem dX5_takeNumber_12 : decode cX5_takeNumber 12 = .ok (.istore 4, 2) := by decide +kernel
theorem dX5_takeNumber_14 : decode cX5_takeNumber 14 = .ok (.aload_n 0, 1) := by decide +kernel
theorem dX5_takeNumber_15 : decode cX5_takeNumber 15 = .ok (.getfield 22, 3) := by decide +kernel
theorem dX5_takeNumber_18 : decode cX5_takeNumber 18 = .ok (.istore 5, 2) := by decide +kernel
theorem dX5_takeNumber_20 : decode cX5_takeNumber 20 = .ok (.iload 5, 2) := by decide +kernel
theorem dX5_takeNumber_22 : decode cX5_takeNumber 22 = .ok (.aload_n 0, 1) := by decide +kernel
theorem dX5_takeNumber_23 : decode cX5_takeNumber 23 = .ok (.getfield 9, 3) := by decide +kernel
theorem dX5_takeNumber_26 : decode cX5_takeNumber 26 = .ok (.getfield 29, 3) := by decide +kernel
theorem dX5_takeNumber_29 : decode cX5_takeNumber 29 = .ok (.if_icmp .ge 46, 3) := by decide +kernel
theorem dX5_takeNumber_32 : decode cX5_takeNumber 32 = .ok (.aload_n 0, 1) := by decide +kernel
theorem dX5_takeNumber_33 : decode cX5_takeNumber 33 = .ok (.iload 5, 2) := by decide +kernel
theorem dX5_takeNumber_35 : decode cX5_takeNumber 35 = .ok (.invokevirtual 54, 3) := by decide +kernel
theorem dX5_takeNumber_38 : decode cX5_takeNumber 38 = .ok (.invokestatic 58, 3) := by decide +kernel
theorem dX5_takeNumber_41 : decode cX5_takeNumber 41 = .ok (.ifCond .eq 34, 3) := by decide +kernel
theorem dX5_takeNumber_44 : decode cX5_takeNumber 44 = .ok (.iinc 3 1, 3) := by decide +kernel
theorem dX5_takeNumber_47 : decode cX5_takeNumber 47 = .ok (.iload_n 3, 1) := by decide +kernel
theorem dX5_takeNumber_48 : decode cX5_takeNumber 48 = .ok (.iconst 3, 1) := by decide +kernel
theorem dX5_takeNumber_49 : decode cX5_takeNumber 49 = .ok (.if_icmp .gt 20, 3) := by decide +kernel
theorem dX5_takeNumber_52 : decode cX5_takeNumber 52 = .ok (.iload 4, 2) := by decide +kernel
theorem dX5_takeNumber_54 : decode cX5_takeNumber 54 = .ok (.bipush 10, 2) := by decide +kernel
theorem dX5_takeNumber_56 : decode cX5_takeNumber 56 = .ok (.imul, 1) := by decide +kernel
theorem dX5_takeNumber_57 : decode cX5_takeNumber 57 = .ok (.aload_n 0, 1) := by decide +kernel
theorem dX5_takeNumber_58 : decode cX5_takeNumber 58 = .ok (.iload 5, 2) := by decide +kernel
theorem dX5_takeNumber_60 : decode cX5_takeNumber 60 = .ok (.invokevirtual 54, 3) := by decide +kernel
theorem dX5_takeNumber_63 : decode cX5_takeNumber 63 = .ok (.iadd, 1) := by decide +kernel
theorem dX5_takeNumber_64 : decode cX5_takeNumber 64 = .ok (.bipush 48, 2) := by decide +kernel
theorem dX5_takeNumber_66 : decode cX5_takeNumber 66 = .ok (.isub, 1) := by decide +kernel
theorem dX5_takeNumber_67 : decode cX5_takeNumber 67 = .ok (.istore 4, 2) := by decide +kernel
theorem dX5_takeNumber_69 : decode cX5_takeNumber 69 = .ok (.iinc 5 1, 3) := by decide +kernel
theorem dX5_takeNumber_72 : decode cX5_takeNumber 72 = .ok (.goto (-52), 3) := by decide +kernel
theorem dX5_takeNumber_75 : decode cX5_takeNumber 75 = .ok (.iload_n 3, 1) := by decide +kernel
theorem dX5_takeNumber_76 : decode cX5_takeNumber 76 = .ok (.ifCond .ne 10, 3) := by decide +kernel
theorem dX5_takeNumber_79 : decode cX5_takeNumber 79 = .ok (.aload_n 0, 1) := by decide +kernel
theorem dX5_takeNumber_80 : decode cX5_takeNumber 80 = .ok (.iconst 1, 1) := by decide +kernel
theorem dX5_takeNumber_81 : decode cX5_takeNumber 81 = .ok (.invokevirtual 62, 3) := by decide +kernel
theorem dX5_takeNumber_84 : decode cX5_takeNumber 84 = .ok (.iload_n 1, 1) := by decide +kernel
theorem dX5_takeNumber_85 : decode cX5_takeNumber 85 = .ok (.ireturn, 1) := by decide +kernel
theorem dX5_takeNumber_86 : decode cX5_takeNumber 86 = .ok (.iload_n 3, 1) := by decide +kernel
theorem dX5_takeNumber_87 : decode cX5_takeNumber 87 = .ok (.iconst 3, 1) := by decide +kernel
theorem dX5_takeNumber_88 : decode cX5_takeNumber 88 = .ok (.if_icmp .gt 15, 3) := by decide +kernel
theorem dX5_takeNumber_91 : decode cX5_takeNumber 91 = .ok (.iload 4, 2) := by decide +kernel
theorem dX5_takeNumber_93 : decode cX5_takeNumber 93 = .ok (.iload_n 1, 1) := by decide +kernel
theorem dX5_takeNumber_94 : decode cX5_takeNumber 94 = .ok (.if_icmp .lt 9, 3) := by decide +kernel
theorem dX5_takeNumber_97 : decode cX5_takeNumber 97 = .ok (.iload 4, 2) := by decide +kernel
theorem dX5_takeNumber_99 : decode cX5_takeNumber 99 = .ok (.iload_n 2, 1) := by decide +kernel
theorem dX5_takeNumber_100 : decode cX5_takeNumber 100 = .ok (.if_icmp .le 10, 3) := by decide +kernel
theorem dX5_takeNumber_103 : decode cX5_takeNumber 103 = .ok (.aload_n 0, 1) := by decide +kernel
theorem dX5_takeNumber_104 : decode cX5_takeNumber 104 = .ok (.iconst 2, 1) := by decide +kernel
theorem dX5_takeNumber_105 : decode cX5_takeNumber 105 = .ok (.invokevirtual 62, 3) := by decide +kernel
theorem dX5_takeNumber_108 : decode cX5_takeNumber 108 = .ok (.iload_n 1, 1) := by decide +kernel
theorem dX5_takeNumber_109 : decode cX5_takeNumber 109 = .ok (.ireturn, 1) := by decide +kernel
theorem dX5_takeNumber_110 : decode cX5_takeNumber 110 = .ok (.aload_n 0, 1) := by decide +kernel
theorem dX5_takeNumber_111 : decode cX5_takeNumber 111 = .ok (.iload_n 3, 1) := by decide +kernel
theorem dX5_takeNumber_112 : decode cX5_takeNumber 112 = .ok (.invokevirtual 25, 3) := by decide +kernel
theorem dX5_takeNumber_115 : decode cX5_takeNumber 115 = .ok (.iload 4, 2) := by decide +kernel
theorem dX5_takeNumber_117 : decode cX5_takeNumber 117 = .ok (.ireturn, 1) := by decide +kernel
theorem dX5_takeSemicolon_0 : decode cX5_takeSemicolon 0 = .ok (.aload_n 0, 1) := by decide +kernel
theorem dX5_takeSemicolon_1 : decode cX5_takeSemicolon 1 = .ok (.invokevirtual 41, 3) := by decide +kernel
theorem dX5_takeSemicolon_4 : decode cX5_takeSemicolon 4 = .ok (.ifCond .ne 4, 3) := by decide +kernel
theorem dX5_takeSemicolon_7 : decode cX5_takeSemicolon 7 = .ok (.return_, 1) := by decide +kernel
theorem dX5_takeSemicolon_8 : decode cX5_takeSemicolon 8 = .ok (.aload_n 0, 1) := by decide +kernel
theorem dX5_takeSemicolon_9 : decode cX5_takeSemicolon 9 = .ok (.aload_n 0, 1) := by decide +kernel
theorem dX5_takeSemicolon_10 : decode cX5_takeSemicolon 10 = .ok (.getfield 22, 3) := by decide +kernel
theorem dX5_takeSemicolon_13 : decode cX5_takeSemicolon 13 = .ok (.invokevirtual 54, 3) := by decide +kernel
theorem dX5_takeSemicolon_16 : decode cX5_takeSemicolon 16 = .ok (.bipush 59, 2) := by decide +kernel
theorem dX5_takeSemicolon_18 : decode cX5_takeSemicolon 18 = .ok (.if_icmp .eq 9, 3) := by decide +kernel
theorem dX5_takeSemicolon_21 : decode cX5_takeSemicolon 21 = .ok (.aload_n 0, 1) := by decide +kernel
theorem dX5_takeSemicolon_22 : decode cX5_takeSemicolon 22 = .ok (.iconst 1, 1) := by decide +kernel
theorem dX5_takeSemicolon_23 : decode cX5_takeSemicolon 23 = .ok (.invokevirtual 62, 3) := by decide +kernel
theorem dX5_takeSemicolon_26 : decode cX5_takeSemicolon 26 = .ok (.return_, 1) := by decide +kernel
theorem dX5_takeSemicolon_27 : decode cX5_takeSemicolon 27 = .ok (.aload_n 0, 1) := by decide +kernel
theorem dX5_takeSemicolon_28 : decode cX5_takeSemicolon 28 = .ok (.iconst 1, 1) := by decide +kernel
theorem dX5_takeSemicolon_29 : decode cX5_takeSemicolon 29 = .ok (.invokevirtual 25, 3) := by decide +kernel
theorem dX5_takeSemicolon_32 : decode cX5_takeSemicolon 32 = .ok (.return_, 1) := by decide +kernel
theorem dX5_refuseAt_0 : decode cX5_refuseAt 0 = .ok (.aload_n 0, 1) := by decide +kernel
theorem dX5_refuseAt_1 : decode cX5_refuseAt 1 = .ok (.getfield 15, 3) := by decide +kernel
theorem dX5_refuseAt_4 : decode cX5_refuseAt 4 = .ok (.ifCond .ne 13, 3) := by decide +kernel
theorem dX5_refuseAt_7 : decode cX5_refuseAt 7 = .ok (.aload_n 0, 1) := by decide +kernel
theorem dX5_refuseAt_8 : decode cX5_refuseAt 8 = .ok (.iload_n 2, 1) := by decide +kernel
theorem dX5_refuseAt_9 : decode cX5_refuseAt 9 = .ok (.putfield 15, 3) := by decide +kernel
theorem dX5_refuseAt_12 : decode cX5_refuseAt 12 = .ok (.aload_n 0, 1) := by decide +kernel
theorem dX5_refuseAt_13 : decode cX5_refuseAt 13 = .ok (.iload_n 1, 1) := by decide +kernel
theorem dX5_refuseAt_14 : decode cX5_refuseAt 14 = .ok (.putfield 19, 3) := by decide +kernel
theorem dX5_refuseAt_17 : decode cX5_refuseAt 17 = .ok (.return_, 1) := by decide +kernel
theorem dX5_pass_0 : decode cX5_pass 0 = .ok (.aload_n 0, 1) := by decide +kernel
theorem dX5_pass_1 : decode cX5_pass 1 = .ok (.aload_n 0, 1) := by decide +kernel
theorem dX5_pass_2 : decode cX5_pass 2 = .ok (.getfield 22, 3) := by decide +kernel
theorem dX5_pass_5 : decode cX5_pass 5 = .ok (.putfield 38, 3) := by decide +kernel
theorem dX5_pass_8 : decode cX5_pass 8 = .ok (.aload_n 0, 1) := by decide +kernel
theorem dX5_pass_9 : decode cX5_pass 9 = .ok (.dup, 1) := by decide +kernel
theorem dX5_pass_10 : decode cX5_pass 10 = .ok (.getfield 22, 3) := by decide +kernel
theorem dX5_pass_13 : decode cX5_pass 13 = .ok (.iload_n 1, 1) := by decide +kernel
theorem dX5_pass_14 : decode cX5_pass 14 = .ok (.iadd, 1) := by decide +kernel
theorem dX5_pass_15 : decode cX5_pass 15 = .ok (.putfield 22, 3) := by decide +kernel
theorem dX5_pass_18 : decode cX5_pass 18 = .ok (.iconst 0, 1) := by decide +kernel
theorem dX5_pass_19 : decode cX5_pass 19 = .ok (.istore_n 2, 1) := by decide +kernel
theorem dX5_pass_20 : decode cX5_pass 20 = .ok (.iload_n 2, 1) := by decide +kernel
theorem dX5_pass_21 : decode cX5_pass 21 = .ok (.sipush 500, 3) := by decide +kernel
theorem dX5_pass_24 : decode cX5_pass 24 = .ok (.if_icmp .ge 32, 3) := by decide +kernel
theorem dX5_pass_27 : decode cX5_pass 27 = .ok (.aload_n 0, 1) := by decide +kernel
theorem dX5_pass_28 : decode cX5_pass 28 = .ok (.aload_n 0, 1) := by decide +kernel
theorem dX5_pass_29 : decode cX5_pass 29 = .ok (.getfield 22, 3) := by decide +kernel
theorem dX5_pass_32 : decode cX5_pass 32 = .ok (.invokevirtual 54, 3) := by decide +kernel
theorem dX5_pass_35 : decode cX5_pass 35 = .ok (.bipush 32, 2) := by decide +kernel
theorem dX5_pass_37 : decode cX5_pass 37 = .ok (.if_icmp .ne 19, 3) := by decide +kernel
theorem dX5_pass_40 : decode cX5_pass 40 = .ok (.aload_n 0, 1) := by decide +kernel
theorem dX5_pass_41 : decode cX5_pass 41 = .ok (.dup, 1) := by decide +kernel
theorem dX5_pass_42 : decode cX5_pass 42 = .ok (.getfield 22, 3) := by decide +kernel
theorem dX5_pass_45 : decode cX5_pass 45 = .ok (.iconst 1, 1) := by decide +kernel
theorem dX5_pass_46 : decode cX5_pass 46 = .ok (.iadd, 1) := by decide +kernel
theorem dX5_pass_47 : decode cX5_pass 47 = .ok (.putfield 22, 3) := by decide +kernel
theorem dX5_pass_50 : decode cX5_pass 50 = .ok (.iinc 2 1, 3) := by decide +kernel
theorem dX5_pass_53 : decode cX5_pass 53 = .ok (.goto (-33), 3) := by decide +kernel
theorem dX5_pass_56 : decode cX5_pass 56 = .ok (.return_, 1) := by decide +kernel
theorem dX5_seesWord_0 : decode cX5_seesWord 0 = .ok (.iconst 0, 1) := by decide +kernel
theorem dX5_seesWord_1 : decode cX5_seesWord 1 = .ok (.istore_n 2, 1) := by decide +kernel
theorem dX5_seesWord_2 : decode cX5_seesWord 2 = .ok (.iload_n 2, 1) := by decide +kernel
theorem dX5_seesWord_3 : decode cX5_seesWord 3 = .ok (.aload_n 1, 1) := by decide +kernel
theorem dX5_seesWord_4 : decode cX5_seesWord 4 = .ok (.invokevirtual 49, 3) := by decide +kernel
theorem dX5_seesWord_7 : decode cX5_seesWord 7 = .ok (.if_icmp .ge 29, 3) := by decide +kernel
theorem dX5_seesWord_10 : decode cX5_seesWord 10 = .ok (.aload_n 0, 1) := by decide +kernel
theorem dX5_seesWord_11 : decode cX5_seesWord 11 = .ok (.aload_n 0, 1) := by decide +kernel
theorem dX5_seesWord_12 : decode cX5_seesWord 12 = .ok (.getfield 22, 3) := by decide +kernel
theorem dX5_seesWord_15 : decode cX5_seesWord 15 = .ok (.iload_n 2, 1) := by decide +kernel
theorem dX5_seesWord_16 : decode cX5_seesWord 16 = .ok (.iadd, 1) := by decide +kernel
theorem dX5_seesWord_17 : decode cX5_seesWord 17 = .ok (.invokevirtual 54, 3) := by decide +kernel
theorem dX5_seesWord_20 : decode cX5_seesWord 20 = .ok (.aload_n 1, 1) := by decide +kernel
theorem dX5_seesWord_21 : decode cX5_seesWord 21 = .ok (.iload_n 2, 1) := by decide +kernel
theorem dX5_seesWord_22 : decode cX5_seesWord 22 = .ok (.invokevirtual 65, 3) := by decide +kernel
theorem dX5_seesWord_25 : decode cX5_seesWord 25 = .ok (.if_icmp .eq 5, 3) := by decide +kernel
theorem dX5_seesWord_28 : decode cX5_seesWord 28 = .ok (.iconst 0, 1) := by decide +kernel
theorem dX5_seesWord_29 : decode cX5_seesWord 29 = .ok (.ireturn, 1) := by decide +kernel
theorem dX5_seesWord_30 : decode cX5_seesWord 30 = .ok (.iinc 2 1, 3) := by decide +kernel
theorem dX5_seesWord_33 : decode cX5_seesWord 33 = .ok (.goto (-31), 3) := by decide +kernel
theorem dX5_seesWord_36 : decode cX5_seesWord 36 = .ok (.aload_n 0, 1) := by decide +kernel
theorem dX5_seesWord_37 : decode cX5_seesWord 37 = .ok (.aload_n 0, 1) := by decide +kernel
theorem dX5_seesWord_38 : decode cX5_seesWord 38 = .ok (.getfield 22, 3) := by decide +kernel
theorem dX5_seesWord_41 : decode cX5_seesWord 41 = .ok (.aload_n 1, 1) := by decide +kernel
theorem dX5_seesWord_42 : decode cX5_seesWord 42 = .ok (.invokevirtual 49, 3) := by decide +kernel
theorem dX5_seesWord_45 : decode cX5_seesWord 45 = .ok (.iadd, 1) := by decide +kernel
theorem dX5_seesWord_46 : decode cX5_seesWord 46 = .ok (.invokevirtual 54, 3) := by decide +kernel
theorem dX5_seesWord_49 : decode cX5_seesWord 49 = .ok (.invokestatic 69, 3) := by decide +kernel
theorem dX5_seesWord_52 : decode cX5_seesWord 52 = .ok (.ifCond .ne 7, 3) := by decide +kernel
theorem dX5_seesWord_55 : decode cX5_seesWord 55 = .ok (.iconst 1, 1) := by decide +kernel
theorem dX5_seesWord_56 : decode cX5_seesWord 56 = .ok (.goto 4, 3) := by decide +kernel
theorem dX5_seesWord_59 : decode cX5_seesWord 59 = .ok (.iconst 0, 1) := by decide +kernel
theorem dX5_seesWord_60 : decode cX5_seesWord 60 = .ok (.ireturn, 1) := by decide +kernel
theorem dX5_byteAt_0 : decode cX5_byteAt 0 = .ok (.iload_n 1, 1) := by decide +kernel
theorem dX5_byteAt_1 : decode cX5_byteAt 1 = .ok (.ifCond .lt 37, 3) := by decide +kernel
theorem dX5_byteAt_4 : decode cX5_byteAt 4 = .ok (.iload_n 1, 1) := by decide +kernel
theorem dX5_byteAt_5 : decode cX5_byteAt 5 = .ok (.aload_n 0, 1) := by decide +kernel
theorem dX5_byteAt_6 : decode cX5_byteAt 6 = .ok (.getfield 9, 3) := by decide +kernel
theorem dX5_byteAt_9 : decode cX5_byteAt 9 = .ok (.getfield 29, 3) := by decide +kernel
theorem dX5_byteAt_12 : decode cX5_byteAt 12 = .ok (.if_icmp .ge 26, 3) := by decide +kernel
theorem dX5_byteAt_15 : decode cX5_byteAt 15 = .ok (.iload_n 1, 1) := by decide +kernel
theorem dX5_byteAt_16 : decode cX5_byteAt 16 = .ok (.sipush 500, 3) := by decide +kernel
theorem dX5_byteAt_19 : decode cX5_byteAt 19 = .ok (.if_icmp .ge 19, 3) := by decide +kernel
theorem dX5_byteAt_22 : decode cX5_byteAt 22 = .ok (.aload_n 0, 1) := by decide +kernel
theorem dX5_byteAt_23 : decode cX5_byteAt 23 = .ok (.getfield 9, 3) := by decide +kernel
theorem dX5_byteAt_26 : decode cX5_byteAt 26 = .ok (.getfield 72, 3) := by decide +kernel
theorem dX5_byteAt_29 : decode cX5_byteAt 29 = .ok (.iload_n 1, 1) := by decide +kernel
theorem dX5_byteAt_30 : decode cX5_byteAt 30 = .ok (.baload, 1) := by decide +kernel
theorem dX5_byteAt_31 : decode cX5_byteAt 31 = .ok (.sipush 255, 3) := by decide +kernel
theorem dX5_byteAt_34 : decode cX5_byteAt 34 = .ok (.iand, 1) := by decide +kernel
theorem dX5_byteAt_35 : decode cX5_byteAt 35 = .ok (.goto 4, 3) := by decide +kernel
theorem dX5_byteAt_38 : decode cX5_byteAt 38 = .ok (.iconst (-1), 1) := by decide +kernel
theorem dX5_byteAt_39 : decode cX5_byteAt 39 = .ok (.ireturn, 1) := by decide +kernel
theorem dX5_isFigure_0 : decode cX5_isFigure 0 = .ok (.iload_n 0, 1) := by decide +kernel
theorem dX5_isFigure_1 : decode cX5_isFigure 1 = .ok (.bipush 48, 2) := by decide +kernel
theorem dX5_isFigure_3 : decode cX5_isFigure 3 = .ok (.if_icmp .lt 13, 3) := by decide +kernel
theorem dX5_isFigure_6 : decode cX5_isFigure 6 = .ok (.iload_n 0, 1) := by decide +kernel
theorem dX5_isFigure_7 : decode cX5_isFigure 7 = .ok (.bipush 57, 2) := by decide +kernel
theorem dX5_isFigure_9 : decode cX5_isFigure 9 = .ok (.if_icmp .gt 7, 3) := by decide +kernel
theorem dX5_isFigure_12 : decode cX5_isFigure 12 = .ok (.iconst 1, 1) := by decide +kernel
theorem dX5_isFigure_13 : decode cX5_isFigure 13 = .ok (.goto 4, 3) := by decide +kernel
theorem dX5_isFigure_16 : decode cX5_isFigure 16 = .ok (.iconst 0, 1) := by decide +kernel
theorem dX5_isFigure_17 : decode cX5_isFigure 17 = .ok (.ireturn, 1) := by decide +kernel
theorem dX5_isLetter_0 : decode cX5_isLetter 0 = .ok (.iload_n 0, 1) := by decide +kernel
theorem dX5_isLetter_1 : decode cX5_isLetter 1 = .ok (.bipush 97, 2) := by decide +kernel
theorem dX5_isLetter_3 : decode cX5_isLetter 3 = .ok (.if_icmp .lt 13, 3) := by decide +kernel
theorem dX5_isLetter_6 : decode cX5_isLetter 6 = .ok (.iload_n 0, 1) := by decide +kernel
theorem dX5_isLetter_7 : decode cX5_isLetter 7 = .ok (.bipush 122, 2) := by decide +kernel
theorem dX5_isLetter_9 : decode cX5_isLetter 9 = .ok (.if_icmp .gt 7, 3) := by decide +kernel
theorem dX5_isLetter_12 : decode cX5_isLetter 12 = .ok (.iconst 1, 1) := by decide +kernel
theorem dX5_isLetter_13 : decode cX5_isLetter 13 = .ok (.goto 4, 3) := by decide +kernel
theorem dX5_isLetter_16 : decode cX5_isLetter 16 = .ok (.iconst 0, 1) := by decide +kernel
theorem dX5_isLetter_17 : decode cX5_isLetter 17 = .ok (.ireturn, 1) := by decide +kernel
theorem dX6_init_0 : decode cX6_init 0 = .ok (.aload_n 0, 1) := by decide +kernel
theorem dX6_init_1 : decode cX6_init 1 = .ok (.invokespecial 3, 3) := by decide +kernel
theorem dX6_init_4 : decode cX6_init 4 = .ok (.aload_n 0, 1) := by decide +kernel
theorem dX6_init_5 : decode cX6_init 5 = .ok (.bipush 12, 2) := by decide +kernel
theorem dX6_init_7 : decode cX6_init 7 = .ok (.newarray .int, 2) := by decide +kernel
theorem dX6_init_9 : decode cX6_init 9 = .ok (.putfield 9, 3) := by decide +kernel
theorem dX6_init_12 : decode cX6_init 12 = .ok (.aload_n 0, 1) := by decide +kernel
theorem dX6_init_13 : decode cX6_init 13 = .ok (.bipush 12, 2) := by decide +kernel
theorem dX6_init_15 : decode cX6_init 15 = .ok (.newarray .int, 2) := by decide +kernel
theorem dX6_init_17 : decode cX6_init 17 = .ok (.putfield 15, 3) := by decide +kernel
theorem dX6_init_20 : decode cX6_init 20 = .ok (.aload_n 0, 1) := by decide +kernel
theorem dX6_init_21 : decode cX6_init 21 = .ok (.bipush 12, 2) := by decide +kernel
theorem dX6_init_23 : decode cX6_init 23 = .ok (.newarray .int, 2) := by decide +kernel
theorem dX6_init_25 : decode cX6_init 25 = .ok (.putfield 18, 3) := by decide +kernel
theorem dX6_init_28 : decode cX6_init 28 = .ok (.aload_n 0, 1) := by decide +kernel
theorem dX6_init_29 : decode cX6_init 29 = .ok (.bipush 6, 2) := by decide +kernel
theorem dX6_init_31 : decode cX6_init 31 = .ok (.newarray .int, 2) := by decide +kernel
theorem dX6_init_33 : decode cX6_init 33 = .ok (.putfield 21, 3) := by decide +kernel
theorem dX6_init_36 : decode cX6_init 36 = .ok (.aload_n 0, 1) := by decide +kernel
theorem dX6_init_37 : decode cX6_init 37 = .ok (.bipush 6, 2) := by decide +kernel
theorem dX6_init_39 : decode cX6_init 39 = .ok (.newarray .int, 2) := by decide +kernel
theorem dX6_init_41 : decode cX6_init 41 = .ok (.putfield 24, 3) := by decide +kernel
theorem dX6_init_44 : decode cX6_init 44 = .ok (.aload_n 0, 1) := by decide +kernel
theorem dX6_init_45 : decode cX6_init 45 = .ok (.bipush 6, 2) := by decide +kernel
theorem dX6_init_47 : decode cX6_init 47 = .ok (.newarray .int, 2) := by decide +kernel
theorem dX6_init_49 : decode cX6_init 49 = .ok (.putfield 27, 3) := by decide +kernel
theorem dX6_init_52 : decode cX6_init 52 = .ok (.aload_n 0, 1) := by decide +kernel
theorem dX6_init_53 : decode cX6_init 53 = .ok (.bipush 6, 2) := by decide +kernel
theorem dX6_init_55 : decode cX6_init 55 = .ok (.sipush 400, 3) := by decide +kernel
theorem dX6_init_58 : decode cX6_init 58 = .ok (.multianewarray 30 2, 4) := by decide +kernel
theorem dX6_init_62 : decode cX6_init 62 = .ok (.putfield 32, 3) := by decide +kernel
theorem dX6_init_65 : decode cX6_init 65 = .ok (.aload_n 0, 1) := by decide +kernel
theorem dX6_init_66 : decode cX6_init 66 = .ok (.invokevirtual 35, 3) := by decide +kernel
theorem dX6_init_69 : decode cX6_init 69 = .ok (.return_, 1) := by decide +kernel
theorem dX6_startAgain_0 : decode cX6_startAgain 0 = .ok (.aload_n 0, 1) := by decide +kernel
theorem dX6_startAgain_1 : decode cX6_startAgain 1 = .ok (.iconst 0, 1) := by decide +kernel
theorem dX6_startAgain_2 : decode cX6_startAgain 2 = .ok (.putfield 38, 3) := by decide +kernel
theorem dX6_startAgain_5 : decode cX6_startAgain 5 = .ok (.aload_n 0, 1) := by decide +kernel
theorem dX6_startAgain_6 : decode cX6_startAgain 6 = .ok (.iconst 0, 1) := by decide +kernel
theorem dX6_startAgain_7 : decode cX6_startAgain 7 = .ok (.putfield 42, 3) := by decide +kernel
theorem dX6_startAgain_10 : decode cX6_startAgain 10 = .ok (.aload_n 0, 1) := by decide +kernel
theorem dX6_startAgain_11 : decode cX6_startAgain 11 = .ok (.getfield 9, 3) := by decide +kernel
theorem dX6_startAgain_14 : decode cX6_startAgain 14 = .ok (.iconst (-1), 1) := by decide +kernel
theorem dX6_startAgain_15 : decode cX6_startAgain 15 = .ok (.invokestatic 45, 3) := by decide +kernel
theorem dX6_startAgain_18 : decode cX6_startAgain 18 = .ok (.aload_n 0, 1) := by decide +kernel
theorem dX6_startAgain_19 : decode cX6_startAgain 19 = .ok (.getfield 15, 3) := by decide +kernel
theorem dX6_startAgain_22 : decode cX6_startAgain 22 = .ok (.iconst 0, 1) := by decide +kernel
theorem dX6_startAgain_23 : decode cX6_startAgain 23 = .ok (.invokestatic 45, 3) := by decide +kernel
theorem dX6_startAgain_26 : decode cX6_startAgain 26 = .ok (.aload_n 0, 1) := by decide +kernel
theorem dX6_startAgain_27 : decode cX6_startAgain 27 = .ok (.getfield 18, 3) := by decide +kernel
theorem dX6_startAgain_30 : decode cX6_startAgain 30 = .ok (.iconst 0, 1) := by decide +kernel
theorem dX6_startAgain_31 : decode cX6_startAgain 31 = .ok (.invokestatic 45, 3) := by decide +kernel
theorem dX6_startAgain_34 : decode cX6_startAgain 34 = .ok (.aload_n 0, 1) := by decide +kernel
theorem dX6_startAgain_35 : decode cX6_startAgain 35 = .ok (.getfield 21, 3) := by decide +kernel
theorem dX6_startAgain_38 : decode cX6_startAgain 38 = .ok (.iconst 0, 1) := by decide +kernel
theorem dX6_startAgain_39 : decode cX6_startAgain 39 = .ok (.invokestatic 45, 3) := by decide +kernel
theorem dX6_startAgain_42 : decode cX6_startAgain 42 = .ok (.aload_n 0, 1) := by decide +kernel
theorem dX6_startAgain_43 : decode cX6_startAgain 43 = .ok (.getfield 24, 3) := by decide +kernel
theorem dX6_startAgain_46 : decode cX6_startAgain 46 = .ok (.iconst 0, 1) := by decide +kernel
theorem dX6_startAgain_47 : decode cX6_startAgain 47 = .ok (.invokestatic 45, 3) := by decide +kernel
theorem dX6_startAgain_50 : decode cX6_startAgain 50 = .ok (.aload_n 0, 1) := by decide +kernel
theorem dX6_startAgain_51 : decode cX6_startAgain 51 = .ok (.getfield 27, 3) := by decide +kernel
theorem dX6_startAgain_54 : decode cX6_startAgain 54 = .ok (.iconst (-1), 1) := by decide +kernel
theorem dX6_startAgain_55 : decode cX6_startAgain 55 = .ok (.invokestatic 45, 3) := by decide +kernel
theorem dX6_startAgain_58 : decode cX6_startAgain 58 = .ok (.return_, 1) := by decide +kernel
theorem dX6_become_0 : decode cX6_become 0 = .ok (.aload_n 0, 1) := by decide +kernel
theorem dX6_become_1 : decode cX6_become 1 = .ok (.aload_n 1, 1) := by decide +kernel
theorem dX6_become_2 : decode cX6_become 2 = .ok (.getfield 38, 3) := by decide +kernel
theorem dX6_become_5 : decode cX6_become 5 = .ok (.putfield 38, 3) := by decide +kernel
theorem dX6_become_8 : decode cX6_become 8 = .ok (.aload_n 0, 1) := by decide +kernel
theorem dX6_become_9 : decode cX6_become 9 = .ok (.aload_n 1, 1) := by decide +kernel
theorem dX6_become_10 : decode cX6_become 10 = .ok (.getfield 42, 3) := by decide +kernel
theorem dX6_become_13 : decode cX6_become 13 = .ok (.putfield 42, 3) := by decide +kernel
theorem dX6_become_16 : decode cX6_become 16 = .ok (.aload_n 0, 1) := by decide +kernel
theorem dX6_become_17 : decode cX6_become 17 = .ok (.aload_n 1, 1) := by decide +kernel
theorem dX6_become_18 : decode cX6_become 18 = .ok (.getfield 51, 3) := by decide +kernel
theorem dX6_become_21 : decode cX6_become 21 = .ok (.putfield 51, 3) := by decide +kernel
theorem dX6_become_24 : decode cX6_become 24 = .ok (.aload_n 1, 1) := by decide +kernel
theorem dX6_become_25 : decode cX6_become 25 = .ok (.getfield 9, 3) := by decide +kernel
theorem dX6_become_28 : decode cX6_become 28 = .ok (.iconst 0, 1) := by decide +kernel
theorem dX6_become_29 : decode cX6_become 29 = .ok (.aload_n 0, 1) := by decide +kernel
theorem dX6_become_30 : decode cX6_become 30 = .ok (.getfield 9, 3) := by decide +kernel
theorem dX6_become_33 : decode cX6_become 33 = .ok (.iconst 0, 1) := by decide +kernel
theorem dX6_become_34 : decode cX6_become 34 = .ok (.bipush 12, 2) := by decide +kernel
theorem dX6_become_36 : decode cX6_become 36 = .ok (.invokestatic 54, 3) := by decide +kernel
theorem dX6_become_39 : decode cX6_become 39 = .ok (.aload_n 1, 1) := by decide +kernel
theorem dX6_become_40 : decode cX6_become 40 = .ok (.getfield 15, 3) := by decide +kernel
theorem dX6_become_43 : decode cX6_become 43 = .ok (.iconst 0, 1) := by decide +kernel
theorem dX6_become_44 : decode cX6_become 44 = .ok (.aload_n 0, 1) := by decide +kernel
theorem dX6_become_45 : decode cX6_become 45 = .ok (.getfield 15, 3) := by decide +kernel
theorem dX6_become_48 : decode cX6_become 48 = .ok (.iconst 0, 1) := by decide +kernel
theorem dX6_become_49 : decode cX6_become 49 = .ok (.bipush 12, 2) := by decide +kernel
theorem dX6_become_51 : decode cX6_become 51 = .ok (.invokestatic 54, 3) := by decide +kernel
theorem dX6_become_54 : decode cX6_become 54 = .ok (.aload_n 1, 1) := by decide +kernel
theorem dX6_become_55 : decode cX6_become 55 = .ok (.getfield 18, 3) := by decide +kernel
theorem dX6_become_58 : decode cX6_become 58 = .ok (.iconst 0, 1) := by decide +kernel
theorem dX6_become_59 : decode cX6_become 59 = .ok (.aload_n 0, 1) := by decide +kernel
theorem dX6_become_60 : decode cX6_become 60 = .ok (.getfield 18, 3) := by decide +kernel
theorem dX6_become_63 : decode cX6_become 63 = .ok (.iconst 0, 1) := by decide +kernel
theorem dX6_become_64 : decode cX6_become 64 = .ok (.bipush 12, 2) := by decide +kernel
theorem dX6_become_66 : decode cX6_become 66 = .ok (.invokestatic 54, 3) := by decide +kernel
theorem dX6_become_69 : decode cX6_become 69 = .ok (.aload_n 1, 1) := by decide +kernel
theorem dX6_become_70 : decode cX6_become 70 = .ok (.getfield 21, 3) := by decide +kernel
theorem dX6_become_73 : decode cX6_become 73 = .ok (.iconst 0, 1) := by decide +kernel
theorem dX6_become_74 : decode cX6_become 74 = .ok (.aload_n 0, 1) := by decide +kernel
theorem dX6_become_75 : decode cX6_become 75 = .ok (.getfield 21, 3) := by decide +kernel
theorem dX6_become_78 : decode cX6_become 78 = .ok (.iconst 0, 1) := by decide +kernel
theorem dX6_become_79 : decode cX6_become 79 = .ok (.bipush 6, 2) := by decide +kernel
theorem dX6_become_81 : decode cX6_become 81 = .ok (.invokestatic 54, 3) := by decide +kernel
theorem dX6_become_84 : decode cX6_become 84 = .ok (.aload_n 1, 1) := by decide +kernel
theorem dX6_become_85 : decode cX6_become 85 = .ok (.getfield 24, 3) := by decide +kernel
theorem dX6_become_88 : decode cX6_become 88 = .ok (.iconst 0, 1) := by decide +kernel
theorem dX6_become_89 : decode cX6_become 89 = .ok (.aload_n 0, 1) := by decide +kernel
theorem dX6_become_90 : decode cX6_become 90 = .ok (.getfield 24, 3) := by decide +kernel
theorem dX6_become_93 : decode cX6_become 93 = .ok (.iconst 0, 1) := by decide +kernel
theorem dX6_become_94 : decode cX6_become 94 = .ok (.bipush 6, 2) := by decide +kernel
theorem dX6_become_96 : decode cX6_become 96 = .ok (.invokestatic 54, 3) := by decide +kernel
theorem dX6_become_99 : decode cX6_become 99 = .ok (.aload_n 1, 1) := by decide +kernel
theorem dX6_become_100 : decode cX6_become 100 = .ok (.getfield 27, 3) := by decide +kernel
theorem dX6_become_103 : decode cX6_become 103 = .ok (.iconst 0, 1) := by decide +kernel
theorem dX6_become_104 : decode cX6_become 104 = .ok (.aload_n 0, 1) := by decide +kernel
theorem dX6_become_105 : decode cX6_become 105 = .ok (.getfield 27, 3) := by decide +kernel
theorem dX6_become_108 : decode cX6_become 108 = .ok (.iconst 0, 1) := by decide +kernel
theorem dX6_become_109 : decode cX6_become 109 = .ok (.bipush 6, 2) := by decide +kernel
theorem dX6_become_111 : decode cX6_become 111 = .ok (.invokestatic 54, 3) := by decide +kernel
theorem dX6_become_114 : decode cX6_become 114 = .ok (.iconst 0, 1) := by decide +kernel
theorem dX6_become_115 : decode cX6_become 115 = .ok (.istore_n 2, 1) := by decide +kernel
theorem dX6_become_116 : decode cX6_become 116 = .ok (.iload_n 2, 1) := by decide +kernel
theorem dX6_become_117 : decode cX6_become 117 = .ok (.bipush 6, 2) := by decide +kernel
theorem dX6_become_119 : decode cX6_become 119 = .ok (.if_icmp .ge 29, 3) := by decide +kernel
theorem dX6_become_122 : decode cX6_become 122 = .ok (.aload_n 1, 1) := by decide +kernel
theorem dX6_become_123 : decode cX6_become 123 = .ok (.getfield 32, 3) := by decide +kernel
theorem dX6_become_126 : decode cX6_become 126 = .ok (.iload_n 2, 1) := by decide +kernel
theorem dX6_become_127 : decode cX6_become 127 = .ok (.aaload, 1) := by decide +kernel
theorem dX6_become_128 : decode cX6_become 128 = .ok (.iconst 0, 1) := by decide +kernel
theorem dX6_become_129 : decode cX6_become 129 = .ok (.aload_n 0, 1) := by decide +kernel
theorem dX6_become_130 : decode cX6_become 130 = .ok (.getfield 32, 3) := by decide +kernel
theorem dX6_become_133 : decode cX6_become 133 = .ok (.iload_n 2, 1) := by decide +kernel
theorem dX6_become_134 : decode cX6_become 134 = .ok (.aaload, 1) := by decide +kernel
theorem dX6_become_135 : decode cX6_become 135 = .ok (.iconst 0, 1) := by decide +kernel
theorem dX6_become_136 : decode cX6_become 136 = .ok (.sipush 400, 3) := by decide +kernel
theorem dX6_become_139 : decode cX6_become 139 = .ok (.invokestatic 54, 3) := by decide +kernel
theorem dX6_become_142 : decode cX6_become 142 = .ok (.iinc 2 1, 3) := by decide +kernel
theorem dX6_become_145 : decode cX6_become 145 = .ok (.goto (-29), 3) := by decide +kernel
theorem dX6_become_148 : decode cX6_become 148 = .ok (.return_, 1) := by decide +kernel
theorem dX6_figure_0 : decode cX6_figure 0 = .ok (.aload_n 0, 1) := by decide +kernel
theorem dX6_figure_1 : decode cX6_figure 1 = .ok (.getfield 38, 3) := by decide +kernel
theorem dX6_figure_4 : decode cX6_figure 4 = .ok (.iconst 1, 1) := by decide +kernel
theorem dX6_figure_5 : decode cX6_figure 5 = .ok (.isub, 1) := by decide +kernel
theorem dX6_figure_6 : decode cX6_figure 6 = .ok (.iload_n 2, 1) := by decide +kernel
theorem dX6_figure_7 : decode cX6_figure 7 = .ok (.isub, 1) := by decide +kernel
theorem dX6_figure_8 : decode cX6_figure 8 = .ok (.istore_n 3, 1) := by decide +kernel
theorem dX6_figure_9 : decode cX6_figure 9 = .ok (.iload_n 3, 1) := by decide +kernel
theorem dX6_figure_10 : decode cX6_figure 10 = .ok (.ifCond .lt 33, 3) := by decide +kernel
theorem dX6_figure_13 : decode cX6_figure 13 = .ok (.iload_n 3, 1) := by decide +kernel
theorem dX6_figure_14 : decode cX6_figure 14 = .ok (.sipush 400, 3) := by decide +kernel
theorem dX6_figure_17 : decode cX6_figure 17 = .ok (.if_icmp .ge 26, 3) := by decide +kernel
theorem dX6_figure_20 : decode cX6_figure 20 = .ok (.iload_n 1, 1) := by decide +kernel
theorem dX6_figure_21 : decode cX6_figure 21 = .ok (.ifCond .lt 22, 3) := by decide +kernel
theorem dX6_figure_24 : decode cX6_figure 24 = .ok (.iload_n 1, 1) := by decide +kernel
theorem dX6_figure_25 : decode cX6_figure 25 = .ok (.bipush 6, 2) := by decide +kernel
theorem dX6_figure_27 : decode cX6_figure 27 = .ok (.if_icmp .ge 16, 3) := by decide +kernel
theorem dX6_figure_30 : decode cX6_figure 30 = .ok (.aload_n 0, 1) := by decide +kernel
theorem dX6_figure_31 : decode cX6_figure 31 = .ok (.getfield 32, 3) := by decide +kernel
theorem dX6_figure_34 : decode cX6_figure 34 = .ok (.iload_n 1, 1) := by decide +kernel
theorem dX6_figure_35 : decode cX6_figure 35 = .ok (.aaload, 1) := by decide +kernel
theorem dX6_figure_36 : decode cX6_figure 36 = .ok (.iload_n 3, 1) := by decide +kernel
theorem dX6_figure_37 : decode cX6_figure 37 = .ok (.iaload, 1) := by decide +kernel
theorem dX6_figure_38 : decode cX6_figure 38 = .ok (.iconst 1, 1) := by decide +kernel
theorem dX6_figure_39 : decode cX6_figure 39 = .ok (.iand, 1) := by decide +kernel
theorem dX6_figure_40 : decode cX6_figure 40 = .ok (.goto 4, 3) := by decide +kernel
theorem dX6_figure_43 : decode cX6_figure 43 = .ok (.iconst 0, 1) := by decide +kernel
theorem dX6_figure_44 : decode cX6_figure 44 = .ok (.ireturn, 1) := by decide +kernel
theorem dX6_halve_0 : decode cX6_halve 0 = .ok (.iload_n 1, 1) := by decide +kernel
theorem dX6_halve_1 : decode cX6_halve 1 = .ok (.ifCond .lt 57, 3) := by decide +kernel
theorem dX6_halve_4 : decode cX6_halve 4 = .ok (.iload_n 1, 1) := by decide +kernel
theorem dX6_halve_5 : decode cX6_halve 5 = .ok (.bipush 6, 2) := by decide +kernel
theorem dX6_halve_7 : decode cX6_halve 7 = .ok (.if_icmp .ge 51, 3) := by decide +kernel
theorem dX6_halve_10 : decode cX6_halve 10 = .ok (.aload_n 0, 1) := by decide +kernel
theorem dX6_halve_11 : decode cX6_halve 11 = .ok (.getfield 38, 3) := by decide +kernel
theorem dX6_halve_14 : decode cX6_halve 14 = .ok (.ifCond .lt 44, 3) := by decide +kernel
theorem dX6_halve_17 : decode cX6_halve 17 = .ok (.aload_n 0, 1) := by decide +kernel
theorem dX6_halve_18 : decode cX6_halve 18 = .ok (.getfield 38, 3) := by decide +kernel
theorem dX6_halve_21 : decode cX6_halve 21 = .ok (.sipush 400, 3) := by decide +kernel
theorem dX6_halve_24 : decode cX6_halve 24 = .ok (.if_icmp .ge 34, 3) := by decide +kernel
theorem dX6_halve_27 : decode cX6_halve 27 = .ok (.aload_n 0, 1) := by decide +kernel
theorem dX6_halve_28 : decode cX6_halve 28 = .ok (.getfield 32, 3) := by decide +kernel
theorem dX6_halve_31 : decode cX6_halve 31 = .ok (.iload_n 1, 1) := by decide +kernel
theorem dX6_halve_32 : decode cX6_halve 32 = .ok (.aaload, 1) := by decide +kernel
theorem dX6_halve_33 : decode cX6_halve 33 = .ok (.aload_n 0, 1) := by decide +kernel
theorem dX6_halve_34 : decode cX6_halve 34 = .ok (.getfield 38, 3) := by decide +kernel
theorem dX6_halve_37 : decode cX6_halve 37 = .ok (.aload_n 0, 1) := by decide +kernel
theorem dX6_halve_38 : decode cX6_halve 38 = .ok (.getfield 21, 3) := by decide +kernel
theorem dX6_halve_41 : decode cX6_halve 41 = .ok (.iload_n 1, 1) := by decide +kernel
theorem dX6_halve_42 : decode cX6_halve 42 = .ok (.iaload, 1) := by decide +kernel
theorem dX6_halve_43 : decode cX6_halve 43 = .ok (.iastore, 1) := by decide +kernel
theorem dX6_halve_44 : decode cX6_halve 44 = .ok (.aload_n 0, 1) := by decide +kernel
theorem dX6_halve_45 : decode cX6_halve 45 = .ok (.getfield 21, 3) := by decide +kernel
theorem dX6_halve_48 : decode cX6_halve 48 = .ok (.iload_n 1, 1) := by decide +kernel
theorem dX6_halve_49 : decode cX6_halve 49 = .ok (.aload_n 0, 1) := by decide +kernel
theorem dX6_halve_50 : decode cX6_halve 50 = .ok (.getfield 21, 3) := by decide +kernel
theorem dX6_halve_53 : decode cX6_halve 53 = .ok (.iload_n 1, 1) := by decide +kernel
theorem dX6_halve_54 : decode cX6_halve 54 = .ok (.iaload, 1) := by decide +kernel
theorem dX6_halve_55 : decode cX6_halve 55 = .ok (.iconst 2, 1) := by decide +kernel
theorem dX6_halve_56 : decode cX6_halve 56 = .ok (.idiv, 1) := by decide +kernel
theorem dX6_halve_57 : decode cX6_halve 57 = .ok (.iastore, 1) := by decide +kernel
theorem dX6_halve_58 : decode cX6_halve 58 = .ok (.return_, 1) := by decide +kernel
theorem dX6_end_0 : decode cX6_end 0 = .ok (.iload_n 1, 1) := by decide +kernel
theorem dX6_end_1 : decode cX6_end 1 = .ok (.ifCond .lt 26, 3) := by decide +kernel
theorem dX6_end_4 : decode cX6_end 4 = .ok (.iload_n 1, 1) := by decide +kernel
theorem dX6_end_5 : decode cX6_end 5 = .ok (.bipush 6, 2) := by decide +kernel
theorem dX6_end_7 : decode cX6_end 7 = .ok (.if_icmp .ge 20, 3) := by decide +kernel
theorem dX6_end_10 : decode cX6_end 10 = .ok (.aload_n 0, 1) := by decide +kernel
theorem dX6_end_11 : decode cX6_end 11 = .ok (.getfield 24, 3) := by decide +kernel
theorem dX6_end_14 : decode cX6_end 14 = .ok (.iload_n 1, 1) := by decide +kernel
theorem dX6_end_15 : decode cX6_end 15 = .ok (.iload_n 2, 1) := by decide +kernel
theorem dX6_end_16 : decode cX6_end 16 = .ok (.iastore, 1) := by decide +kernel
theorem dX6_end_17 : decode cX6_end 17 = .ok (.aload_n 0, 1) := by decide +kernel
theorem dX6_end_18 : decode cX6_end 18 = .ok (.getfield 27, 3) := by decide +kernel
theorem dX6_end_21 : decode cX6_end 21 = .ok (.iload_n 1, 1) := by decide +kernel
theorem dX6_end_22 : decode cX6_end 22 = .ok (.aload_n 0, 1) := by decide +kernel
theorem dX6_end_23 : decode cX6_end 23 = .ok (.getfield 38, 3) := by decide +kernel
theorem dX6_end_26 : decode cX6_end 26 = .ok (.iastore, 1) := by decide +kernel
theorem dX6_end_27 : decode cX6_end 27 = .ok (.return_, 1) := by decide +kernel
theorem dX6_draw_0 : decode cX6_draw 0 = .ok (.aload_n 0, 1) := by decide +kernel
theorem dX6_draw_1 : decode cX6_draw 1 = .ok (.aload_n 0, 1) := by decide +kernel
theorem dX6_draw_2 : decode cX6_draw 2 = .ok (.getfield 51, 3) := by decide +kernel
theorem dX6_draw_5 : decode cX6_draw 5 = .ok (.i2l, 1) := by decide +kernel
theorem dX6_draw_6 : decode cX6_draw 6 = .ok (.ldc2_w 60, 3) := by decide +kernel
theorem dX6_draw_9 : decode cX6_draw 9 = .ok (.lmul, 1) := by decide +kernel
theorem dX6_draw_10 : decode cX6_draw 10 = .ok (.ldc2_w 62, 3) := by decide +kernel
theorem dX6_draw_13 : decode cX6_draw 13 = .ok (.ladd, 1) := by decide +kernel
theorem dX6_draw_14 : decode cX6_draw 14 = .ok (.ldc2_w 64, 3) := by decide +kernel
theorem dX6_draw_17 : decode cX6_draw 17 = .ok (.land, 1) := by decide +kernel
theorem dX6_draw_18 : decode cX6_draw 18 = .ok (.l2i, 1) := by decide +kernel
theorem dX6_draw_19 : decode cX6_draw 19 = .ok (.putfield 51, 3) := by decide +kernel
theorem dX6_draw_22 : decode cX6_draw 22 = .ok (.iload_n 1, 1) := by decide +kernel
theorem dX6_draw_23 : decode cX6_draw 23 = .ok (.ifCond .le 15, 3) := by decide +kernel
theorem dX6_draw_26 : decode cX6_draw 26 = .ok (.aload_n 0, 1) := by decide +kernel
theorem dX6_draw_27 : decode cX6_draw 27 = .ok (.getfield 51, 3) := by decide +kernel
theorem dX6_draw_30 : decode cX6_draw 30 = .ok (.ldc 66, 2) := by decide +kernel
theorem dX6_draw_32 : decode cX6_draw 32 = .ok (.idiv, 1) := by decide +kernel
theorem dX6_draw_33 : decode cX6_draw 33 = .ok (.iload_n 1, 1) := by decide +kernel
theorem dX6_draw_34 : decode cX6_draw 34 = .ok (.irem, 1) := by decide +kernel
theorem dX6_draw_35 : decode cX6_draw 35 = .ok (.goto 4, 3) := by decide +kernel
theorem dX6_draw_38 : decode cX6_draw 38 = .ok (.iconst 0, 1) := by decide +kernel
theorem dX6_draw_39 : decode cX6_draw 39 = .ok (.ireturn, 1) := by decide +kernel
theorem dX7_init_0 : decode cX7_init 0 = .ok (.aload_n 0, 1) := by decide +kernel
theorem dX7_init_1 : decode cX7_init 1 = .ok (.invokespecial 3, 3) := by decide +kernel
theorem dX7_init_4 : decode cX7_init 4 = .ok (.aload_n 0, 1) := by decide +kernel
theorem dX7_init_5 : decode cX7_init 5 = .ok (.sipush 500, 3) := by decide +kernel
theorem dX7_init_8 : decode cX7_init 8 = .ok (.newarray .byte, 2) := by decide +kernel
theorem dX7_init_10 : decode cX7_init 10 = .ok (.putfield 9, 3) := by decide +kernel
theorem dX7_init_13 : decode cX7_init 13 = .ok (.return_, 1) := by decide +kernel
theorem dX7_append_0 : decode cX7_append 0 = .ok (.aload_n 0, 1) := by decide +kernel
theorem dX7_append_1 : decode cX7_append 1 = .ok (.getfield 15, 3) := by decide +kernel
theorem dX7_append_4 : decode cX7_append 4 = .ok (.ifCond .lt 33, 3) := by decide +kernel
theorem dX7_append_7 : decode cX7_append 7 = .ok (.aload_n 0, 1) := by decide +kernel
theorem dX7_append_8 : decode cX7_append 8 = .ok (.getfield 15, 3) := by decide +kernel
theorem dX7_append_11 : decode cX7_append 11 = .ok (.sipush 500, 3) := by decide +kernel
theorem dX7_append_14 : decode cX7_append 14 = .ok (.if_icmp .ge 23, 3) := by decide +kernel
theorem dX7_append_17 : decode cX7_append 17 = .ok (.aload_n 0, 1) := by decide +kernel
theorem dX7_append_18 : decode cX7_append 18 = .ok (.getfield 9, 3) := by decide +kernel
theorem dX7_append_21 : decode cX7_append 21 = .ok (.aload_n 0, 1) := by decide +kernel
theorem dX7_append_22 : decode cX7_append 22 = .ok (.getfield 15, 3) := by decide +kernel
theorem dX7_append_25 : decode cX7_append 25 = .ok (.iload_n 1, 1) := by decide +kernel
theorem dX7_append_26 : decode cX7_append 26 = .ok (.bastore, 1) := by decide +kernel
theorem dX7_append_27 : decode cX7_append 27 = .ok (.aload_n 0, 1) := by decide +kernel
theorem dX7_append_28 : decode cX7_append 28 = .ok (.dup, 1) := by decide +kernel
theorem dX7_append_29 : decode cX7_append 29 = .ok (.getfield 15, 3) := by decide +kernel
theorem dX7_append_32 : decode cX7_append 32 = .ok (.iconst 1, 1) := by decide +kernel
theorem dX7_append_33 : decode cX7_append 33 = .ok (.iadd, 1) := by decide +kernel
theorem dX7_append_34 : decode cX7_append 34 = .ok (.putfield 15, 3) := by decide +kernel
theorem dX7_append_37 : decode cX7_append 37 = .ok (.return_, 1) := by decide +kernel
theorem dX8_init_0 : decode cX8_init 0 = .ok (.aload_n 0, 1) := by decide +kernel
theorem dX8_init_1 : decode cX8_init 1 = .ok (.invokespecial 3, 3) := by decide +kernel
theorem dX8_init_4 : decode cX8_init 4 = .ok (.aload_n 0, 1) := by decide +kernel
theorem dX8_init_5 : decode cX8_init 5 = .ok (.bipush 6, 2) := by decide +kernel
theorem dX8_init_7 : decode cX8_init 7 = .ok (.newarray .int, 2) := by decide +kernel
theorem dX8_init_9 : decode cX8_init 9 = .ok (.putfield 9, 3) := by decide +kernel
theorem dX8_init_12 : decode cX8_init 12 = .ok (.aload_n 0, 1) := by decide +kernel
theorem dX8_init_13 : decode cX8_init 13 = .ok (.aload_n 1, 1) := by decide +kernel
theorem dX8_init_14 : decode cX8_init 14 = .ok (.putfield 15, 3) := by decide +kernel
theorem dX8_init_17 : decode cX8_init 17 = .ok (.return_, 1) := by decide +kernel
theorem dX8_winnableTogether_0 : decode cX8_winnableTogether 0 = .ok (.bipush 6, 2) := by decide +kernel
theorem dX8_winnableTogether_2 : decode cX8_winnableTogether 2 = .ok (.aload_n 0, 1) := by decide +kernel
theorem dX8_winnableTogether_3 : decode cX8_winnableTogether 3 = .ok (.getfield 15, 3) := by decide +kernel
theorem dX8_winnableTogether_6 : decode cX8_winnableTogether 6 = .ok (.getfield 19, 3) := by decide +kernel
theorem dX8_winnableTogether_9 : decode cX8_winnableTogether 9 = .ok (.getfield 25, 3) := by decide +kernel
theorem dX8_winnableTogether_12 : decode cX8_winnableTogether 12 = .ok (.invokestatic 31, 3) := by decide +kernel
theorem dX8_winnableTogether_15 : decode cX8_winnableTogether 15 = .ok (.istore_n 1, 1) := by decide +kernel
theorem dX8_winnableTogether_16 : decode cX8_winnableTogether 16 = .ok (.aload_n 0, 1) := by decide +kernel
theorem dX8_winnableTogether_17 : decode cX8_winnableTogether 17 = .ok (.getfield 15, 3) := by decide +kernel
theorem dX8_winnableTogether_20 : decode cX8_winnableTogether 20 = .ok (.aload_n 0, 1) := by decide +kernel
theorem dX8_winnableTogether_21 : decode cX8_winnableTogether 21 = .ok (.getfield 15, 3) := by decide +kernel
theorem dX8_winnableTogether_24 : decode cX8_winnableTogether 24 = .ok (.getfield 37, 3) := by decide +kernel
theorem dX8_winnableTogether_27 : decode cX8_winnableTogether 27 = .ok (.getfield 41, 3) := by decide +kernel
theorem dX8_winnableTogether_30 : decode cX8_winnableTogether 30 = .ok (.invokevirtual 46, 3) := by decide +kernel
theorem dX8_winnableTogether_33 : decode cX8_winnableTogether 33 = .ok (.istore_n 2, 1) := by decide +kernel
theorem dX8_winnableTogether_34 : decode cX8_winnableTogether 34 = .ok (.iconst 0, 1) := by decide +kernel
theorem dX8_winnableTogether_35 : decode cX8_winnableTogether 35 = .ok (.istore_n 3, 1) := by decide +kernel
theorem dX8_winnableTogether_36 : decode cX8_winnableTogether 36 = .ok (.iload_n 3, 1) := by decide +kernel
theorem dX8_winnableTogether_37 : decode cX8_winnableTogether 37 = .ok (.iload_n 1, 1) := by decide +kernel
theorem dX8_winnableTogether_38 : decode cX8_winnableTogether 38 = .ok (.if_icmp .ge 20, 3) := by decide +kernel
theorem dX8_winnableTogether_41 : decode cX8_winnableTogether 41 = .ok (.aload_n 0, 1) := by decide +kernel
theorem dX8_winnableTogether_42 : decode cX8_winnableTogether 42 = .ok (.getfield 9, 3) := by decide +kernel
theorem dX8_winnableTogether_45 : decode cX8_winnableTogether 45 = .ok (.iload_n 3, 1) := by decide +kernel
theorem dX8_winnableTogether_46 : decode cX8_winnableTogether 46 = .ok (.aload_n 0, 1) := by decide +kernel
theorem dX8_winnableTogether_47 : decode cX8_winnableTogether 47 = .ok (.iload_n 3, 1) := by decide +kernel
theorem dX8_winnableTogether_48 : decode cX8_winnableTogether 48 = .ok (.invokevirtual 50, 3) := by decide +kernel
theorem dX8_winnableTogether_51 : decode cX8_winnableTogether 51 = .ok (.iastore, 1) := by decide +kernel
theorem dX8_winnableTogether_52 : decode cX8_winnableTogether 52 = .ok (.iinc 3 1, 3) := by decide +kernel
theorem dX8_winnableTogether_55 : decode cX8_winnableTogether 55 = .ok (.goto (-19), 3) := by decide +kernel
theorem dX8_winnableTogether_58 : decode cX8_winnableTogether 58 = .ok (.iconst 0, 1) := by decide +kernel
theorem dX8_winnableTogether_59 : decode cX8_winnableTogether 59 = .ok (.istore_n 3, 1) := by decide +kernel
theorem dX8_winnableTogether_60 : decode cX8_winnableTogether 60 = .ok (.iconst 0, 1) := by decide +kernel
theorem dX8_winnableTogether_61 : decode cX8_winnableTogether 61 = .ok (.istore 4, 2) := by decide +kernel
theorem dX8_winnableTogether_63 : decode cX8_winnableTogether 63 = .ok (.iload 4, 2) := by decide +kernel
theorem dX8_winnableTogether_65 : decode cX8_winnableTogether 65 = .ok (.iconst 1, 1) := by decide +kernel
theorem dX8_winnableTogether_66 : decode cX8_winnableTogether 66 = .ok (.iload_n 1, 1) := by decide +kernel
theorem dX8_winnableTogether_67 : decode cX8_winnableTogether 67 = .ok (.ishl, 1) := by decide +kernel
theorem dX8_winnableTogether_68 : decode cX8_winnableTogether 68 = .ok (.if_icmp .ge 34, 3) := by decide +kernel
theorem dX8_winnableTogether_71 : decode cX8_winnableTogether 71 = .ok (.iload 4, 2) := by decide +kernel
theorem dX8_winnableTogether_73 : decode cX8_winnableTogether 73 = .ok (.invokestatic 53, 3) := by decide +kernel
theorem dX8_winnableTogether_76 : decode cX8_winnableTogether 76 = .ok (.iload_n 3, 1) := by decide +kernel
theorem dX8_winnableTogether_77 : decode cX8_winnableTogether 77 = .ok (.invokestatic 53, 3) := by decide +kernel
theorem dX8_winnableTogether_80 : decode cX8_winnableTogether 80 = .ok (.if_icmp .le 16, 3) := by decide +kernel
theorem dX8_winnableTogether_83 : decode cX8_winnableTogether 83 = .ok (.aload_n 0, 1) := by decide +kernel
theorem dX8_winnableTogether_84 : decode cX8_winnableTogether 84 = .ok (.iload 4, 2) := by decide +kernel
theorem dX8_winnableTogether_86 : decode cX8_winnableTogether 86 = .ok (.invokevirtual 58, 3) := by decide +kernel
theorem dX8_winnableTogether_89 : decode cX8_winnableTogether 89 = .ok (.iload_n 2, 1) := by decide +kernel
theorem dX8_winnableTogether_90 : decode cX8_winnableTogether 90 = .ok (.if_icmp .gt 6, 3) := by decide +kernel
theorem dX8_winnableTogether_93 : decode cX8_winnableTogether 93 = .ok (.iload 4, 2) := by decide +kernel
theorem dX8_winnableTogether_95 : decode cX8_winnableTogether 95 = .ok (.istore_n 3, 1) := by decide +kernel
theorem dX8_winnableTogether_96 : decode cX8_winnableTogether 96 = .ok (.iinc 4 1, 3) := by decide +kernel
theorem dX8_winnableTogether_99 : decode cX8_winnableTogether 99 = .ok (.goto (-36), 3) := by decide +kernel
theorem dX8_winnableTogether_102 : decode cX8_winnableTogether 102 = .ok (.iload_n 3, 1) := by decide +kernel
theorem dX8_winnableTogether_103 : decode cX8_winnableTogether 103 = .ok (.ireturn, 1) := by decide +kernel
theorem dX8_speakersOf_0 : decode cX8_speakersOf 0 = .ok (.iconst 0, 1) := by decide +kernel
theorem dX8_speakersOf_1 : decode cX8_speakersOf 1 = .ok (.istore_n 2, 1) := by decide +kernel
theorem dX8_speakersOf_2 : decode cX8_speakersOf 2 = .ok (.iconst 0, 1) := by decide +kernel
theorem dX8_speakersOf_3 : decode cX8_speakersOf 3 = .ok (.istore_n 3, 1) := by decide +kernel
theorem dX8_speakersOf_4 : decode cX8_speakersOf 4 = .ok (.iload_n 3, 1) := by decide +kernel
theorem dX8_speakersOf_5 : decode cX8_speakersOf 5 = .ok (.bipush 6, 2) := by decide +kernel
theorem dX8_speakersOf_7 : decode cX8_speakersOf 7 = .ok (.if_icmp .ge 27, 3) := by decide +kernel
theorem dX8_speakersOf_10 : decode cX8_speakersOf 10 = .ok (.iload_n 1, 1) := by decide +kernel
theorem dX8_speakersOf_11 : decode cX8_speakersOf 11 = .ok (.iload_n 3, 1) := by decide +kernel
theorem dX8_speakersOf_12 : decode cX8_speakersOf 12 = .ok (.ishr, 1) := by decide +kernel
theorem dX8_speakersOf_13 : decode cX8_speakersOf 13 = .ok (.iconst 1, 1) := by decide +kernel
theorem dX8_speakersOf_14 : decode cX8_speakersOf 14 = .ok (.iand, 1) := by decide +kernel
theorem dX8_speakersOf_15 : decode cX8_speakersOf 15 = .ok (.iconst 1, 1) := by decide +kernel
theorem dX8_speakersOf_16 : decode cX8_speakersOf 16 = .ok (.if_icmp .ne 12, 3) := by decide +kernel
theorem dX8_speakersOf_19 : decode cX8_speakersOf 19 = .ok (.iload_n 2, 1) := by decide +kernel
theorem dX8_speakersOf_20 : decode cX8_speakersOf 20 = .ok (.aload_n 0, 1) := by decide +kernel
theorem dX8_speakersOf_21 : decode cX8_speakersOf 21 = .ok (.getfield 9, 3) := by decide +kernel
theorem dX8_speakersOf_24 : decode cX8_speakersOf 24 = .ok (.iload_n 3, 1) := by decide +kernel
theorem dX8_speakersOf_25 : decode cX8_speakersOf 25 = .ok (.iaload, 1) := by decide +kernel
theorem dX8_speakersOf_26 : decode cX8_speakersOf 26 = .ok (.iadd, 1) := by decide +kernel
theorem dX8_speakersOf_27 : decode cX8_speakersOf 27 = .ok (.istore_n 2, 1) := by decide +kernel
theorem dX8_speakersOf_28 : decode cX8_speakersOf 28 = .ok (.iinc 3 1, 3) := by decide +kernel
theorem dX8_speakersOf_31 : decode cX8_speakersOf 31 = .ok (.goto (-27), 3) := by decide +kernel
theorem dX8_speakersOf_34 : decode cX8_speakersOf 34 = .ok (.iload_n 2, 1) := by decide +kernel
theorem dX8_speakersOf_35 : decode cX8_speakersOf 35 = .ok (.ireturn, 1) := by decide +kernel
theorem dX8_speakersNeeded_0 : decode cX8_speakersNeeded 0 = .ok (.aload_n 0, 1) := by decide +kernel
theorem dX8_speakersNeeded_1 : decode cX8_speakersNeeded 1 = .ok (.getfield 15, 3) := by decide +kernel
theorem dX8_speakersNeeded_4 : decode cX8_speakersNeeded 4 = .ok (.iload_n 1, 1) := by decide +kernel
theorem dX8_speakersNeeded_5 : decode cX8_speakersNeeded 5 = .ok (.invokevirtual 61, 3) := by decide +kernel
theorem dX8_speakersNeeded_8 : decode cX8_speakersNeeded 8 = .ok (.ifCond .ne 7, 3) := by decide +kernel
theorem dX8_speakersNeeded_11 : decode cX8_speakersNeeded 11 = .ok (.sipush 1000, 3) := by decide +kernel
theorem dX8_speakersNeeded_14 : decode cX8_speakersNeeded 14 = .ok (.ireturn, 1) := by decide +kernel
theorem dX8_speakersNeeded_15 : decode cX8_speakersNeeded 15 = .ok (.aload_n 0, 1) := by decide +kernel
theorem dX8_speakersNeeded_16 : decode cX8_speakersNeeded 16 = .ok (.getfield 15, 3) := by decide +kernel
theorem dX8_speakersNeeded_19 : decode cX8_speakersNeeded 19 = .ok (.getfield 37, 3) := by decide +kernel
theorem dX8_speakersNeeded_22 : decode cX8_speakersNeeded 22 = .ok (.getfield 41, 3) := by decide +kernel
theorem dX8_speakersNeeded_25 : decode cX8_speakersNeeded 25 = .ok (.istore_n 2, 1) := by decide +kernel
theorem dX8_speakersNeeded_26 : decode cX8_speakersNeeded 26 = .ok (.aload_n 0, 1) := by decide +kernel
theorem dX8_speakersNeeded_27 : decode cX8_speakersNeeded 27 = .ok (.getfield 15, 3) := by decide +kernel
theorem dX8_speakersNeeded_30 : decode cX8_speakersNeeded 30 = .ok (.getfield 19, 3) := by decide +kernel
theorem dX8_speakersNeeded_33 : decode cX8_speakersNeeded 33 = .ok (.iload_n 1, 1) := by decide +kernel
theorem dX8_speakersNeeded_34 : decode cX8_speakersNeeded 34 = .ok (.invokevirtual 65, 3) := by decide +kernel
theorem dX8_speakersNeeded_37 : decode cX8_speakersNeeded 37 = .ok (.istore_n 3, 1) := by decide +kernel
theorem dX8_speakersNeeded_38 : decode cX8_speakersNeeded 38 = .ok (.aload_n 0, 1) := by decide +kernel
theorem dX8_speakersNeeded_39 : decode cX8_speakersNeeded 39 = .ok (.getfield 15, 3) := by decide +kernel
theorem dX8_speakersNeeded_42 : decode cX8_speakersNeeded 42 = .ok (.getfield 37, 3) := by decide +kernel
theorem dX8_speakersNeeded_45 : decode cX8_speakersNeeded 45 = .ok (.getfield 68, 3) := by decide +kernel
theorem dX8_speakersNeeded_48 : decode cX8_speakersNeeded 48 = .ok (.iload_n 1, 1) := by decide +kernel
theorem dX8_speakersNeeded_49 : decode cX8_speakersNeeded 49 = .ok (.iaload, 1) := by decide +kernel
theorem dX8_speakersNeeded_50 : decode cX8_speakersNeeded 50 = .ok (.istore 4, 2) := by decide +kernel
theorem dX8_speakersNeeded_52 : decode cX8_speakersNeeded 52 = .ok (.iconst 0, 1) := by decide +kernel
theorem dX8_speakersNeeded_53 : decode cX8_speakersNeeded 53 = .ok (.istore 5, 2) := by decide +kernel
theorem dX8_speakersNeeded_55 : decode cX8_speakersNeeded 55 = .ok (.iconst 0, 1) := by decide +kernel
theorem dX8_speakersNeeded_56 : decode cX8_speakersNeeded 56 = .ok (.istore 6, 2) := by decide +kernel
theorem dX8_speakersNeeded_58 : decode cX8_speakersNeeded 58 = .ok (.iload 6, 2) := by decide +kernel
theorem dX8_speakersNeeded_60 : decode cX8_speakersNeeded 60 = .ok (.aload_n 0, 1) := by decide +kernel
theorem dX8_speakersNeeded_61 : decode cX8_speakersNeeded 61 = .ok (.getfield 15, 3) := by decide +kernel
theorem dX8_speakersNeeded_64 : decode cX8_speakersNeeded 64 = .ok (.getfield 19, 3) := by decide +kernel
theorem dX8_speakersNeeded_67 : decode cX8_speakersNeeded 67 = .ok (.getfield 71, 3) := by decide +kernel
theorem dX8_speakersNeeded_70 : decode cX8_speakersNeeded 70 = .ok (.if_icmp .ge 70, 3) := by decide +kernel
theorem dX8_speakersNeeded_73 : decode cX8_speakersNeeded 73 = .ok (.iload 6, 2) := by decide +kernel
theorem dX8_speakersNeeded_75 : decode cX8_speakersNeeded 75 = .ok (.bipush 12, 2) := by decide +kernel
theorem dX8_speakersNeeded_77 : decode cX8_speakersNeeded 77 = .ok (.if_icmp .ge 63, 3) := by decide +kernel
theorem dX8_speakersNeeded_80 : decode cX8_speakersNeeded 80 = .ok (.iload 4, 2) := by decide +kernel
theorem dX8_speakersNeeded_82 : decode cX8_speakersNeeded 82 = .ok (.iload_n 3, 1) := by decide +kernel
theorem dX8_speakersNeeded_83 : decode cX8_speakersNeeded 83 = .ok (.if_icmp .ge 57, 3) := by decide +kernel
theorem dX8_speakersNeeded_86 : decode cX8_speakersNeeded 86 = .ok (.aload_n 0, 1) := by decide +kernel
theorem dX8_speakersNeeded_87 : decode cX8_speakersNeeded 87 = .ok (.getfield 15, 3) := by decide +kernel
theorem dX8_speakersNeeded_90 : decode cX8_speakersNeeded 90 = .ok (.getfield 19, 3) := by decide +kernel
theorem dX8_speakersNeeded_93 : decode cX8_speakersNeeded 93 = .ok (.getfield 74, 3) := by decide +kernel
theorem dX8_speakersNeeded_96 : decode cX8_speakersNeeded 96 = .ok (.iload 6, 2) := by decide +kernel
theorem dX8_speakersNeeded_98 : decode cX8_speakersNeeded 98 = .ok (.iaload, 1) := by decide +kernel
theorem dX8_speakersNeeded_99 : decode cX8_speakersNeeded 99 = .ok (.iload_n 1, 1) := by decide +kernel
theorem dX8_speakersNeeded_100 : decode cX8_speakersNeeded 100 = .ok (.if_icmp .ne 34, 3) := by decide +kernel
theorem dX8_speakersNeeded_103 : decode cX8_speakersNeeded 103 = .ok (.aload_n 0, 1) := by decide +kernel
theorem dX8_speakersNeeded_104 : decode cX8_speakersNeeded 104 = .ok (.getfield 15, 3) := by decide +kernel
theorem dX8_speakersNeeded_107 : decode cX8_speakersNeeded 107 = .ok (.iload 6, 2) := by decide +kernel
theorem dX8_speakersNeeded_109 : decode cX8_speakersNeeded 109 = .ok (.iload_n 2, 1) := by decide +kernel
theorem dX8_speakersNeeded_110 : decode cX8_speakersNeeded 110 = .ok (.invokevirtual 77, 3) := by decide +kernel
theorem dX8_speakersNeeded_113 : decode cX8_speakersNeeded 113 = .ok (.ifCond .eq 21, 3) := by decide +kernel
theorem dX8_speakersNeeded_116 : decode cX8_speakersNeeded 116 = .ok (.iload 4, 2) := by decide +kernel
theorem dX8_speakersNeeded_118 : decode cX8_speakersNeeded 118 = .ok (.aload_n 0, 1) := by decide +kernel
theorem dX8_speakersNeeded_119 : decode cX8_speakersNeeded 119 = .ok (.getfield 15, 3) := by decide +kernel
theorem dX8_speakersNeeded_122 : decode cX8_speakersNeeded 122 = .ok (.iload 6, 2) := by decide +kernel
theorem dX8_speakersNeeded_124 : decode cX8_speakersNeeded 124 = .ok (.iload_n 2, 1) := by decide +kernel
theorem dX8_speakersNeeded_125 : decode cX8_speakersNeeded 125 = .ok (.invokevirtual 81, 3) := by decide +kernel
theorem dX8_speakersNeeded_128 : decode cX8_speakersNeeded 128 = .ok (.iadd, 1) := by decide +kernel
theorem dX8_speakersNeeded_129 : decode cX8_speakersNeeded 129 = .ok (.istore 4, 2) := by decide +kernel
theorem dX8_speakersNeeded_131 : decode cX8_speakersNeeded 131 = .ok (.iinc 5 1, 3) := by decide +kernel
theorem dX8_speakersNeeded_134 : decode cX8_speakersNeeded 134 = .ok (.iinc 6 1, 3) := by decide +kernel
theorem dX8_speakersNeeded_137 : decode cX8_speakersNeeded 137 = .ok (.goto (-79), 3) := by decide +kernel
theorem dX8_speakersNeeded_140 : decode cX8_speakersNeeded 140 = .ok (.iload 4, 2) := by decide +kernel
theorem dX8_speakersNeeded_142 : decode cX8_speakersNeeded 142 = .ok (.iload_n 3, 1) := by decide +kernel
theorem dX8_speakersNeeded_143 : decode cX8_speakersNeeded 143 = .ok (.if_icmp .lt 8, 3) := by decide +kernel
theorem dX8_speakersNeeded_146 : decode cX8_speakersNeeded 146 = .ok (.iload 5, 2) := by decide +kernel
theorem dX8_speakersNeeded_148 : decode cX8_speakersNeeded 148 = .ok (.goto 6, 3) := by decide +kernel
theorem dX8_speakersNeeded_151 : decode cX8_speakersNeeded 151 = .ok (.sipush 1000, 3) := by decide +kernel
theorem dX8_speakersNeeded_154 : decode cX8_speakersNeeded 154 = .ok (.ireturn, 1) := by decide +kernel
theorem dX9_init_0 : decode cX9_init 0 = .ok (.aload_n 0, 1) := by decide +kernel
theorem dX9_init_1 : decode cX9_init 1 = .ok (.invokespecial 3, 3) := by decide +kernel
theorem dX9_init_4 : decode cX9_init 4 = .ok (.aload_n 0, 1) := by decide +kernel
theorem dX9_init_5 : decode cX9_init 5 = .ok (.new 9, 3) := by decide +kernel
theorem dX9_init_8 : decode cX9_init 8 = .ok (.dup, 1) := by decide +kernel
theorem dX9_init_9 : decode cX9_init 9 = .ok (.invokespecial 11, 3) := by decide +kernel
theorem dX9_init_12 : decode cX9_init 12 = .ok (.putfield 12, 3) := by decide +kernel
theorem dX9_init_15 : decode cX9_init 15 = .ok (.aload_n 0, 1) := by decide +kernel
theorem dX9_init_16 : decode cX9_init 16 = .ok (.new 18, 3) := by decide +kernel
theorem dX9_init_19 : decode cX9_init 19 = .ok (.dup, 1) := by decide +kernel
theorem dX9_init_20 : decode cX9_init 20 = .ok (.invokespecial 20, 3) := by decide +kernel
theorem dX9_init_23 : decode cX9_init 23 = .ok (.putfield 21, 3) := by decide +kernel
theorem dX9_init_26 : decode cX9_init 26 = .ok (.aload_n 0, 1) := by decide +kernel
theorem dX9_init_27 : decode cX9_init 27 = .ok (.new 25, 3) := by decide +kernel
theorem dX9_init_30 : decode cX9_init 30 = .ok (.dup, 1) := by decide +kernel
theorem dX9_init_31 : decode cX9_init 31 = .ok (.invokespecial 27, 3) := by decide +kernel
theorem dX9_init_34 : decode cX9_init 34 = .ok (.putfield 28, 3) := by decide +kernel
theorem dX9_init_37 : decode cX9_init 37 = .ok (.return_, 1) := by decide +kernel
theorem dX9_goesOn_0 : decode cX9_goesOn 0 = .ok (.aload_n 0, 1) := by decide +kernel
theorem dX9_goesOn_1 : decode cX9_goesOn 1 = .ok (.getfield 12, 3) := by decide +kernel
theorem dX9_goesOn_4 : decode cX9_goesOn 4 = .ok (.iload_n 1, 1) := by decide +kernel
theorem dX9_goesOn_5 : decode cX9_goesOn 5 = .ok (.invokevirtual 32, 3) := by decide +kernel
theorem dX9_goesOn_8 : decode cX9_goesOn 8 = .ok (.ifCond .eq 19, 3) := by decide +kernel
theorem dX9_goesOn_11 : decode cX9_goesOn 11 = .ok (.aload_n 0, 1) := by decide +kernel
theorem dX9_goesOn_12 : decode cX9_goesOn 12 = .ok (.getfield 28, 3) := by decide +kernel
theorem dX9_goesOn_15 : decode cX9_goesOn 15 = .ok (.getfield 36, 3) := by decide +kernel
theorem dX9_goesOn_18 : decode cX9_goesOn 18 = .ok (.iload_n 1, 1) := by decide +kernel
theorem dX9_goesOn_19 : decode cX9_goesOn 19 = .ok (.iaload, 1) := by decide +kernel
theorem dX9_goesOn_20 : decode cX9_goesOn 20 = .ok (.ifCond .ne 7, 3) := by decide +kernel
theorem dX9_goesOn_23 : decode cX9_goesOn 23 = .ok (.iconst 1, 1) := by decide +kernel
theorem dX9_goesOn_24 : decode cX9_goesOn 24 = .ok (.goto 4, 3) := by decide +kernel
theorem dX9_goesOn_27 : decode cX9_goesOn 27 = .ok (.iconst 0, 1) := by decide +kernel
theorem dX9_goesOn_28 : decode cX9_goesOn 28 = .ok (.ireturn, 1) := by decide +kernel
theorem dX9_freshOn_0 : decode cX9_freshOn 0 = .ok (.aload_n 0, 1) := by decide +kernel
theorem dX9_freshOn_1 : decode cX9_freshOn 1 = .ok (.getfield 12, 3) := by decide +kernel
theorem dX9_freshOn_4 : decode cX9_freshOn 4 = .ok (.iload_n 1, 1) := by decide +kernel
theorem dX9_freshOn_5 : decode cX9_freshOn 5 = .ok (.invokevirtual 40, 3) := by decide +kernel
theorem dX9_freshOn_8 : decode cX9_freshOn 8 = .ok (.ifCond .ne 5, 3) := by decide +kernel
theorem dX9_freshOn_11 : decode cX9_freshOn 11 = .ok (.iconst 0, 1) := by decide +kernel
theorem dX9_freshOn_12 : decode cX9_freshOn 12 = .ok (.ireturn, 1) := by decide +kernel
theorem dX9_freshOn_13 : decode cX9_freshOn 13 = .ok (.aload_n 0, 1) := by decide +kernel
theorem dX9_freshOn_14 : decode cX9_freshOn 14 = .ok (.getfield 12, 3) := by decide +kernel
theorem dX9_freshOn_17 : decode cX9_freshOn 17 = .ok (.getfield 43, 3) := by decide +kernel
theorem dX9_freshOn_20 : decode cX9_freshOn 20 = .ok (.iload_n 1, 1) := by decide +kernel
theorem dX9_freshOn_21 : decode cX9_freshOn 21 = .ok (.iaload, 1) := by decide +kernel
theorem dX9_freshOn_22 : decode cX9_freshOn 22 = .ok (.lookupswitch 58 #[(1, 26), (3, 45)], 26) := by decide +kernel
theorem dX9_freshOn_48 : decode cX9_freshOn 48 = .ok (.aload_n 0, 1) := by decide +kernel
theorem dX9_freshOn_49 : decode cX9_freshOn 49 = .ok (.getfield 12, 3) := by decide +kernel
theorem dX9_freshOn_52 : decode cX9_freshOn 52 = .ok (.getfield 46, 3) := by decide +kernel
theorem dX9_freshOn_55 : decode cX9_freshOn 55 = .ok (.iload_n 1, 1) := by decide +kernel
theorem dX9_freshOn_56 : decode cX9_freshOn 56 = .ok (.iaload, 1) := by decide +kernel
theorem dX9_freshOn_57 : decode cX9_freshOn 57 = .ok (.aload_n 0, 1) := by decide +kernel
theorem dX9_freshOn_58 : decode cX9_freshOn 58 = .ok (.getfield 21, 3) := by decide +kernel
theorem dX9_freshOn_61 : decode cX9_freshOn 61 = .ok (.iload_n 2, 1) := by decide +kernel
theorem dX9_freshOn_62 : decode cX9_freshOn 62 = .ok (.invokevirtual 49, 3) := by decide +kernel
theorem dX9_freshOn_65 : decode cX9_freshOn 65 = .ok (.imul, 1) := by decide +kernel
theorem dX9_freshOn_66 : decode cX9_freshOn 66 = .ok (.ireturn, 1) := by decide +kernel
theorem dX9_freshOn_67 : decode cX9_freshOn 67 = .ok (.aload_n 0, 1) := by decide +kernel
theorem dX9_freshOn_68 : decode cX9_freshOn 68 = .ok (.getfield 12, 3) := by decide +kernel
theorem dX9_freshOn_71 : decode cX9_freshOn 71 = .ok (.getfield 46, 3) := by decide +kernel
theorem dX9_freshOn_74 : decode cX9_freshOn 74 = .ok (.iload_n 1, 1) := by decide +kernel
theorem dX9_freshOn_75 : decode cX9_freshOn 75 = .ok (.iaload, 1) := by decide +kernel
theorem dX9_freshOn_76 : decode cX9_freshOn 76 = .ok (.bipush 6, 2) := by decide +kernel
theorem dX9_freshOn_78 : decode cX9_freshOn 78 = .ok (.imul, 1) := by decide +kernel
theorem dX9_freshOn_79 : decode cX9_freshOn 79 = .ok (.ireturn, 1) := by decide +kernel
theorem dX9_freshOn_80 : decode cX9_freshOn 80 = .ok (.aload_n 0, 1) := by decide +kernel
theorem dX9_freshOn_81 : decode cX9_freshOn 81 = .ok (.getfield 12, 3) := by decide +kernel
theorem dX9_freshOn_84 : decode cX9_freshOn 84 = .ok (.getfield 46, 3) := by decide +kernel
theorem dX9_freshOn_87 : decode cX9_freshOn 87 = .ok (.iload_n 1, 1) := by decide +kernel
theorem dX9_freshOn_88 : decode cX9_freshOn 88 = .ok (.iaload, 1) := by decide +kernel
theorem dX9_freshOn_89 : decode cX9_freshOn 89 = .ok (.iconst 3, 1) := by decide +kernel
theorem dX9_freshOn_90 : decode cX9_freshOn 90 = .ok (.imul, 1) := by decide +kernel
theorem dX9_freshOn_91 : decode cX9_freshOn 91 = .ok (.ireturn, 1) := by decide +kernel
theorem dX9_mayBeCalled_0 : decode cX9_mayBeCalled 0 = .ok (.aload_n 0, 1) := by decide +kernel
theorem dX9_mayBeCalled_1 : decode cX9_mayBeCalled 1 = .ok (.getfield 12, 3) := by decide +kernel
theorem dX9_mayBeCalled_4 : decode cX9_mayBeCalled 4 = .ok (.iload_n 1, 1) := by decide +kernel
theorem dX9_mayBeCalled_5 : decode cX9_mayBeCalled 5 = .ok (.invokevirtual 40, 3) := by decide +kernel
theorem dX9_mayBeCalled_8 : decode cX9_mayBeCalled 8 = .ok (.ifCond .eq 32, 3) := by decide +kernel
theorem dX9_mayBeCalled_11 : decode cX9_mayBeCalled 11 = .ok (.aload_n 0, 1) := by decide +kernel
theorem dX9_mayBeCalled_12 : decode cX9_mayBeCalled 12 = .ok (.getfield 28, 3) := by decide +kernel
theorem dX9_mayBeCalled_15 : decode cX9_mayBeCalled 15 = .ok (.getfield 53, 3) := by decide +kernel
theorem dX9_mayBeCalled_18 : decode cX9_mayBeCalled 18 = .ok (.iload_n 1, 1) := by decide +kernel
theorem dX9_mayBeCalled_19 : decode cX9_mayBeCalled 19 = .ok (.iaload, 1) := by decide +kernel
theorem dX9_mayBeCalled_20 : decode cX9_mayBeCalled 20 = .ok (.iconst 1, 1) := by decide +kernel
theorem dX9_mayBeCalled_21 : decode cX9_mayBeCalled 21 = .ok (.if_icmp .eq 19, 3) := by decide +kernel
theorem dX9_mayBeCalled_24 : decode cX9_mayBeCalled 24 = .ok (.aload_n 0, 1) := by decide +kernel
theorem dX9_mayBeCalled_25 : decode cX9_mayBeCalled 25 = .ok (.aload_n 0, 1) := by decide +kernel
theorem dX9_mayBeCalled_26 : decode cX9_mayBeCalled 26 = .ok (.getfield 12, 3) := by decide +kernel
theorem dX9_mayBeCalled_29 : decode cX9_mayBeCalled 29 = .ok (.getfield 56, 3) := by decide +kernel
theorem dX9_mayBeCalled_32 : decode cX9_mayBeCalled 32 = .ok (.iload_n 1, 1) := by decide +kernel
theorem dX9_mayBeCalled_33 : decode cX9_mayBeCalled 33 = .ok (.iaload, 1) := by decide +kernel
theorem dX9_mayBeCalled_34 : decode cX9_mayBeCalled 34 = .ok (.invokevirtual 59, 3) := by decide +kernel
theorem dX9_mayBeCalled_37 : decode cX9_mayBeCalled 37 = .ok (.ifCond .ne 5, 3) := by decide +kernel
theorem dX9_mayBeCalled_40 : decode cX9_mayBeCalled 40 = .ok (.iconst 0, 1) := by decide +kernel
theorem dX9_mayBeCalled_41 : decode cX9_mayBeCalled 41 = .ok (.ireturn, 1) := by decide +kernel
theorem dX9_mayBeCalled_42 : decode cX9_mayBeCalled 42 = .ok (.aload_n 0, 1) := by decide +kernel
theorem dX9_mayBeCalled_43 : decode cX9_mayBeCalled 43 = .ok (.getfield 28, 3) := by decide +kernel
theorem dX9_mayBeCalled_46 : decode cX9_mayBeCalled 46 = .ok (.getfield 62, 3) := by decide +kernel
theorem dX9_mayBeCalled_49 : decode cX9_mayBeCalled 49 = .ok (.iload_n 1, 1) := by decide +kernel
theorem dX9_mayBeCalled_50 : decode cX9_mayBeCalled 50 = .ok (.iaload, 1) := by decide +kernel
theorem dX9_mayBeCalled_51 : decode cX9_mayBeCalled 51 = .ok (.ifCond .ne 5, 3) := by decide +kernel
theorem dX9_mayBeCalled_54 : decode cX9_mayBeCalled 54 = .ok (.iconst 1, 1) := by decide +kernel
theorem dX9_mayBeCalled_55 : decode cX9_mayBeCalled 55 = .ok (.ireturn, 1) := by decide +kernel
theorem dX9_mayBeCalled_56 : decode cX9_mayBeCalled 56 = .ok (.aload_n 0, 1) := by decide +kernel
theorem dX9_mayBeCalled_57 : decode cX9_mayBeCalled 57 = .ok (.getfield 12, 3) := by decide +kernel
theorem dX9_mayBeCalled_60 : decode cX9_mayBeCalled 60 = .ok (.getfield 43, 3) := by decide +kernel
theorem dX9_mayBeCalled_63 : decode cX9_mayBeCalled 63 = .ok (.iload_n 1, 1) := by decide +kernel
theorem dX9_mayBeCalled_64 : decode cX9_mayBeCalled 64 = .ok (.iaload, 1) := by decide +kernel
theorem dX9_mayBeCalled_65 : decode cX9_mayBeCalled 65 = .ok (.iconst 2, 1) := by decide +kernel
theorem dX9_mayBeCalled_66 : decode cX9_mayBeCalled 66 = .ok (.if_icmp .eq 29, 3) := by decide +kernel
theorem dX9_mayBeCalled_69 : decode cX9_mayBeCalled 69 = .ok (.iload_n 2, 1) := by decide +kernel
theorem dX9_mayBeCalled_70 : decode cX9_mayBeCalled 70 = .ok (.aload_n 0, 1) := by decide +kernel
theorem dX9_mayBeCalled_71 : decode cX9_mayBeCalled 71 = .ok (.getfield 28, 3) := by decide +kernel
theorem dX9_mayBeCalled_74 : decode cX9_mayBeCalled 74 = .ok (.getfield 65, 3) := by decide +kernel
theorem dX9_mayBeCalled_77 : decode cX9_mayBeCalled 77 = .ok (.iload_n 1, 1) := by decide +kernel
theorem dX9_mayBeCalled_78 : decode cX9_mayBeCalled 78 = .ok (.iaload, 1) := by decide +kernel
theorem dX9_mayBeCalled_79 : decode cX9_mayBeCalled 79 = .ok (.aload_n 0, 1) := by decide +kernel
theorem dX9_mayBeCalled_80 : decode cX9_mayBeCalled 80 = .ok (.getfield 21, 3) := by decide +kernel
theorem dX9_mayBeCalled_83 : decode cX9_mayBeCalled 83 = .ok (.iload_n 2, 1) := by decide +kernel
theorem dX9_mayBeCalled_84 : decode cX9_mayBeCalled 84 = .ok (.invokevirtual 68, 3) := by decide +kernel
theorem dX9_mayBeCalled_87 : decode cX9_mayBeCalled 87 = .ok (.iadd, 1) := by decide +kernel
theorem dX9_mayBeCalled_88 : decode cX9_mayBeCalled 88 = .ok (.if_icmp .lt 7, 3) := by decide +kernel
theorem dX9_mayBeCalled_91 : decode cX9_mayBeCalled 91 = .ok (.iconst 1, 1) := by decide +kernel
theorem dX9_mayBeCalled_92 : decode cX9_mayBeCalled 92 = .ok (.goto 4, 3) := by decide +kernel
theorem dX9_mayBeCalled_95 : decode cX9_mayBeCalled 95 = .ok (.iconst 0, 1) := by decide +kernel
theorem dX9_mayBeCalled_96 : decode cX9_mayBeCalled 96 = .ok (.ireturn, 1) := by decide +kernel
theorem dX9_maySpeak_0 : decode cX9_maySpeak 0 = .ok (.aload_n 0, 1) := by decide +kernel
theorem dX9_maySpeak_1 : decode cX9_maySpeak 1 = .ok (.iload_n 1, 1) := by decide +kernel
theorem dX9_maySpeak_2 : decode cX9_maySpeak 2 = .ok (.aload_n 0, 1) := by decide +kernel
theorem dX9_maySpeak_3 : decode cX9_maySpeak 3 = .ok (.getfield 28, 3) := by decide +kernel
theorem dX9_maySpeak_6 : decode cX9_maySpeak 6 = .ok (.getfield 71, 3) := by decide +kernel
theorem dX9_maySpeak_9 : decode cX9_maySpeak 9 = .ok (.invokevirtual 75, 3) := by decide +kernel
theorem dX9_maySpeak_12 : decode cX9_maySpeak 12 = .ok (.ifCond .eq 21, 3) := by decide +kernel
theorem dX9_maySpeak_15 : decode cX9_maySpeak 15 = .ok (.aload_n 0, 1) := by decide +kernel
theorem dX9_maySpeak_16 : decode cX9_maySpeak 16 = .ok (.aload_n 0, 1) := by decide +kernel
theorem dX9_maySpeak_17 : decode cX9_maySpeak 17 = .ok (.getfield 28, 3) := by decide +kernel
theorem dX9_maySpeak_20 : decode cX9_maySpeak 20 = .ok (.getfield 71, 3) := by decide +kernel
theorem dX9_maySpeak_23 : decode cX9_maySpeak 23 = .ok (.invokevirtual 79, 3) := by decide +kernel
theorem dX9_maySpeak_26 : decode cX9_maySpeak 26 = .ok (.ifCond .le 7, 3) := by decide +kernel
theorem dX9_maySpeak_29 : decode cX9_maySpeak 29 = .ok (.iconst 1, 1) := by decide +kernel
theorem dX9_maySpeak_30 : decode cX9_maySpeak 30 = .ok (.goto 4, 3) := by decide +kernel
theorem dX9_maySpeak_33 : decode cX9_maySpeak 33 = .ok (.iconst 0, 1) := by decide +kernel
theorem dX9_maySpeak_34 : decode cX9_maySpeak 34 = .ok (.ireturn, 1) := by decide +kernel
theorem dX9_roomOn_0 : decode cX9_roomOn 0 = .ok (.iload_n 1, 1) := by decide +kernel
theorem dX9_roomOn_1 : decode cX9_roomOn 1 = .ok (.aload_n 0, 1) := by decide +kernel
theorem dX9_roomOn_2 : decode cX9_roomOn 2 = .ok (.getfield 28, 3) := by decide +kernel
theorem dX9_roomOn_5 : decode cX9_roomOn 5 = .ok (.getfield 71, 3) := by decide +kernel
theorem dX9_roomOn_8 : decode cX9_roomOn 8 = .ok (.if_icmp .ne 13, 3) := by decide +kernel
theorem dX9_roomOn_11 : decode cX9_roomOn 11 = .ok (.aload_n 0, 1) := by decide +kernel
theorem dX9_roomOn_12 : decode cX9_roomOn 12 = .ok (.getfield 28, 3) := by decide +kernel
theorem dX9_roomOn_15 : decode cX9_roomOn 15 = .ok (.getfield 82, 3) := by decide +kernel
theorem dX9_roomOn_18 : decode cX9_roomOn 18 = .ok (.goto 4, 3) := by decide +kernel
theorem dX9_roomOn_21 : decode cX9_roomOn 21 = .ok (.iconst 0, 1) := by decide +kernel
theorem dX9_roomOn_22 : decode cX9_roomOn 22 = .ok (.istore_n 2, 1) := by decide +kernel
theorem dX9_roomOn_23 : decode cX9_roomOn 23 = .ok (.iconst 0, 1) := by decide +kernel
theorem dX9_roomOn_24 : decode cX9_roomOn 24 = .ok (.aload_n 0, 1) := by decide +kernel
theorem dX9_roomOn_25 : decode cX9_roomOn 25 = .ok (.getfield 21, 3) := by decide +kernel
theorem dX9_roomOn_28 : decode cX9_roomOn 28 = .ok (.iload_n 1, 1) := by decide +kernel
theorem dX9_roomOn_29 : decode cX9_roomOn 29 = .ok (.invokevirtual 85, 3) := by decide +kernel
theorem dX9_roomOn_32 : decode cX9_roomOn 32 = .ok (.iload_n 2, 1) := by decide +kernel
theorem dX9_roomOn_33 : decode cX9_roomOn 33 = .ok (.isub, 1) := by decide +kernel
theorem dX9_roomOn_34 : decode cX9_roomOn 34 = .ok (.invokestatic 88, 3) := by decide +kernel
theorem dX9_roomOn_37 : decode cX9_roomOn 37 = .ok (.ireturn, 1) := by decide +kernel
theorem dX9_hear_0 : decode cX9_hear 0 = .ok (.aload_n 0, 1) := by decide +kernel
theorem dX9_hear_1 : decode cX9_hear 1 = .ok (.getfield 12, 3) := by decide +kernel
theorem dX9_hear_4 : decode cX9_hear 4 = .ok (.iload_n 1, 1) := by decide +kernel
theorem dX9_hear_5 : decode cX9_hear 5 = .ok (.invokevirtual 40, 3) := by decide +kernel
theorem dX9_hear_8 : decode cX9_hear 8 = .ok (.ifCond .eq 22, 3) := by decide +kernel
theorem dX9_hear_11 : decode cX9_hear 11 = .ok (.aload_n 0, 1) := by decide +kernel
theorem dX9_hear_12 : decode cX9_hear 12 = .ok (.getfield 12, 3) := by decide +kernel
theorem dX9_hear_15 : decode cX9_hear 15 = .ok (.aload_n 0, 1) := by decide +kernel
theorem dX9_hear_16 : decode cX9_hear 16 = .ok (.getfield 12, 3) := by decide +kernel
theorem dX9_hear_19 : decode cX9_hear 19 = .ok (.getfield 56, 3) := by decide +kernel
theorem dX9_hear_22 : decode cX9_hear 22 = .ok (.iload_n 1, 1) := by decide +kernel
theorem dX9_hear_23 : decode cX9_hear 23 = .ok (.iaload, 1) := by decide +kernel
theorem dX9_hear_24 : decode cX9_hear 24 = .ok (.invokevirtual 32, 3) := by decide +kernel
theorem dX9_hear_27 : decode cX9_hear 27 = .ok (.ifCond .ne 5, 3) := by decide +kernel
theorem dX9_hear_30 : decode cX9_hear 30 = .ok (.iconst 0, 1) := by decide +kernel
theorem dX9_hear_31 : decode cX9_hear 31 = .ok (.ireturn, 1) := by decide +kernel
theorem dX9_hear_32 : decode cX9_hear 32 = .ok (.aload_n 0, 1) := by decide +kernel
theorem dX9_hear_33 : decode cX9_hear 33 = .ok (.getfield 12, 3) := by decide +kernel
theorem dX9_hear_36 : decode cX9_hear 36 = .ok (.getfield 56, 3) := by decide +kernel
theorem dX9_hear_39 : decode cX9_hear 39 = .ok (.iload_n 1, 1) := by decide +kernel
theorem dX9_hear_40 : decode cX9_hear 40 = .ok (.iaload, 1) := by decide +kernel
theorem dX9_hear_41 : decode cX9_hear 41 = .ok (.istore_n 2, 1) := by decide +kernel
theorem dX9_hear_42 : decode cX9_hear 42 = .ok (.aload_n 0, 1) := by decide +kernel
theorem dX9_hear_43 : decode cX9_hear 43 = .ok (.getfield 28, 3) := by decide +kernel
theorem dX9_hear_46 : decode cX9_hear 46 = .ok (.dup, 1) := by decide +kernel
theorem dX9_hear_47 : decode cX9_hear 47 = .ok (.getfield 82, 3) := by decide +kernel
theorem dX9_hear_50 : decode cX9_hear 50 = .ok (.iconst 1, 1) := by decide +kernel
theorem dX9_hear_51 : decode cX9_hear 51 = .ok (.iadd, 1) := by decide +kernel
theorem dX9_hear_52 : decode cX9_hear 52 = .ok (.putfield 82, 3) := by decide +kernel
theorem dX9_hear_55 : decode cX9_hear 55 = .ok (.aload_n 0, 1) := by decide +kernel
theorem dX9_hear_56 : decode cX9_hear 56 = .ok (.getfield 28, 3) := by decide +kernel
theorem dX9_hear_59 : decode cX9_hear 59 = .ok (.getfield 65, 3) := by decide +kernel
theorem dX9_hear_62 : decode cX9_hear 62 = .ok (.iload_n 1, 1) := by decide +kernel
theorem dX9_hear_63 : decode cX9_hear 63 = .ok (.aload_n 0, 1) := by decide +kernel
theorem dX9_hear_64 : decode cX9_hear 64 = .ok (.getfield 28, 3) := by decide +kernel
theorem dX9_hear_67 : decode cX9_hear 67 = .ok (.getfield 71, 3) := by decide +kernel
theorem dX9_hear_70 : decode cX9_hear 70 = .ok (.iastore, 1) := by decide +kernel
theorem dX9_hear_71 : decode cX9_hear 71 = .ok (.aload_n 0, 1) := by decide +kernel
theorem dX9_hear_72 : decode cX9_hear 72 = .ok (.getfield 28, 3) := by decide +kernel
theorem dX9_hear_75 : decode cX9_hear 75 = .ok (.getfield 62, 3) := by decide +kernel
theorem dX9_hear_78 : decode cX9_hear 78 = .ok (.iload_n 1, 1) := by decide +kernel
theorem dX9_hear_79 : decode cX9_hear 79 = .ok (.dup2, 1) := by decide +kernel
theorem dX9_hear_80 : decode cX9_hear 80 = .ok (.iaload, 1) := by decide +kernel
theorem dX9_hear_81 : decode cX9_hear 81 = .ok (.iconst 1, 1) := by decide +kernel
theorem dX9_hear_82 : decode cX9_hear 82 = .ok (.iadd, 1) := by decide +kernel
theorem dX9_hear_83 : decode cX9_hear 83 = .ok (.iastore, 1) := by decide +kernel
theorem dX9_hear_84 : decode cX9_hear 84 = .ok (.aload_n 0, 1) := by decide +kernel
theorem dX9_hear_85 : decode cX9_hear 85 = .ok (.getfield 28, 3) := by decide +kernel
theorem dX9_hear_88 : decode cX9_hear 88 = .ok (.getfield 94, 3) := by decide +kernel
theorem dX9_hear_91 : decode cX9_hear 91 = .ok (.iload_n 2, 1) := by decide +kernel
theorem dX9_hear_92 : decode cX9_hear 92 = .ok (.dup2, 1) := by decide +kernel
theorem dX9_hear_93 : decode cX9_hear 93 = .ok (.iaload, 1) := by decide +kernel
theorem dX9_hear_94 : decode cX9_hear 94 = .ok (.aload_n 0, 1) := by decide +kernel
theorem dX9_hear_95 : decode cX9_hear 95 = .ok (.iload_n 1, 1) := by decide +kernel
theorem dX9_hear_96 : decode cX9_hear 96 = .ok (.aload_n 0, 1) := by decide +kernel
theorem dX9_hear_97 : decode cX9_hear 97 = .ok (.getfield 28, 3) := by decide +kernel
theorem dX9_hear_100 : decode cX9_hear 100 = .ok (.getfield 71, 3) := by decide +kernel
theorem dX9_hear_103 : decode cX9_hear 103 = .ok (.invokevirtual 97, 3) := by decide +kernel
theorem dX9_hear_106 : decode cX9_hear 106 = .ok (.iadd, 1) := by decide +kernel
theorem dX9_hear_107 : decode cX9_hear 107 = .ok (.iastore, 1) := by decide +kernel
theorem dX9_hear_108 : decode cX9_hear 108 = .ok (.aload_n 0, 1) := by decide +kernel
theorem dX9_hear_109 : decode cX9_hear 109 = .ok (.iload_n 2, 1) := by decide +kernel
theorem dX9_hear_110 : decode cX9_hear 110 = .ok (.invokevirtual 100, 3) := by decide +kernel
theorem dX9_hear_113 : decode cX9_hear 113 = .ok (.aload_n 0, 1) := by decide +kernel
theorem dX9_hear_114 : decode cX9_hear 114 = .ok (.getfield 28, 3) := by decide +kernel
theorem dX9_hear_117 : decode cX9_hear 117 = .ok (.getfield 36, 3) := by decide +kernel
theorem dX9_hear_120 : decode cX9_hear 120 = .ok (.iload_n 2, 1) := by decide +kernel
theorem dX9_hear_121 : decode cX9_hear 121 = .ok (.iaload, 1) := by decide +kernel
theorem dX9_hear_122 : decode cX9_hear 122 = .ok (.ireturn, 1) := by decide +kernel
theorem dX9_endDay_0 : decode cX9_endDay 0 = .ok (.iconst 0, 1) := by decide +kernel
theorem dX9_endDay_1 : decode cX9_endDay 1 = .ok (.istore_n 1, 1) := by decide +kernel
theorem dX9_endDay_2 : decode cX9_endDay 2 = .ok (.iload_n 1, 1) := by decide +kernel
theorem dX9_endDay_3 : decode cX9_endDay 3 = .ok (.aload_n 0, 1) := by decide +kernel
theorem dX9_endDay_4 : decode cX9_endDay 4 = .ok (.getfield 12, 3) := by decide +kernel
theorem dX9_endDay_7 : decode cX9_endDay 7 = .ok (.getfield 104, 3) := by decide +kernel
theorem dX9_endDay_10 : decode cX9_endDay 10 = .ok (.if_icmp .ge 58, 3) := by decide +kernel
theorem dX9_endDay_13 : decode cX9_endDay 13 = .ok (.aload_n 0, 1) := by decide +kernel
theorem dX9_endDay_14 : decode cX9_endDay 14 = .ok (.iload_n 1, 1) := by decide +kernel
theorem dX9_endDay_15 : decode cX9_endDay 15 = .ok (.invokevirtual 100, 3) := by decide +kernel
theorem dX9_endDay_18 : decode cX9_endDay 18 = .ok (.aload_n 0, 1) := by decide +kernel
theorem dX9_endDay_19 : decode cX9_endDay 19 = .ok (.iload_n 1, 1) := by decide +kernel
theorem dX9_endDay_20 : decode cX9_endDay 20 = .ok (.invokevirtual 59, 3) := by decide +kernel
theorem dX9_endDay_23 : decode cX9_endDay 23 = .ok (.ifCond .eq 31, 3) := by decide +kernel
theorem dX9_endDay_26 : decode cX9_endDay 26 = .ok (.aload_n 0, 1) := by decide +kernel
theorem dX9_endDay_27 : decode cX9_endDay 27 = .ok (.getfield 28, 3) := by decide +kernel
theorem dX9_endDay_30 : decode cX9_endDay 30 = .ok (.getfield 71, 3) := by decide +kernel
theorem dX9_endDay_33 : decode cX9_endDay 33 = .ok (.aload_n 0, 1) := by decide +kernel
theorem dX9_endDay_34 : decode cX9_endDay 34 = .ok (.getfield 12, 3) := by decide +kernel
theorem dX9_endDay_37 : decode cX9_endDay 37 = .ok (.getfield 107, 3) := by decide +kernel
theorem dX9_endDay_40 : decode cX9_endDay 40 = .ok (.iload_n 1, 1) := by decide +kernel
theorem dX9_endDay_41 : decode cX9_endDay 41 = .ok (.iaload, 1) := by decide +kernel
theorem dX9_endDay_42 : decode cX9_endDay 42 = .ok (.if_icmp .ne 12, 3) := by decide +kernel
theorem dX9_endDay_45 : decode cX9_endDay 45 = .ok (.aload_n 0, 1) := by decide +kernel
theorem dX9_endDay_46 : decode cX9_endDay 46 = .ok (.getfield 28, 3) := by decide +kernel
theorem dX9_endDay_49 : decode cX9_endDay 49 = .ok (.iload_n 1, 1) := by decide +kernel
theorem dX9_endDay_50 : decode cX9_endDay 50 = .ok (.iconst 2, 1) := by decide +kernel
theorem dX9_endDay_51 : decode cX9_endDay 51 = .ok (.invokevirtual 110, 3) := by decide +kernel
theorem dX9_endDay_54 : decode cX9_endDay 54 = .ok (.aload_n 0, 1) := by decide +kernel
theorem dX9_endDay_55 : decode cX9_endDay 55 = .ok (.getfield 28, 3) := by decide +kernel
theorem dX9_endDay_58 : decode cX9_endDay 58 = .ok (.iload_n 1, 1) := by decide +kernel
theorem dX9_endDay_59 : decode cX9_endDay 59 = .ok (.invokevirtual 114, 3) := by decide +kernel
theorem dX9_endDay_62 : decode cX9_endDay 62 = .ok (.iinc 1 1, 3) := by decide +kernel
theorem dX9_endDay_65 : decode cX9_endDay 65 = .ok (.goto (-63), 3) := by decide +kernel
theorem dX9_endDay_68 : decode cX9_endDay 68 = .ok (.aload_n 0, 1) := by decide +kernel
theorem dX9_endDay_69 : decode cX9_endDay 69 = .ok (.getfield 28, 3) := by decide +kernel
theorem dX9_endDay_72 : decode cX9_endDay 72 = .ok (.dup, 1) := by decide +kernel
theorem dX9_endDay_73 : decode cX9_endDay 73 = .ok (.getfield 71, 3) := by decide +kernel
theorem dX9_endDay_76 : decode cX9_endDay 76 = .ok (.iconst 1, 1) := by decide +kernel
theorem dX9_endDay_77 : decode cX9_endDay 77 = .ok (.iadd, 1) := by decide +kernel
theorem dX9_endDay_78 : decode cX9_endDay 78 = .ok (.putfield 71, 3) := by decide +kernel
theorem dX9_endDay_81 : decode cX9_endDay 81 = .ok (.aload_n 0, 1) := by decide +kernel
theorem dX9_endDay_82 : decode cX9_endDay 82 = .ok (.getfield 28, 3) := by decide +kernel
theorem dX9_endDay_85 : decode cX9_endDay 85 = .ok (.iconst 0, 1) := by decide +kernel
theorem dX9_endDay_86 : decode cX9_endDay 86 = .ok (.putfield 82, 3) := by decide +kernel
theorem dX9_endDay_89 : decode cX9_endDay 89 = .ok (.return_, 1) := by decide +kernel
theorem dX9_passDayByDraws_0 : decode cX9_passDayByDraws 0 = .ok (.iconst 0, 1) := by decide +kernel
theorem dX9_passDayByDraws_1 : decode cX9_passDayByDraws 1 = .ok (.istore_n 2, 1) := by decide +kernel
theorem dX9_passDayByDraws_2 : decode cX9_passDayByDraws 2 = .ok (.iconst 0, 1) := by decide +kernel
theorem dX9_passDayByDraws_3 : decode cX9_passDayByDraws 3 = .ok (.istore_n 3, 1) := by decide +kernel
theorem dX9_passDayByDraws_4 : decode cX9_passDayByDraws 4 = .ok (.iload_n 3, 1) := by decide +kernel
theorem dX9_passDayByDraws_5 : decode cX9_passDayByDraws 5 = .ok (.aload_n 0, 1) := by decide +kernel
theorem dX9_passDayByDraws_6 : decode cX9_passDayByDraws 6 = .ok (.getfield 12, 3) := by decide +kernel
theorem dX9_passDayByDraws_9 : decode cX9_passDayByDraws 9 = .ok (.getfield 117, 3) := by decide +kernel
theorem dX9_passDayByDraws_12 : decode cX9_passDayByDraws 12 = .ok (.if_icmp .ge 39, 3) := by decide +kernel
theorem dX9_passDayByDraws_15 : decode cX9_passDayByDraws 15 = .ok (.aload_n 0, 1) := by decide +kernel
theorem dX9_passDayByDraws_16 : decode cX9_passDayByDraws 16 = .ok (.getfield 28, 3) := by decide +kernel
theorem dX9_passDayByDraws_19 : decode cX9_passDayByDraws 19 = .ok (.bipush 100, 2) := by decide +kernel
theorem dX9_passDayByDraws_21 : decode cX9_passDayByDraws 21 = .ok (.invokevirtual 120, 3) := by decide +kernel
theorem dX9_passDayByDraws_24 : decode cX9_passDayByDraws 24 = .ok (.iload_n 1, 1) := by decide +kernel
theorem dX9_passDayByDraws_25 : decode cX9_passDayByDraws 25 = .ok (.if_icmp .ge 20, 3) := by decide +kernel
theorem dX9_passDayByDraws_28 : decode cX9_passDayByDraws 28 = .ok (.aload_n 0, 1) := by decide +kernel
theorem dX9_passDayByDraws_29 : decode cX9_passDayByDraws 29 = .ok (.iload_n 3, 1) := by decide +kernel
theorem dX9_passDayByDraws_30 : decode cX9_passDayByDraws 30 = .ok (.invokevirtual 123, 3) := by decide +kernel
theorem dX9_passDayByDraws_33 : decode cX9_passDayByDraws 33 = .ok (.ifCond .eq 12, 3) := by decide +kernel
theorem dX9_passDayByDraws_36 : decode cX9_passDayByDraws 36 = .ok (.aload_n 0, 1) := by decide +kernel
theorem dX9_passDayByDraws_37 : decode cX9_passDayByDraws 37 = .ok (.iload_n 3, 1) := by decide +kernel
theorem dX9_passDayByDraws_38 : decode cX9_passDayByDraws 38 = .ok (.invokevirtual 126, 3) := by decide +kernel
theorem dX9_passDayByDraws_41 : decode cX9_passDayByDraws 41 = .ok (.pop, 1) := by decide +kernel
theorem dX9_passDayByDraws_42 : decode cX9_passDayByDraws 42 = .ok (.iinc 2 1, 3) := by decide +kernel
theorem dX9_passDayByDraws_45 : decode cX9_passDayByDraws 45 = .ok (.iinc 3 1, 3) := by decide +kernel
theorem dX9_passDayByDraws_48 : decode cX9_passDayByDraws 48 = .ok (.goto (-44), 3) := by decide +kernel
theorem dX9_passDayByDraws_51 : decode cX9_passDayByDraws 51 = .ok (.aload_n 0, 1) := by decide +kernel
theorem dX9_passDayByDraws_52 : decode cX9_passDayByDraws 52 = .ok (.invokevirtual 129, 3) := by decide +kernel
theorem dX9_passDayByDraws_55 : decode cX9_passDayByDraws 55 = .ok (.iload_n 2, 1) := by decide +kernel
theorem dX9_passDayByDraws_56 : decode cX9_passDayByDraws 56 = .ok (.ireturn, 1) := by decide +kernel
theorem dX9_look_0 : decode cX9_look 0 = .ok (.aload_n 0, 1) := by decide +kernel
theorem dX9_look_1 : decode cX9_look 1 = .ok (.iload_n 1, 1) := by decide +kernel
theorem dX9_look_2 : decode cX9_look 2 = .ok (.invokevirtual 59, 3) := by decide +kernel
theorem dX9_look_5 : decode cX9_look 5 = .ok (.ifCond .eq 40, 3) := by decide +kernel
theorem dX9_look_8 : decode cX9_look 8 = .ok (.aload_n 0, 1) := by decide +kernel
theorem dX9_look_9 : decode cX9_look 9 = .ok (.getfield 28, 3) := by decide +kernel
theorem dX9_look_12 : decode cX9_look 12 = .ok (.getfield 94, 3) := by decide +kernel
theorem dX9_look_15 : decode cX9_look 15 = .ok (.iload_n 1, 1) := by decide +kernel
theorem dX9_look_16 : decode cX9_look 16 = .ok (.iaload, 1) := by decide +kernel
theorem dX9_look_17 : decode cX9_look 17 = .ok (.aload_n 0, 1) := by decide +kernel
theorem dX9_look_18 : decode cX9_look 18 = .ok (.getfield 12, 3) := by decide +kernel
theorem dX9_look_21 : decode cX9_look 21 = .ok (.iload_n 1, 1) := by decide +kernel
theorem dX9_look_22 : decode cX9_look 22 = .ok (.invokevirtual 132, 3) := by decide +kernel
theorem dX9_look_25 : decode cX9_look 25 = .ok (.if_icmp .lt 20, 3) := by decide +kernel
theorem dX9_look_28 : decode cX9_look 28 = .ok (.aload_n 0, 1) := by decide +kernel
theorem dX9_look_29 : decode cX9_look 29 = .ok (.iload_n 1, 1) := by decide +kernel
theorem dX9_look_30 : decode cX9_look 30 = .ok (.invokevirtual 135, 3) := by decide +kernel
theorem dX9_look_33 : decode cX9_look 33 = .ok (.ifCond .eq 12, 3) := by decide +kernel
theorem dX9_look_36 : decode cX9_look 36 = .ok (.aload_n 0, 1) := by decide +kernel
theorem dX9_look_37 : decode cX9_look 37 = .ok (.getfield 28, 3) := by decide +kernel
theorem dX9_look_40 : decode cX9_look 40 = .ok (.iload_n 1, 1) := by decide +kernel
theorem dX9_look_41 : decode cX9_look 41 = .ok (.iconst 1, 1) := by decide +kernel
theorem dX9_look_42 : decode cX9_look 42 = .ok (.invokevirtual 110, 3) := by decide +kernel
theorem dX9_look_45 : decode cX9_look 45 = .ok (.return_, 1) := by decide +kernel
theorem dX9_isCarried_0 : decode cX9_isCarried 0 = .ok (.aload_n 0, 1) := by decide +kernel
theorem dX9_isCarried_1 : decode cX9_isCarried 1 = .ok (.getfield 12, 3) := by decide +kernel
theorem dX9_isCarried_4 : decode cX9_isCarried 4 = .ok (.iload_n 1, 1) := by decide +kernel
theorem dX9_isCarried_5 : decode cX9_isCarried 5 = .ok (.invokevirtual 32, 3) := by decide +kernel
theorem dX9_isCarried_8 : decode cX9_isCarried 8 = .ok (.ifCond .ne 5, 3) := by decide +kernel
theorem dX9_isCarried_11 : decode cX9_isCarried 11 = .ok (.iconst 0, 1) := by decide +kernel
theorem dX9_isCarried_12 : decode cX9_isCarried 12 = .ok (.ireturn, 1) := by decide +kernel
theorem dX9_isCarried_13 : decode cX9_isCarried 13 = .ok (.aload_n 0, 1) := by decide +kernel
theorem dX9_isCarried_14 : decode cX9_isCarried 14 = .ok (.getfield 12, 3) := by decide +kernel
theorem dX9_isCarried_17 : decode cX9_isCarried 17 = .ok (.getfield 138, 3) := by decide +kernel
theorem dX9_isCarried_20 : decode cX9_isCarried 20 = .ok (.iload_n 1, 1) := by decide +kernel
theorem dX9_isCarried_21 : decode cX9_isCarried 21 = .ok (.iaload, 1) := by decide +kernel
theorem dX9_isCarried_22 : decode cX9_isCarried 22 = .ok (.istore_n 2, 1) := by decide +kernel
theorem dX9_isCarried_23 : decode cX9_isCarried 23 = .ok (.aload_n 0, 1) := by decide +kernel
theorem dX9_isCarried_24 : decode cX9_isCarried 24 = .ok (.getfield 12, 3) := by decide +kernel
theorem dX9_isCarried_27 : decode cX9_isCarried 27 = .ok (.iload_n 2, 1) := by decide +kernel
theorem dX9_isCarried_28 : decode cX9_isCarried 28 = .ok (.invokevirtual 32, 3) := by decide +kernel
theorem dX9_isCarried_31 : decode cX9_isCarried 31 = .ok (.ifCond .eq 16, 3) := by decide +kernel
theorem dX9_isCarried_34 : decode cX9_isCarried 34 = .ok (.aload_n 0, 1) := by decide +kernel
theorem dX9_isCarried_35 : decode cX9_isCarried 35 = .ok (.getfield 28, 3) := by decide +kernel
theorem dX9_isCarried_38 : decode cX9_isCarried 38 = .ok (.getfield 36, 3) := by decide +kernel
theorem dX9_isCarried_41 : decode cX9_isCarried 41 = .ok (.iload_n 2, 1) := by decide +kernel
theorem dX9_isCarried_42 : decode cX9_isCarried 42 = .ok (.iaload, 1) := by decide +kernel
theorem dX9_isCarried_43 : decode cX9_isCarried 43 = .ok (.iconst 1, 1) := by decide +kernel
theorem dX9_isCarried_44 : decode cX9_isCarried 44 = .ok (.if_icmp .ne 7, 3) := by decide +kernel
theorem dX9_isCarried_47 : decode cX9_isCarried 47 = .ok (.iconst 1, 1) := by decide +kernel
theorem dX9_isCarried_48 : decode cX9_isCarried 48 = .ok (.goto 4, 3) := by decide +kernel
theorem dX9_isCarried_51 : decode cX9_isCarried 51 = .ok (.iconst 0, 1) := by decide +kernel
theorem dX9_isCarried_52 : decode cX9_isCarried 52 = .ok (.ireturn, 1) := by decide +kernel
theorem dX10_init_0 : decode cX10_init 0 = .ok (.aload_n 0, 1) := by decide +kernel
theorem dX10_init_1 : decode cX10_init 1 = .ok (.invokespecial 1, 3) := by decide +kernel
theorem dX10_init_4 : decode cX10_init 4 = .ok (.aload_n 0, 1) := by decide +kernel
theorem dX10_init_5 : decode cX10_init 5 = .ok (.new 7, 3) := by decide +kernel
theorem dX10_init_8 : decode cX10_init 8 = .ok (.dup, 1) := by decide +kernel
theorem dX10_init_9 : decode cX10_init 9 = .ok (.invokespecial 9, 3) := by decide +kernel
theorem dX10_init_12 : decode cX10_init 12 = .ok (.putfield 10, 3) := by decide +kernel
theorem dX10_init_15 : decode cX10_init 15 = .ok (.aload_n 0, 1) := by decide +kernel
theorem dX10_init_16 : decode cX10_init 16 = .ok (.new 16, 3) := by decide +kernel
theorem dX10_init_19 : decode cX10_init 19 = .ok (.dup, 1) := by decide +kernel
theorem dX10_init_20 : decode cX10_init 20 = .ok (.aload_n 0, 1) := by decide +kernel
theorem dX10_init_21 : decode cX10_init 21 = .ok (.getfield 10, 3) := by decide +kernel
theorem dX10_init_24 : decode cX10_init 24 = .ok (.invokespecial 18, 3) := by decide +kernel
theorem dX10_init_27 : decode cX10_init 27 = .ok (.putfield 21, 3) := by decide +kernel
theorem dX10_init_30 : decode cX10_init 30 = .ok (.aload_n 0, 1) := by decide +kernel
theorem dX10_init_31 : decode cX10_init 31 = .ok (.new 25, 3) := by decide +kernel
theorem dX10_init_34 : decode cX10_init 34 = .ok (.dup, 1) := by decide +kernel
theorem dX10_init_35 : decode cX10_init 35 = .ok (.invokespecial 27, 3) := by decide +kernel
theorem dX10_init_38 : decode cX10_init 38 = .ok (.putfield 28, 3) := by decide +kernel
theorem dX10_init_41 : decode cX10_init 41 = .ok (.aload_n 0, 1) := by decide +kernel
theorem dX10_init_42 : decode cX10_init 42 = .ok (.new 32, 3) := by decide +kernel
theorem dX10_init_45 : decode cX10_init 45 = .ok (.dup, 1) := by decide +kernel
theorem dX10_init_46 : decode cX10_init 46 = .ok (.aload_n 0, 1) := by decide +kernel
theorem dX10_init_47 : decode cX10_init 47 = .ok (.getfield 28, 3) := by decide +kernel
theorem dX10_init_50 : decode cX10_init 50 = .ok (.invokespecial 34, 3) := by decide +kernel
theorem dX10_init_53 : decode cX10_init 53 = .ok (.putfield 37, 3) := by decide +kernel
theorem dX10_init_56 : decode cX10_init 56 = .ok (.aload_n 0, 1) := by decide +kernel
theorem dX10_init_57 : decode cX10_init 57 = .ok (.new 41, 3) := by decide +kernel
theorem dX10_init_60 : decode cX10_init 60 = .ok (.dup, 1) := by decide +kernel
theorem dX10_init_61 : decode cX10_init 61 = .ok (.aload_n 0, 1) := by decide +kernel
theorem dX10_init_62 : decode cX10_init 62 = .ok (.getfield 28, 3) := by decide +kernel
theorem dX10_init_65 : decode cX10_init 65 = .ok (.invokespecial 43, 3) := by decide +kernel
theorem dX10_init_68 : decode cX10_init 68 = .ok (.putfield 44, 3) := by decide +kernel
theorem dX10_init_71 : decode cX10_init 71 = .ok (.aload_n 0, 1) := by decide +kernel
theorem dX10_init_72 : decode cX10_init 72 = .ok (.new 48, 3) := by decide +kernel
theorem dX10_init_75 : decode cX10_init 75 = .ok (.dup, 1) := by decide +kernel
theorem dX10_init_76 : decode cX10_init 76 = .ok (.aload_n 0, 1) := by decide +kernel
theorem dX10_init_77 : decode cX10_init 77 = .ok (.getfield 28, 3) := by decide +kernel
theorem dX10_init_80 : decode cX10_init 80 = .ok (.invokespecial 50, 3) := by decide +kernel
theorem dX10_init_83 : decode cX10_init 83 = .ok (.putfield 51, 3) := by decide +kernel
theorem dX10_init_86 : decode cX10_init 86 = .ok (.aload_n 0, 1) := by decide +kernel
theorem dX10_init_87 : decode cX10_init 87 = .ok (.new 55, 3) := by decide +kernel
theorem dX10_init_90 : decode cX10_init 90 = .ok (.dup, 1) := by decide +kernel
theorem dX10_init_91 : decode cX10_init 91 = .ok (.invokespecial 57, 3) := by decide +kernel
theorem dX10_init_94 : decode cX10_init 94 = .ok (.putfield 58, 3) := by decide +kernel
theorem dX10_init_97 : decode cX10_init 97 = .ok (.aload_n 0, 1) := by decide +kernel
theorem dX10_init_98 : decode cX10_init 98 = .ok (.iconst 2, 1) := by decide +kernel
theorem dX10_init_99 : decode cX10_init 99 = .ok (.anewarray 62, 3) := by decide +kernel
theorem dX10_init_102 : decode cX10_init 102 = .ok (.putfield 64, 3) := by decide +kernel
theorem dX10_init_105 : decode cX10_init 105 = .ok (.iconst 0, 1) := by decide +kernel
theorem dX10_init_106 : decode cX10_init 106 = .ok (.istore_n 1, 1) := by decide +kernel
theorem dX10_init_107 : decode cX10_init 107 = .ok (.iload_n 1, 1) := by decide +kernel
theorem dX10_init_108 : decode cX10_init 108 = .ok (.iconst 2, 1) := by decide +kernel
theorem dX10_init_109 : decode cX10_init 109 = .ok (.if_icmp .ge 22, 3) := by decide +kernel
theorem dX10_init_112 : decode cX10_init 112 = .ok (.aload_n 0, 1) := by decide +kernel
theorem dX10_init_113 : decode cX10_init 113 = .ok (.getfield 64, 3) := by decide +kernel
theorem dX10_init_116 : decode cX10_init 116 = .ok (.iload_n 1, 1) := by decide +kernel
theorem dX10_init_117 : decode cX10_init 117 = .ok (.new 62, 3) := by decide +kernel
theorem dX10_init_120 : decode cX10_init 120 = .ok (.dup, 1) := by decide +kernel
theorem dX10_init_121 : decode cX10_init 121 = .ok (.invokespecial 68, 3) := by decide +kernel
theorem dX10_init_124 : decode cX10_init 124 = .ok (.aastore, 1) := by decide +kernel
theorem dX10_init_125 : decode cX10_init 125 = .ok (.iinc 1 1, 3) := by decide +kernel
theorem dX10_init_128 : decode cX10_init 128 = .ok (.goto (-21), 3) := by decide +kernel
theorem dX10_init_131 : decode cX10_init 131 = .ok (.aload_n 0, 1) := by decide +kernel
theorem dX10_init_132 : decode cX10_init 132 = .ok (.iconst 2, 1) := by decide +kernel
theorem dX10_init_133 : decode cX10_init 133 = .ok (.newarray .boolean, 2) := by decide +kernel
theorem dX10_init_135 : decode cX10_init 135 = .ok (.putfield 69, 3) := by decide +kernel
theorem dX10_init_138 : decode cX10_init 138 = .ok (.aload_n 0, 1) := by decide +kernel
theorem dX10_init_139 : decode cX10_init 139 = .ok (.new 73, 3) := by decide +kernel
theorem dX10_init_142 : decode cX10_init 142 = .ok (.dup, 1) := by decide +kernel
theorem dX10_init_143 : decode cX10_init 143 = .ok (.invokespecial 75, 3) := by decide +kernel
theorem dX10_init_146 : decode cX10_init 146 = .ok (.putfield 76, 3) := by decide +kernel
theorem dX10_init_149 : decode cX10_init 149 = .ok (.aload_n 0, 1) := by decide +kernel
theorem dX10_init_150 : decode cX10_init 150 = .ok (.new 80, 3) := by decide +kernel
theorem dX10_init_153 : decode cX10_init 153 = .ok (.dup, 1) := by decide +kernel
theorem dX10_init_154 : decode cX10_init 154 = .ok (.invokespecial 82, 3) := by decide +kernel
theorem dX10_init_157 : decode cX10_init 157 = .ok (.putfield 83, 3) := by decide +kernel
theorem dX10_init_160 : decode cX10_init 160 = .ok (.aload_n 0, 1) := by decide +kernel
theorem dX10_init_161 : decode cX10_init 161 = .ok (.iconst (-1), 1) := by decide +kernel
theorem dX10_init_162 : decode cX10_init 162 = .ok (.putfield 87, 3) := by decide +kernel
theorem dX10_init_165 : decode cX10_init 165 = .ok (.return_, 1) := by decide +kernel
theorem dX10_feed_0 : decode cX10_feed 0 = .ok (.iload_n 1, 1) := by decide +kernel
theorem dX10_feed_1 : decode cX10_feed 1 = .ok (.iconst 1, 1) := by decide +kernel
theorem dX10_feed_2 : decode cX10_feed 2 = .ok (.if_icmp .lt 9, 3) := by decide +kernel
theorem dX10_feed_5 : decode cX10_feed 5 = .ok (.iload_n 1, 1) := by decide +kernel
theorem dX10_feed_6 : decode cX10_feed 6 = .ok (.bipush 8, 2) := by decide +kernel
theorem dX10_feed_8 : decode cX10_feed 8 = .ok (.if_icmp .le 6, 3) := by decide +kernel
theorem dX10_feed_11 : decode cX10_feed 11 = .ok (.ldc 91, 2) := by decide +kernel
theorem dX10_feed_13 : decode cX10_feed 13 = .ok (.ireturn, 1) := by decide +kernel
theorem dX10_feed_14 : decode cX10_feed 14 = .ok (.aload_n 0, 1) := by decide +kernel
theorem dX10_feed_15 : decode cX10_feed 15 = .ok (.getfield 10, 3) := by decide +kernel
theorem dX10_feed_18 : decode cX10_feed 18 = .ok (.getfield 92, 3) := by decide +kernel
theorem dX10_feed_21 : decode cX10_feed 21 = .ok (.iload_n 1, 1) := by decide +kernel
theorem dX10_feed_22 : decode cX10_feed 22 = .ok (.iadd, 1) := by decide +kernel
theorem dX10_feed_23 : decode cX10_feed 23 = .ok (.sipush 500, 3) := by decide +kernel
theorem dX10_feed_26 : decode cX10_feed 26 = .ok (.if_icmp .le 6, 3) := by decide +kernel
theorem dX10_feed_29 : decode cX10_feed 29 = .ok (.ldc 95, 2) := by decide +kernel
theorem dX10_feed_31 : decode cX10_feed 31 = .ok (.ireturn, 1) := by decide +kernel
theorem dX10_feed_32 : decode cX10_feed 32 = .ok (.iload_n 1, 1) := by decide +kernel
theorem dX10_feed_33 : decode cX10_feed 33 = .ok (.iconst 1, 1) := by decide +kernel
theorem dX10_feed_34 : decode cX10_feed 34 = .ok (.isub, 1) := by decide +kernel
theorem dX10_feed_35 : decode cX10_feed 35 = .ok (.istore 4, 2) := by decide +kernel
theorem dX10_feed_37 : decode cX10_feed 37 = .ok (.iload 4, 2) := by decide +kernel
theorem dX10_feed_39 : decode cX10_feed 39 = .ok (.ifCond .lt 25, 3) := by decide +kernel
theorem dX10_feed_42 : decode cX10_feed 42 = .ok (.aload_n 0, 1) := by decide +kernel
theorem dX10_feed_43 : decode cX10_feed 43 = .ok (.getfield 10, 3) := by decide +kernel
theorem dX10_feed_46 : decode cX10_feed 46 = .ok (.lload_n 2, 1) := by decide +kernel
theorem dX10_feed_47 : decode cX10_feed 47 = .ok (.bipush 8, 2) := by decide +kernel
theorem dX10_feed_49 : decode cX10_feed 49 = .ok (.iload 4, 2) := by decide +kernel
theorem dX10_feed_51 : decode cX10_feed 51 = .ok (.imul, 1) := by decide +kernel
theorem dX10_feed_52 : decode cX10_feed 52 = .ok (.lshr, 1) := by decide +kernel
theorem dX10_feed_53 : decode cX10_feed 53 = .ok (.l2i, 1) := by decide +kernel
theorem dX10_feed_54 : decode cX10_feed 54 = .ok (.i2b, 1) := by decide +kernel
theorem dX10_feed_55 : decode cX10_feed 55 = .ok (.invokevirtual 96, 3) := by decide +kernel
theorem dX10_feed_58 : decode cX10_feed 58 = .ok (.iinc 4 (-1), 3) := by decide +kernel
theorem dX10_feed_61 : decode cX10_feed 61 = .ok (.goto (-24), 3) := by decide +kernel
theorem dX10_feed_64 : decode cX10_feed 64 = .ok (.aload_n 0, 1) := by decide +kernel
theorem dX10_feed_65 : decode cX10_feed 65 = .ok (.getfield 10, 3) := by decide +kernel
theorem dX10_feed_68 : decode cX10_feed 68 = .ok (.getfield 92, 3) := by decide +kernel
theorem dX10_feed_71 : decode cX10_feed 71 = .ok (.ireturn, 1) := by decide +kernel
theorem dX10_court_0 : decode cX10_court 0 = .ok (.aload_n 0, 1) := by decide +kernel
theorem dX10_court_1 : decode cX10_court 1 = .ok (.getfield 21, 3) := by decide +kernel
theorem dX10_court_4 : decode cX10_court 4 = .ok (.invokevirtual 100, 3) := by decide +kernel
theorem dX10_court_7 : decode cX10_court 7 = .ok (.aload_n 0, 1) := by decide +kernel
theorem dX10_court_8 : decode cX10_court 8 = .ok (.getfield 76, 3) := by decide +kernel
theorem dX10_court_11 : decode cX10_court 11 = .ok (.aload_n 0, 1) := by decide +kernel
theorem dX10_court_12 : decode cX10_court 12 = .ok (.getfield 21, 3) := by decide +kernel
theorem dX10_court_15 : decode cX10_court 15 = .ok (.invokevirtual 103, 3) := by decide +kernel
theorem dX10_court_18 : decode cX10_court 18 = .ok (.aload_n 0, 1) := by decide +kernel
theorem dX10_court_19 : decode cX10_court 19 = .ok (.getfield 10, 3) := by decide +kernel
theorem dX10_court_22 : decode cX10_court 22 = .ok (.iconst 0, 1) := by decide +kernel
theorem dX10_court_23 : decode cX10_court 23 = .ok (.putfield 92, 3) := by decide +kernel
theorem dX10_court_26 : decode cX10_court 26 = .ok (.aload_n 0, 1) := by decide +kernel
theorem dX10_court_27 : decode cX10_court 27 = .ok (.aload_n 0, 1) := by decide +kernel
theorem dX10_court_28 : decode cX10_court 28 = .ok (.getfield 21, 3) := by decide +kernel
theorem dX10_court_31 : decode cX10_court 31 = .ok (.getfield 107, 3) := by decide +kernel
theorem dX10_court_34 : decode cX10_court 34 = .ok (.putfield 87, 3) := by decide +kernel
theorem dX10_court_37 : decode cX10_court 37 = .ok (.aload_n 0, 1) := by decide +kernel
theorem dX10_court_38 : decode cX10_court 38 = .ok (.getfield 21, 3) := by decide +kernel
theorem dX10_court_41 : decode cX10_court 41 = .ok (.getfield 108, 3) := by decide +kernel
theorem dX10_court_44 : decode cX10_court 44 = .ok (.ifCond .eq 14, 3) := by decide +kernel
theorem dX10_court_47 : decode cX10_court 47 = .ok (.bipush (-10), 2) := by decide +kernel
theorem dX10_court_49 : decode cX10_court 49 = .ok (.aload_n 0, 1) := by decide +kernel
theorem dX10_court_50 : decode cX10_court 50 = .ok (.getfield 21, 3) := by decide +kernel
theorem dX10_court_53 : decode cX10_court 53 = .ok (.getfield 108, 3) := by decide +kernel
theorem dX10_court_56 : decode cX10_court 56 = .ok (.isub, 1) := by decide +kernel
theorem dX10_court_57 : decode cX10_court 57 = .ok (.ireturn, 1) := by decide +kernel
theorem dX10_court_58 : decode cX10_court 58 = .ok (.aload_n 0, 1) := by decide +kernel
theorem dX10_court_59 : decode cX10_court 59 = .ok (.getfield 28, 3) := by decide +kernel
theorem dX10_court_62 : decode cX10_court 62 = .ok (.getfield 111, 3) := by decide +kernel
theorem dX10_court_65 : decode cX10_court 65 = .ok (.astore_n 1, 1) := by decide +kernel
theorem dX10_court_66 : decode cX10_court 66 = .ok (.aload_n 0, 1) := by decide +kernel
theorem dX10_court_67 : decode cX10_court 67 = .ok (.getfield 28, 3) := by decide +kernel
theorem dX10_court_70 : decode cX10_court 70 = .ok (.aload_n 0, 1) := by decide +kernel
theorem dX10_court_71 : decode cX10_court 71 = .ok (.getfield 76, 3) := by decide +kernel
theorem dX10_court_74 : decode cX10_court 74 = .ok (.putfield 111, 3) := by decide +kernel
theorem dX10_court_77 : decode cX10_court 77 = .ok (.aload_n 0, 1) := by decide +kernel
theorem dX10_court_78 : decode cX10_court 78 = .ok (.aload_n 1, 1) := by decide +kernel
theorem dX10_court_79 : decode cX10_court 79 = .ok (.putfield 76, 3) := by decide +kernel
theorem dX10_court_82 : decode cX10_court 82 = .ok (.aload_n 0, 1) := by decide +kernel
theorem dX10_court_83 : decode cX10_court 83 = .ok (.getfield 28, 3) := by decide +kernel
theorem dX10_court_86 : decode cX10_court 86 = .ok (.getfield 114, 3) := by decide +kernel
theorem dX10_court_89 : decode cX10_court 89 = .ok (.invokevirtual 118, 3) := by decide +kernel
theorem dX10_court_92 : decode cX10_court 92 = .ok (.aload_n 0, 1) := by decide +kernel
theorem dX10_court_93 : decode cX10_court 93 = .ok (.getfield 58, 3) := by decide +kernel
theorem dX10_court_96 : decode cX10_court 96 = .ok (.invokevirtual 121, 3) := by decide +kernel
theorem dX10_court_99 : decode cX10_court 99 = .ok (.iconst 0, 1) := by decide +kernel
theorem dX10_court_100 : decode cX10_court 100 = .ok (.istore_n 2, 1) := by decide +kernel
theorem dX10_court_101 : decode cX10_court 101 = .ok (.iload_n 2, 1) := by decide +kernel
theorem dX10_court_102 : decode cX10_court 102 = .ok (.iconst 2, 1) := by decide +kernel
theorem dX10_court_103 : decode cX10_court 103 = .ok (.if_icmp .ge 16, 3) := by decide +kernel
theorem dX10_court_106 : decode cX10_court 106 = .ok (.aload_n 0, 1) := by decide +kernel
theorem dX10_court_107 : decode cX10_court 107 = .ok (.getfield 69, 3) := by decide +kernel
theorem dX10_court_110 : decode cX10_court 110 = .ok (.iload_n 2, 1) := by decide +kernel
theorem dX10_court_111 : decode cX10_court 111 = .ok (.iconst 0, 1) := by decide +kernel
theorem dX10_court_112 : decode cX10_court 112 = .ok (.bastore, 1) := by decide +kernel
theorem dX10_court_113 : decode cX10_court 113 = .ok (.iinc 2 1, 3) := by decide +kernel
theorem dX10_court_116 : decode cX10_court 116 = .ok (.goto (-15), 3) := by decide +kernel
theorem dX10_court_119 : decode cX10_court 119 = .ok (.aload_n 0, 1) := by decide +kernel
theorem dX10_court_120 : decode cX10_court 120 = .ok (.getfield 28, 3) := by decide +kernel
theorem dX10_court_123 : decode cX10_court 123 = .ok (.getfield 111, 3) := by decide +kernel
theorem dX10_court_126 : decode cX10_court 126 = .ok (.getfield 124, 3) := by decide +kernel
theorem dX10_court_129 : decode cX10_court 129 = .ok (.ireturn, 1) := by decide +kernel
theorem dX10_laws_0 : decode cX10_laws 0 = .ok (.aload_n 0, 1) := by decide +kernel
theorem dX10_laws_1 : decode cX10_laws 1 = .ok (.getfield 10, 3) := by decide +kernel
theorem dX10_laws_4 : decode cX10_laws 4 = .ok (.getfield 92, 3) := by decide +kernel
theorem dX10_laws_7 : decode cX10_laws 7 = .ok (.sipush 200, 3) := by decide +kernel
theorem dX10_laws_10 : decode cX10_laws 10 = .ok (.if_icmp .le 6, 3) := by decide +kernel
theorem dX10_laws_13 : decode cX10_laws 13 = .ok (.ldc 127, 2) := by decide +kernel
theorem dX10_laws_15 : decode cX10_laws 15 = .ok (.ireturn, 1) := by decide +kernel
theorem dX10_laws_16 : decode cX10_laws 16 = .ok (.aload_n 0, 1) := by decide +kernel
theorem dX10_laws_17 : decode cX10_laws 17 = .ok (.getfield 21, 3) := by decide +kernel
theorem dX10_laws_20 : decode cX10_laws 20 = .ok (.invokevirtual 100, 3) := by decide +kernel
theorem dX10_laws_23 : decode cX10_laws 23 = .ok (.aload_n 0, 1) := by decide +kernel
theorem dX10_laws_24 : decode cX10_laws 24 = .ok (.getfield 83, 3) := by decide +kernel
theorem dX10_laws_27 : decode cX10_laws 27 = .ok (.aload_n 0, 1) := by decide +kernel
theorem dX10_laws_28 : decode cX10_laws 28 = .ok (.getfield 21, 3) := by decide +kernel
theorem dX10_laws_31 : decode cX10_laws 31 = .ok (.invokevirtual 128, 3) := by decide +kernel
theorem dX10_laws_34 : decode cX10_laws 34 = .ok (.aload_n 0, 1) := by decide +kernel
theorem dX10_laws_35 : decode cX10_laws 35 = .ok (.getfield 10, 3) := by decide +kernel
theorem dX10_laws_38 : decode cX10_laws 38 = .ok (.iconst 0, 1) := by decide +kernel
theorem dX10_laws_39 : decode cX10_laws 39 = .ok (.putfield 92, 3) := by decide +kernel
theorem dX10_laws_42 : decode cX10_laws 42 = .ok (.aload_n 0, 1) := by decide +kernel
theorem dX10_laws_43 : decode cX10_laws 43 = .ok (.aload_n 0, 1) := by decide +kernel
theorem dX10_laws_44 : decode cX10_laws 44 = .ok (.getfield 21, 3) := by decide +kernel
theorem dX10_laws_47 : decode cX10_laws 47 = .ok (.getfield 107, 3) := by decide +kernel
theorem dX10_laws_50 : decode cX10_laws 50 = .ok (.putfield 87, 3) := by decide +kernel
theorem dX10_laws_53 : decode cX10_laws 53 = .ok (.aload_n 0, 1) := by decide +kernel
theorem dX10_laws_54 : decode cX10_laws 54 = .ok (.getfield 21, 3) := by decide +kernel
theorem dX10_laws_57 : decode cX10_laws 57 = .ok (.getfield 108, 3) := by decide +kernel
theorem dX10_laws_60 : decode cX10_laws 60 = .ok (.ifCond .eq 14, 3) := by decide +kernel
theorem dX10_laws_63 : decode cX10_laws 63 = .ok (.bipush (-10), 2) := by decide +kernel
theorem dX10_laws_65 : decode cX10_laws 65 = .ok (.aload_n 0, 1) := by decide +kernel
theorem dX10_laws_66 : decode cX10_laws 66 = .ok (.getfield 21, 3) := by decide +kernel
theorem dX10_laws_69 : decode cX10_laws 69 = .ok (.getfield 108, 3) := by decide +kernel
theorem dX10_laws_72 : decode cX10_laws 72 = .ok (.isub, 1) := by decide +kernel
theorem dX10_laws_73 : decode cX10_laws 73 = .ok (.ireturn, 1) := by decide +kernel
theorem dX10_laws_74 : decode cX10_laws 74 = .ok (.aload_n 0, 1) := by decide +kernel
theorem dX10_laws_75 : decode cX10_laws 75 = .ok (.getfield 28, 3) := by decide +kernel
theorem dX10_laws_78 : decode cX10_laws 78 = .ok (.getfield 129, 3) := by decide +kernel
theorem dX10_laws_81 : decode cX10_laws 81 = .ok (.astore_n 1, 1) := by decide +kernel
theorem dX10_laws_82 : decode cX10_laws 82 = .ok (.aload_n 0, 1) := by decide +kernel
theorem dX10_laws_83 : decode cX10_laws 83 = .ok (.getfield 28, 3) := by decide +kernel
theorem dX10_laws_86 : decode cX10_laws 86 = .ok (.aload_n 0, 1) := by decide +kernel
theorem dX10_laws_87 : decode cX10_laws 87 = .ok (.getfield 83, 3) := by decide +kernel
theorem dX10_laws_90 : decode cX10_laws 90 = .ok (.putfield 129, 3) := by decide +kernel
theorem dX10_laws_93 : decode cX10_laws 93 = .ok (.aload_n 0, 1) := by decide +kernel
theorem dX10_laws_94 : decode cX10_laws 94 = .ok (.aload_n 1, 1) := by decide +kernel
theorem dX10_laws_95 : decode cX10_laws 95 = .ok (.putfield 83, 3) := by decide +kernel
theorem dX10_laws_98 : decode cX10_laws 98 = .ok (.aload_n 0, 1) := by decide +kernel
theorem dX10_laws_99 : decode cX10_laws 99 = .ok (.getfield 28, 3) := by decide +kernel
theorem dX10_laws_102 : decode cX10_laws 102 = .ok (.getfield 129, 3) := by decide +kernel
theorem dX10_laws_105 : decode cX10_laws 105 = .ok (.getfield 132, 3) := by decide +kernel
theorem dX10_laws_108 : decode cX10_laws 108 = .ok (.ireturn, 1) := by decide +kernel
theorem dX10_fault_0 : decode cX10_fault 0 = .ok (.aload_n 0, 1) := by decide +kernel
theorem dX10_fault_1 : decode cX10_fault 1 = .ok (.getfield 87, 3) := by decide +kernel
theorem dX10_fault_4 : decode cX10_fault 4 = .ok (.ireturn, 1) := by decide +kernel
theorem dX10_told_0 : decode cX10_told 0 = .ok (.aload_n 0, 1) := by decide +kernel
theorem dX10_told_1 : decode cX10_told 1 = .ok (.getfield 28, 3) := by decide +kernel
theorem dX10_told_4 : decode cX10_told 4 = .ok (.getfield 114, 3) := by decide +kernel
theorem dX10_told_7 : decode cX10_told 7 = .ok (.getfield 135, 3) := by decide +kernel
theorem dX10_told_10 : decode cX10_told 10 = .ok (.istore_n 2, 1) := by decide +kernel
theorem dX10_told_11 : decode cX10_told 11 = .ok (.iload_n 1, 1) := by decide +kernel
theorem dX10_told_12 : decode cX10_told 12 = .ok (.tableswitch 142 0 8 #[52, 63, 74, 85, 87, 95, 106, 118, 130], 52) := by decide +kernel
theorem dX10_told_64 : decode cX10_told 64 = .ok (.aload_n 0, 1) := by decide +kernel
theorem dX10_told_65 : decode cX10_told 65 = .ok (.getfield 28, 3) := by decide +kernel
theorem dX10_told_68 : decode cX10_told 68 = .ok (.getfield 111, 3) := by decide +kernel
theorem dX10_told_71 : decode cX10_told 71 = .ok (.getfield 124, 3) := by decide +kernel
theorem dX10_told_74 : decode cX10_told 74 = .ok (.ireturn, 1) := by decide +kernel
theorem dX10_told_75 : decode cX10_told 75 = .ok (.aload_n 0, 1) := by decide +kernel
theorem dX10_told_76 : decode cX10_told 76 = .ok (.getfield 28, 3) := by decide +kernel
theorem dX10_told_79 : decode cX10_told 79 = .ok (.getfield 111, 3) := by decide +kernel
theorem dX10_told_82 : decode cX10_told 82 = .ok (.getfield 138, 3) := by decide +kernel
theorem dX10_told_85 : decode cX10_told 85 = .ok (.ireturn, 1) := by decide +kernel
theorem dX10_told_86 : decode cX10_told 86 = .ok (.aload_n 0, 1) := by decide +kernel
theorem dX10_told_87 : decode cX10_told 87 = .ok (.getfield 28, 3) := by decide +kernel
theorem dX10_told_90 : decode cX10_told 90 = .ok (.getfield 129, 3) := by decide +kernel
theorem dX10_told_93 : decode cX10_told 93 = .ok (.getfield 132, 3) := by decide +kernel
theorem dX10_told_96 : decode cX10_told 96 = .ok (.ireturn, 1) := by decide +kernel
theorem dX10_told_97 : decode cX10_told 97 = .ok (.iload_n 2, 1) := by decide +kernel
theorem dX10_told_98 : decode cX10_told 98 = .ok (.ireturn, 1) := by decide +kernel
theorem dX10_told_99 : decode cX10_told 99 = .ok (.aload_n 0, 1) := by decide +kernel
theorem dX10_told_100 : decode cX10_told 100 = .ok (.getfield 10, 3) := by decide +kernel
theorem dX10_told_103 : decode cX10_told 103 = .ok (.getfield 92, 3) := by decide +kernel
theorem dX10_told_106 : decode cX10_told 106 = .ok (.ireturn, 1) := by decide +kernel
theorem dX10_told_107 : decode cX10_told 107 = .ok (.aload_n 0, 1) := by decide +kernel
theorem dX10_told_108 : decode cX10_told 108 = .ok (.getfield 28, 3) := by decide +kernel
theorem dX10_told_111 : decode cX10_told 111 = .ok (.getfield 114, 3) := by decide +kernel
theorem dX10_told_114 : decode cX10_told 114 = .ok (.getfield 141, 3) := by decide +kernel
theorem dX10_told_117 : decode cX10_told 117 = .ok (.ireturn, 1) := by decide +kernel
theorem dX10_told_118 : decode cX10_told 118 = .ok (.aload_n 0, 1) := by decide +kernel
theorem dX10_told_119 : decode cX10_told 119 = .ok (.getfield 28, 3) := by decide +kernel
theorem dX10_told_122 : decode cX10_told 122 = .ok (.getfield 129, 3) := by decide +kernel
theorem dX10_told_125 : decode cX10_told 125 = .ok (.iload_n 2, 1) := by decide +kernel
theorem dX10_told_126 : decode cX10_told 126 = .ok (.invokevirtual 144, 3) := by decide +kernel
theorem dX10_told_129 : decode cX10_told 129 = .ok (.ireturn, 1) := by decide +kernel
theorem dX10_told_130 : decode cX10_told 130 = .ok (.aload_n 0, 1) := by decide +kernel
theorem dX10_told_131 : decode cX10_told 131 = .ok (.getfield 28, 3) := by decide +kernel
theorem dX10_told_134 : decode cX10_told 134 = .ok (.getfield 129, 3) := by decide +kernel
theorem dX10_told_137 : decode cX10_told 137 = .ok (.iload_n 2, 1) := by decide +kernel
theorem dX10_told_138 : decode cX10_told 138 = .ok (.invokevirtual 148, 3) := by decide +kernel
theorem dX10_told_141 : decode cX10_told 141 = .ok (.ireturn, 1) := by decide +kernel
theorem dX10_told_142 : decode cX10_told 142 = .ok (.aload_n 0, 1) := by decide +kernel
theorem dX10_told_143 : decode cX10_told 143 = .ok (.getfield 28, 3) := by decide +kernel
theorem dX10_told_146 : decode cX10_told 146 = .ok (.getfield 129, 3) := by decide +kernel
theorem dX10_told_149 : decode cX10_told 149 = .ok (.iload_n 2, 1) := by decide +kernel
theorem dX10_told_150 : decode cX10_told 150 = .ok (.invokevirtual 151, 3) := by decide +kernel
theorem dX10_told_153 : decode cX10_told 153 = .ok (.ireturn, 1) := by decide +kernel
theorem dX10_told_154 : decode cX10_told 154 = .ok (.ldc 91, 2) := by decide +kernel
theorem dX10_told_156 : decode cX10_told 156 = .ok (.ireturn, 1) := by decide +kernel
theorem dX10_suit_0 : decode cX10_suit 0 = .ok (.aload_n 0, 1) := by decide +kernel
theorem dX10_suit_1 : decode cX10_suit 1 = .ok (.getfield 28, 3) := by decide +kernel
theorem dX10_suit_4 : decode cX10_suit 4 = .ok (.getfield 111, 3) := by decide +kernel
theorem dX10_suit_7 : decode cX10_suit 7 = .ok (.iload_n 1, 1) := by decide +kernel
theorem dX10_suit_8 : decode cX10_suit 8 = .ok (.invokevirtual 154, 3) := by decide +kernel
theorem dX10_suit_11 : decode cX10_suit 11 = .ok (.ifCond .ne 6, 3) := by decide +kernel
theorem dX10_suit_14 : decode cX10_suit 14 = .ok (.ldc 158, 2) := by decide +kernel
theorem dX10_suit_16 : decode cX10_suit 16 = .ok (.ireturn, 1) := by decide +kernel
theorem dX10_suit_17 : decode cX10_suit 17 = .ok (.iload_n 2, 1) := by decide +kernel
theorem dX10_suit_18 : decode cX10_suit 18 = .ok (.tableswitch 115 0 5 #[38, 51, 64, 77, 90, 103], 38) := by decide +kernel
theorem dX10_suit_56 : decode cX10_suit 56 = .ok (.aload_n 0, 1) := by decide +kernel
theorem dX10_suit_57 : decode cX10_suit 57 = .ok (.getfield 28, 3) := by decide +kernel
theorem dX10_suit_60 : decode cX10_suit 60 = .ok (.getfield 111, 3) := by decide +kernel
theorem dX10_suit_63 : decode cX10_suit 63 = .ok (.getfield 159, 3) := by decide +kernel
theorem dX10_suit_66 : decode cX10_suit 66 = .ok (.iload_n 1, 1) := by decide +kernel
theorem dX10_suit_67 : decode cX10_suit 67 = .ok (.iaload, 1) := by decide +kernel
theorem dX10_suit_68 : decode cX10_suit 68 = .ok (.ireturn, 1) := by decide +kernel
theorem dX10_suit_69 : decode cX10_suit 69 = .ok (.aload_n 0, 1) := by decide +kernel
theorem dX10_suit_70 : decode cX10_suit 70 = .ok (.getfield 28, 3) := by decide +kernel
theorem dX10_suit_73 : decode cX10_suit 73 = .ok (.getfield 111, 3) := by decide +kernel
theorem dX10_suit_76 : decode cX10_suit 76 = .ok (.getfield 163, 3) := by decide +kernel
theorem dX10_suit_79 : decode cX10_suit 79 = .ok (.iload_n 1, 1) := by decide +kernel
theorem dX10_suit_80 : decode cX10_suit 80 = .ok (.iaload, 1) := by decide +kernel
theorem dX10_suit_81 : decode cX10_suit 81 = .ok (.ireturn, 1) := by decide +kernel
theorem dX10_suit_82 : decode cX10_suit 82 = .ok (.aload_n 0, 1) := by decide +kernel
theorem dX10_suit_83 : decode cX10_suit 83 = .ok (.getfield 28, 3) := by decide +kernel
theorem dX10_suit_86 : decode cX10_suit 86 = .ok (.getfield 111, 3) := by decide +kernel
theorem dX10_suit_89 : decode cX10_suit 89 = .ok (.getfield 166, 3) := by decide +kernel
theorem dX10_suit_92 : decode cX10_suit 92 = .ok (.iload_n 1, 1) := by decide +kernel
theorem dX10_suit_93 : decode cX10_suit 93 = .ok (.iaload, 1) := by decide +kernel
theorem dX10_suit_94 : decode cX10_suit 94 = .ok (.ireturn, 1) := by decide +kernel
theorem dX10_suit_95 : decode cX10_suit 95 = .ok (.aload_n 0, 1) := by decide +kernel
theorem dX10_suit_96 : decode cX10_suit 96 = .ok (.getfield 28, 3) := by decide +kernel
theorem dX10_suit_99 : decode cX10_suit 99 = .ok (.getfield 114, 3) := by decide +kernel
theorem dX10_suit_102 : decode cX10_suit 102 = .ok (.getfield 169, 3) := by decide +kernel
theorem dX10_suit_105 : decode cX10_suit 105 = .ok (.iload_n 1, 1) := by decide +kernel
theorem dX10_suit_106 : decode cX10_suit 106 = .ok (.iaload, 1) := by decide +kernel
theorem dX10_suit_107 : decode cX10_suit 107 = .ok (.ireturn, 1) := by decide +kernel
theorem dX10_suit_108 : decode cX10_suit 108 = .ok (.aload_n 0, 1) := by decide +kernel
theorem dX10_suit_109 : decode cX10_suit 109 = .ok (.getfield 28, 3) := by decide +kernel
theorem dX10_suit_112 : decode cX10_suit 112 = .ok (.getfield 114, 3) := by decide +kernel
theorem dX10_suit_115 : decode cX10_suit 115 = .ok (.getfield 172, 3) := by decide +kernel
theorem dX10_suit_118 : decode cX10_suit 118 = .ok (.iload_n 1, 1) := by decide +kernel
theorem dX10_suit_119 : decode cX10_suit 119 = .ok (.iaload, 1) := by decide +kernel
theorem dX10_suit_120 : decode cX10_suit 120 = .ok (.ireturn, 1) := by decide +kernel
theorem dX10_suit_121 : decode cX10_suit 121 = .ok (.aload_n 0, 1) := by decide +kernel
theorem dX10_suit_122 : decode cX10_suit 122 = .ok (.getfield 28, 3) := by decide +kernel
theorem dX10_suit_125 : decode cX10_suit 125 = .ok (.getfield 111, 3) := by decide +kernel
theorem dX10_suit_128 : decode cX10_suit 128 = .ok (.iload_n 1, 1) := by decide +kernel
theorem dX10_suit_129 : decode cX10_suit 129 = .ok (.invokevirtual 175, 3) := by decide +kernel
theorem dX10_suit_132 : decode cX10_suit 132 = .ok (.ireturn, 1) := by decide +kernel
theorem dX10_suit_133 : decode cX10_suit 133 = .ok (.ldc 91, 2) := by decide +kernel
theorem dX10_suit_135 : decode cX10_suit 135 = .ok (.ireturn, 1) := by decide +kernel
theorem dX10_witness_0 : decode cX10_witness 0 = .ok (.aload_n 0, 1) := by decide +kernel
theorem dX10_witness_1 : decode cX10_witness 1 = .ok (.getfield 28, 3) := by decide +kernel
theorem dX10_witness_4 : decode cX10_witness 4 = .ok (.getfield 111, 3) := by decide +kernel
theorem dX10_witness_7 : decode cX10_witness 7 = .ok (.iload_n 1, 1) := by decide +kernel
theorem dX10_witness_8 : decode cX10_witness 8 = .ok (.invokevirtual 178, 3) := by decide +kernel
theorem dX10_witness_11 : decode cX10_witness 11 = .ok (.ifCond .ne 6, 3) := by decide +kernel
theorem dX10_witness_14 : decode cX10_witness 14 = .ok (.ldc 158, 2) := by decide +kernel
theorem dX10_witness_16 : decode cX10_witness 16 = .ok (.ireturn, 1) := by decide +kernel
theorem dX10_witness_17 : decode cX10_witness 17 = .ok (.iload_n 2, 1) := by decide +kernel
theorem dX10_witness_18 : decode cX10_witness 18 = .ok (.tableswitch 155 0 7 #[46, 59, 72, 85, 104, 117, 130, 143], 46) := by decide +kernel
theorem dX10_witness_64 : decode cX10_witness 64 = .ok (.aload_n 0, 1) := by decide +kernel
theorem dX10_witness_65 : decode cX10_witness 65 = .ok (.getfield 28, 3) := by decide +kernel
theorem dX10_witness_68 : decode cX10_witness 68 = .ok (.getfield 111, 3) := by decide +kernel
theorem dX10_witness_71 : decode cX10_witness 71 = .ok (.getfield 181, 3) := by decide +kernel
theorem dX10_witness_74 : decode cX10_witness 74 = .ok (.iload_n 1, 1) := by decide +kernel
theorem dX10_witness_75 : decode cX10_witness 75 = .ok (.iaload, 1) := by decide +kernel
theorem dX10_witness_76 : decode cX10_witness 76 = .ok (.ireturn, 1) := by decide +kernel
theorem dX10_witness_77 : decode cX10_witness 77 = .ok (.aload_n 0, 1) := by decide +kernel
theorem dX10_witness_78 : decode cX10_witness 78 = .ok (.getfield 28, 3) := by decide +kernel
theorem dX10_witness_81 : decode cX10_witness 81 = .ok (.getfield 111, 3) := by decide +kernel
theorem dX10_witness_84 : decode cX10_witness 84 = .ok (.getfield 184, 3) := by decide +kernel
theorem dX10_witness_87 : decode cX10_witness 87 = .ok (.iload_n 1, 1) := by decide +kernel
theorem dX10_witness_88 : decode cX10_witness 88 = .ok (.iaload, 1) := by decide +kernel
theorem dX10_witness_89 : decode cX10_witness 89 = .ok (.ireturn, 1) := by decide +kernel
theorem dX10_witness_90 : decode cX10_witness 90 = .ok (.aload_n 0, 1) := by decide +kernel
theorem dX10_witness_91 : decode cX10_witness 91 = .ok (.getfield 28, 3) := by decide +kernel
theorem dX10_witness_94 : decode cX10_witness 94 = .ok (.getfield 111, 3) := by decide +kernel
theorem dX10_witness_97 : decode cX10_witness 97 = .ok (.getfield 187, 3) := by decide +kernel
theorem dX10_witness_100 : decode cX10_witness 100 = .ok (.iload_n 1, 1) := by decide +kernel
theorem dX10_witness_101 : decode cX10_witness 101 = .ok (.iaload, 1) := by decide +kernel
theorem dX10_witness_102 : decode cX10_witness 102 = .ok (.ireturn, 1) := by decide +kernel
theorem dX10_witness_103 : decode cX10_witness 103 = .ok (.aload_n 0, 1) := by decide +kernel
theorem dX10_witness_104 : decode cX10_witness 104 = .ok (.getfield 28, 3) := by decide +kernel
theorem dX10_witness_107 : decode cX10_witness 107 = .ok (.iload_n 1, 1) := by decide +kernel
theorem dX10_witness_108 : decode cX10_witness 108 = .ok (.aload_n 0, 1) := by decide +kernel
theorem dX10_witness_109 : decode cX10_witness 109 = .ok (.getfield 28, 3) := by decide +kernel
theorem dX10_witness_112 : decode cX10_witness 112 = .ok (.getfield 114, 3) := by decide +kernel
theorem dX10_witness_115 : decode cX10_witness 115 = .ok (.getfield 135, 3) := by decide +kernel
theorem dX10_witness_118 : decode cX10_witness 118 = .ok (.invokevirtual 190, 3) := by decide +kernel
theorem dX10_witness_121 : decode cX10_witness 121 = .ok (.ireturn, 1) := by decide +kernel
theorem dX10_witness_122 : decode cX10_witness 122 = .ok (.aload_n 0, 1) := by decide +kernel
theorem dX10_witness_123 : decode cX10_witness 123 = .ok (.getfield 28, 3) := by decide +kernel
theorem dX10_witness_126 : decode cX10_witness 126 = .ok (.getfield 114, 3) := by decide +kernel
theorem dX10_witness_129 : decode cX10_witness 129 = .ok (.getfield 194, 3) := by decide +kernel
theorem dX10_witness_132 : decode cX10_witness 132 = .ok (.iload_n 1, 1) := by decide +kernel
theorem dX10_witness_133 : decode cX10_witness 133 = .ok (.iaload, 1) := by decide +kernel
theorem dX10_witness_134 : decode cX10_witness 134 = .ok (.ireturn, 1) := by decide +kernel
theorem dX10_witness_135 : decode cX10_witness 135 = .ok (.aload_n 0, 1) := by decide +kernel
theorem dX10_witness_136 : decode cX10_witness 136 = .ok (.getfield 28, 3) := by decide +kernel
theorem dX10_witness_139 : decode cX10_witness 139 = .ok (.getfield 114, 3) := by decide +kernel
theorem dX10_witness_142 : decode cX10_witness 142 = .ok (.getfield 197, 3) := by decide +kernel
theorem dX10_witness_145 : decode cX10_witness 145 = .ok (.iload_n 1, 1) := by decide +kernel
theorem dX10_witness_146 : decode cX10_witness 146 = .ok (.iaload, 1) := by decide +kernel
theorem dX10_witness_147 : decode cX10_witness 147 = .ok (.ireturn, 1) := by decide +kernel
theorem dX10_witness_148 : decode cX10_witness 148 = .ok (.aload_n 0, 1) := by decide +kernel
theorem dX10_witness_149 : decode cX10_witness 149 = .ok (.getfield 28, 3) := by decide +kernel
theorem dX10_witness_152 : decode cX10_witness 152 = .ok (.getfield 114, 3) := by decide +kernel
theorem dX10_witness_155 : decode cX10_witness 155 = .ok (.getfield 200, 3) := by decide +kernel
theorem dX10_witness_158 : decode cX10_witness 158 = .ok (.iload_n 1, 1) := by decide +kernel
theorem dX10_witness_159 : decode cX10_witness 159 = .ok (.iaload, 1) := by decide +kernel
theorem dX10_witness_160 : decode cX10_witness 160 = .ok (.ireturn, 1) := by decide +kernel
theorem dX10_witness_161 : decode cX10_witness 161 = .ok (.aload_n 0, 1) := by decide +kernel
theorem dX10_witness_162 : decode cX10_witness 162 = .ok (.getfield 28, 3) := by decide +kernel
theorem dX10_witness_165 : decode cX10_witness 165 = .ok (.iload_n 1, 1) := by decide +kernel
theorem dX10_witness_166 : decode cX10_witness 166 = .ok (.invokevirtual 203, 3) := by decide +kernel
theorem dX10_witness_169 : decode cX10_witness 169 = .ok (.invokestatic 206, 3) := by decide +kernel
theorem dX10_witness_172 : decode cX10_witness 172 = .ok (.ireturn, 1) := by decide +kernel
theorem dX10_witness_173 : decode cX10_witness 173 = .ok (.ldc 91, 2) := by decide +kernel
theorem dX10_witness_175 : decode cX10_witness 175 = .ok (.ireturn, 1) := by decide +kernel
theorem dX10_weight_0 : decode cX10_weight 0 = .ok (.aload_n 0, 1) := by decide +kernel
theorem dX10_weight_1 : decode cX10_weight 1 = .ok (.getfield 28, 3) := by decide +kernel
theorem dX10_weight_4 : decode cX10_weight 4 = .ok (.getfield 111, 3) := by decide +kernel
theorem dX10_weight_7 : decode cX10_weight 7 = .ok (.iload_n 1, 1) := by decide +kernel
theorem dX10_weight_8 : decode cX10_weight 8 = .ok (.invokevirtual 154, 3) := by decide +kernel
theorem dX10_weight_11 : decode cX10_weight 11 = .ok (.ifCond .ne 6, 3) := by decide +kernel
theorem dX10_weight_14 : decode cX10_weight 14 = .ok (.ldc 158, 2) := by decide +kernel
theorem dX10_weight_16 : decode cX10_weight 16 = .ok (.ireturn, 1) := by decide +kernel
theorem dX10_weight_17 : decode cX10_weight 17 = .ok (.iload_n 2, 1) := by decide +kernel
theorem dX10_weight_18 : decode cX10_weight 18 = .ok (.iconst (-1), 1) := by decide +kernel
theorem dX10_weight_19 : decode cX10_weight 19 = .ok (.if_icmp .lt 10, 3) := by decide +kernel
theorem dX10_weight_22 : decode cX10_weight 22 = .ok (.iload_n 2, 1) := by decide +kernel
theorem dX10_weight_23 : decode cX10_weight 23 = .ok (.sipush 400, 3) := by decide +kernel
theorem dX10_weight_26 : decode cX10_weight 26 = .ok (.if_icmp .lt 6, 3) := by decide +kernel
theorem dX10_weight_29 : decode cX10_weight 29 = .ok (.ldc 91, 2) := by decide +kernel
theorem dX10_weight_31 : decode cX10_weight 31 = .ok (.ireturn, 1) := by decide +kernel
theorem dX10_weight_32 : decode cX10_weight 32 = .ok (.iload_n 2, 1) := by decide +kernel
theorem dX10_weight_33 : decode cX10_weight 33 = .ok (.iconst (-1), 1) := by decide +kernel
theorem dX10_weight_34 : decode cX10_weight 34 = .ok (.if_icmp .ne 18, 3) := by decide +kernel
theorem dX10_weight_37 : decode cX10_weight 37 = .ok (.aload_n 0, 1) := by decide +kernel
theorem dX10_weight_38 : decode cX10_weight 38 = .ok (.getfield 28, 3) := by decide +kernel
theorem dX10_weight_41 : decode cX10_weight 41 = .ok (.getfield 114, 3) := by decide +kernel
theorem dX10_weight_44 : decode cX10_weight 44 = .ok (.getfield 210, 3) := by decide +kernel
theorem dX10_weight_47 : decode cX10_weight 47 = .ok (.iload_n 1, 1) := by decide +kernel
theorem dX10_weight_48 : decode cX10_weight 48 = .ok (.iaload, 1) := by decide +kernel
theorem dX10_weight_49 : decode cX10_weight 49 = .ok (.goto 15, 3) := by decide +kernel
theorem dX10_weight_52 : decode cX10_weight 52 = .ok (.aload_n 0, 1) := by decide +kernel
theorem dX10_weight_53 : decode cX10_weight 53 = .ok (.getfield 28, 3) := by decide +kernel
theorem dX10_weight_56 : decode cX10_weight 56 = .ok (.getfield 114, 3) := by decide +kernel
theorem dX10_weight_59 : decode cX10_weight 59 = .ok (.iload_n 1, 1) := by decide +kernel
theorem dX10_weight_60 : decode cX10_weight 60 = .ok (.iload_n 2, 1) := by decide +kernel
theorem dX10_weight_61 : decode cX10_weight 61 = .ok (.invokevirtual 213, 3) := by decide +kernel
theorem dX10_weight_64 : decode cX10_weight 64 = .ok (.ireturn, 1) := by decide +kernel
theorem dX10_say_0 : decode cX10_say 0 = .ok (.aload_n 0, 1) := by decide +kernel
theorem dX10_say_1 : decode cX10_say 1 = .ok (.getfield 28, 3) := by decide +kernel
theorem dX10_say_4 : decode cX10_say 4 = .ok (.getfield 111, 3) := by decide +kernel
theorem dX10_say_7 : decode cX10_say 7 = .ok (.iload_n 1, 1) := by decide +kernel
theorem dX10_say_8 : decode cX10_say 8 = .ok (.invokevirtual 178, 3) := by decide +kernel
theorem dX10_say_11 : decode cX10_say 11 = .ok (.ifCond .ne 6, 3) := by decide +kernel
theorem dX10_say_14 : decode cX10_say 14 = .ok (.ldc 158, 2) := by decide +kernel
theorem dX10_say_16 : decode cX10_say 16 = .ok (.ireturn, 1) := by decide +kernel
theorem dX10_say_17 : decode cX10_say 17 = .ok (.aload_n 0, 1) := by decide +kernel
theorem dX10_say_18 : decode cX10_say 18 = .ok (.getfield 28, 3) := by decide +kernel
theorem dX10_say_21 : decode cX10_say 21 = .ok (.iload_n 1, 1) := by decide +kernel
theorem dX10_say_22 : decode cX10_say 22 = .ok (.invokevirtual 203, 3) := by decide +kernel
theorem dX10_say_25 : decode cX10_say 25 = .ok (.ifCond .ne 6, 3) := by decide +kernel
theorem dX10_say_28 : decode cX10_say 28 = .ok (.ldc 127, 2) := by decide +kernel
theorem dX10_say_30 : decode cX10_say 30 = .ok (.ireturn, 1) := by decide +kernel
theorem dX10_say_31 : decode cX10_say 31 = .ok (.aload_n 0, 1) := by decide +kernel
theorem dX10_say_32 : decode cX10_say 32 = .ok (.getfield 28, 3) := by decide +kernel
theorem dX10_say_35 : decode cX10_say 35 = .ok (.iload_n 1, 1) := by decide +kernel
theorem dX10_say_36 : decode cX10_say 36 = .ok (.invokevirtual 216, 3) := by decide +kernel
theorem dX10_say_39 : decode cX10_say 39 = .ok (.ireturn, 1) := by decide +kernel
theorem dX10_strike_0 : decode cX10_strike 0 = .ok (.aload_n 0, 1) := by decide +kernel
theorem dX10_strike_1 : decode cX10_strike 1 = .ok (.getfield 28, 3) := by decide +kernel
theorem dX10_strike_4 : decode cX10_strike 4 = .ok (.getfield 111, 3) := by decide +kernel
theorem dX10_strike_7 : decode cX10_strike 7 = .ok (.iload_n 1, 1) := by decide +kernel
theorem dX10_strike_8 : decode cX10_strike 8 = .ok (.invokevirtual 178, 3) := by decide +kernel
theorem dX10_strike_11 : decode cX10_strike 11 = .ok (.ifCond .ne 6, 3) := by decide +kernel
theorem dX10_strike_14 : decode cX10_strike 14 = .ok (.ldc 158, 2) := by decide +kernel
theorem dX10_strike_16 : decode cX10_strike 16 = .ok (.ireturn, 1) := by decide +kernel
theorem dX10_strike_17 : decode cX10_strike 17 = .ok (.aload_n 0, 1) := by decide +kernel
theorem dX10_strike_18 : decode cX10_strike 18 = .ok (.getfield 28, 3) := by decide +kernel
theorem dX10_strike_21 : decode cX10_strike 21 = .ok (.getfield 114, 3) := by decide +kernel
theorem dX10_strike_24 : decode cX10_strike 24 = .ok (.getfield 200, 3) := by decide +kernel
theorem dX10_strike_27 : decode cX10_strike 27 = .ok (.iload_n 1, 1) := by decide +kernel
theorem dX10_strike_28 : decode cX10_strike 28 = .ok (.iaload, 1) := by decide +kernel
theorem dX10_strike_29 : decode cX10_strike 29 = .ok (.istore_n 3, 1) := by decide +kernel
theorem dX10_strike_30 : decode cX10_strike 30 = .ok (.aload_n 0, 1) := by decide +kernel
theorem dX10_strike_31 : decode cX10_strike 31 = .ok (.getfield 28, 3) := by decide +kernel
theorem dX10_strike_34 : decode cX10_strike 34 = .ok (.getfield 114, 3) := by decide +kernel
theorem dX10_strike_37 : decode cX10_strike 37 = .ok (.getfield 200, 3) := by decide +kernel
theorem dX10_strike_40 : decode cX10_strike 40 = .ok (.iload_n 1, 1) := by decide +kernel
theorem dX10_strike_41 : decode cX10_strike 41 = .ok (.iload_n 2, 1) := by decide +kernel
theorem dX10_strike_42 : decode cX10_strike 42 = .ok (.invokestatic 206, 3) := by decide +kernel
theorem dX10_strike_45 : decode cX10_strike 45 = .ok (.iastore, 1) := by decide +kernel
theorem dX10_strike_46 : decode cX10_strike 46 = .ok (.iload_n 3, 1) := by decide +kernel
theorem dX10_strike_47 : decode cX10_strike 47 = .ok (.ireturn, 1) := by decide +kernel
theorem dX10_dusk_0 : decode cX10_dusk 0 = .ok (.iload_n 1, 1) := by decide +kernel
theorem dX10_dusk_1 : decode cX10_dusk 1 = .ok (.iconst 1, 1) := by decide +kernel
theorem dX10_dusk_2 : decode cX10_dusk 2 = .ok (.if_icmp .lt 10, 3) := by decide +kernel
theorem dX10_dusk_5 : decode cX10_dusk 5 = .ok (.iload_n 1, 1) := by decide +kernel
theorem dX10_dusk_6 : decode cX10_dusk 6 = .ok (.sipush 400, 3) := by decide +kernel
theorem dX10_dusk_9 : decode cX10_dusk 9 = .ok (.if_icmp .le 6, 3) := by decide +kernel
theorem dX10_dusk_12 : decode cX10_dusk 12 = .ok (.ldc 91, 2) := by decide +kernel
theorem dX10_dusk_14 : decode cX10_dusk 14 = .ok (.ireturn, 1) := by decide +kernel
theorem dX10_dusk_15 : decode cX10_dusk 15 = .ok (.iconst 0, 1) := by decide +kernel
theorem dX10_dusk_16 : decode cX10_dusk 16 = .ok (.istore_n 2, 1) := by decide +kernel
theorem dX10_dusk_17 : decode cX10_dusk 17 = .ok (.iload_n 2, 1) := by decide +kernel
theorem dX10_dusk_18 : decode cX10_dusk 18 = .ok (.iload_n 1, 1) := by decide +kernel
theorem dX10_dusk_19 : decode cX10_dusk 19 = .ok (.if_icmp .ge 32, 3) := by decide +kernel
theorem dX10_dusk_22 : decode cX10_dusk 22 = .ok (.aload_n 0, 1) := by decide +kernel
theorem dX10_dusk_23 : decode cX10_dusk 23 = .ok (.getfield 28, 3) := by decide +kernel
theorem dX10_dusk_26 : decode cX10_dusk 26 = .ok (.getfield 114, 3) := by decide +kernel
theorem dX10_dusk_29 : decode cX10_dusk 29 = .ok (.getfield 135, 3) := by decide +kernel
theorem dX10_dusk_32 : decode cX10_dusk 32 = .ok (.sipush 399, 3) := by decide +kernel
theorem dX10_dusk_35 : decode cX10_dusk 35 = .ok (.if_icmp .ge 16, 3) := by decide +kernel
theorem dX10_dusk_38 : decode cX10_dusk 38 = .ok (.aload_n 0, 1) := by decide +kernel
theorem dX10_dusk_39 : decode cX10_dusk 39 = .ok (.getfield 28, 3) := by decide +kernel
theorem dX10_dusk_42 : decode cX10_dusk 42 = .ok (.invokevirtual 219, 3) := by decide +kernel
theorem dX10_dusk_45 : decode cX10_dusk 45 = .ok (.iinc 2 1, 3) := by decide +kernel
theorem dX10_dusk_48 : decode cX10_dusk 48 = .ok (.goto (-31), 3) := by decide +kernel
theorem dX10_dusk_51 : decode cX10_dusk 51 = .ok (.aload_n 0, 1) := by decide +kernel
theorem dX10_dusk_52 : decode cX10_dusk 52 = .ok (.getfield 28, 3) := by decide +kernel
theorem dX10_dusk_55 : decode cX10_dusk 55 = .ok (.getfield 114, 3) := by decide +kernel
theorem dX10_dusk_58 : decode cX10_dusk 58 = .ok (.getfield 135, 3) := by decide +kernel
theorem dX10_dusk_61 : decode cX10_dusk 61 = .ok (.ireturn, 1) := by decide +kernel
theorem dX10_drift_0 : decode cX10_drift 0 = .ok (.iload_n 1, 1) := by decide +kernel
theorem dX10_drift_1 : decode cX10_drift 1 = .ok (.iconst 1, 1) := by decide +kernel
theorem dX10_drift_2 : decode cX10_drift 2 = .ok (.if_icmp .lt 19, 3) := by decide +kernel
theorem dX10_drift_5 : decode cX10_drift 5 = .ok (.iload_n 1, 1) := by decide +kernel
theorem dX10_drift_6 : decode cX10_drift 6 = .ok (.bipush 60, 2) := by decide +kernel
theorem dX10_drift_8 : decode cX10_drift 8 = .ok (.if_icmp .gt 13, 3) := by decide +kernel
theorem dX10_drift_11 : decode cX10_drift 11 = .ok (.iload_n 2, 1) := by decide +kernel
theorem dX10_drift_12 : decode cX10_drift 12 = .ok (.ifCond .lt 9, 3) := by decide +kernel
theorem dX10_drift_15 : decode cX10_drift 15 = .ok (.iload_n 2, 1) := by decide +kernel
theorem dX10_drift_16 : decode cX10_drift 16 = .ok (.bipush 100, 2) := by decide +kernel
theorem dX10_drift_18 : decode cX10_drift 18 = .ok (.if_icmp .le 6, 3) := by decide +kernel
theorem dX10_drift_21 : decode cX10_drift 21 = .ok (.ldc 91, 2) := by decide +kernel
theorem dX10_drift_23 : decode cX10_drift 23 = .ok (.ireturn, 1) := by decide +kernel
theorem dX10_drift_24 : decode cX10_drift 24 = .ok (.iconst 0, 1) := by decide +kernel
theorem dX10_drift_25 : decode cX10_drift 25 = .ok (.istore_n 3, 1) := by decide +kernel
theorem dX10_drift_26 : decode cX10_drift 26 = .ok (.iconst 0, 1) := by decide +kernel
theorem dX10_drift_27 : decode cX10_drift 27 = .ok (.istore 4, 2) := by decide +kernel
theorem dX10_drift_29 : decode cX10_drift 29 = .ok (.iload 4, 2) := by decide +kernel
theorem dX10_drift_31 : decode cX10_drift 31 = .ok (.iload_n 1, 1) := by decide +kernel
theorem dX10_drift_32 : decode cX10_drift 32 = .ok (.if_icmp .ge 36, 3) := by decide +kernel
theorem dX10_drift_35 : decode cX10_drift 35 = .ok (.aload_n 0, 1) := by decide +kernel
theorem dX10_drift_36 : decode cX10_drift 36 = .ok (.getfield 28, 3) := by decide +kernel
theorem dX10_drift_39 : decode cX10_drift 39 = .ok (.getfield 114, 3) := by decide +kernel
theorem dX10_drift_42 : decode cX10_drift 42 = .ok (.getfield 135, 3) := by decide +kernel
theorem dX10_drift_45 : decode cX10_drift 45 = .ok (.sipush 399, 3) := by decide +kernel
theorem dX10_drift_48 : decode cX10_drift 48 = .ok (.if_icmp .ge 20, 3) := by decide +kernel
theorem dX10_drift_51 : decode cX10_drift 51 = .ok (.iload_n 3, 1) := by decide +kernel
theorem dX10_drift_52 : decode cX10_drift 52 = .ok (.aload_n 0, 1) := by decide +kernel
theorem dX10_drift_53 : decode cX10_drift 53 = .ok (.getfield 28, 3) := by decide +kernel
theorem dX10_drift_56 : decode cX10_drift 56 = .ok (.iload_n 2, 1) := by decide +kernel
theorem dX10_drift_57 : decode cX10_drift 57 = .ok (.invokevirtual 222, 3) := by decide +kernel
theorem dX10_drift_60 : decode cX10_drift 60 = .ok (.iadd, 1) := by decide +kernel
theorem dX10_drift_61 : decode cX10_drift 61 = .ok (.istore_n 3, 1) := by decide +kernel
theorem dX10_drift_62 : decode cX10_drift 62 = .ok (.iinc 4 1, 3) := by decide +kernel
theorem dX10_drift_65 : decode cX10_drift 65 = .ok (.goto (-36), 3) := by decide +kernel
theorem dX10_drift_68 : decode cX10_drift 68 = .ok (.iload_n 3, 1) := by decide +kernel
theorem dX10_drift_69 : decode cX10_drift 69 = .ok (.ireturn, 1) := by decide +kernel
theorem dX10_begin_0 : decode cX10_begin 0 = .ok (.aload_n 0, 1) := by decide +kernel
theorem dX10_begin_1 : decode cX10_begin 1 = .ok (.getfield 28, 3) := by decide +kernel
theorem dX10_begin_4 : decode cX10_begin 4 = .ok (.getfield 114, 3) := by decide +kernel
theorem dX10_begin_7 : decode cX10_begin 7 = .ok (.getfield 135, 3) := by decide +kernel
theorem dX10_begin_10 : decode cX10_begin 10 = .ok (.istore_n 1, 1) := by decide +kernel
theorem dX10_begin_11 : decode cX10_begin 11 = .ok (.aload_n 0, 1) := by decide +kernel
theorem dX10_begin_12 : decode cX10_begin 12 = .ok (.getfield 28, 3) := by decide +kernel
theorem dX10_begin_15 : decode cX10_begin 15 = .ok (.getfield 114, 3) := by decide +kernel
theorem dX10_begin_18 : decode cX10_begin 18 = .ok (.invokevirtual 118, 3) := by decide +kernel
theorem dX10_begin_21 : decode cX10_begin 21 = .ok (.iload_n 1, 1) := by decide +kernel
theorem dX10_begin_22 : decode cX10_begin 22 = .ok (.ireturn, 1) := by decide +kernel
theorem dX10_most_0 : decode cX10_most 0 = .ok (.aload_n 0, 1) := by decide +kernel
theorem dX10_most_1 : decode cX10_most 1 = .ok (.getfield 28, 3) := by decide +kernel
theorem dX10_most_4 : decode cX10_most 4 = .ok (.getfield 111, 3) := by decide +kernel
theorem dX10_most_7 : decode cX10_most 7 = .ok (.iload_n 1, 1) := by decide +kernel
theorem dX10_most_8 : decode cX10_most 8 = .ok (.invokevirtual 154, 3) := by decide +kernel
theorem dX10_most_11 : decode cX10_most 11 = .ok (.ifCond .ne 6, 3) := by decide +kernel
theorem dX10_most_14 : decode cX10_most 14 = .ok (.ldc 158, 2) := by decide +kernel
theorem dX10_most_16 : decode cX10_most 16 = .ok (.ireturn, 1) := by decide +kernel
theorem dX10_most_17 : decode cX10_most 17 = .ok (.iload_n 2, 1) := by decide +kernel
theorem dX10_most_18 : decode cX10_most 18 = .ok (.ifCond .lt 9, 3) := by decide +kernel
theorem dX10_most_21 : decode cX10_most 21 = .ok (.iload_n 2, 1) := by decide +kernel
theorem dX10_most_22 : decode cX10_most 22 = .ok (.bipush 31, 2) := by decide +kernel
theorem dX10_most_24 : decode cX10_most 24 = .ok (.if_icmp .lt 6, 3) := by decide +kernel
theorem dX10_most_27 : decode cX10_most 27 = .ok (.ldc 91, 2) := by decide +kernel
theorem dX10_most_29 : decode cX10_most 29 = .ok (.ireturn, 1) := by decide +kernel
theorem dX10_most_30 : decode cX10_most 30 = .ok (.aload_n 0, 1) := by decide +kernel
theorem dX10_most_31 : decode cX10_most 31 = .ok (.getfield 28, 3) := by decide +kernel
theorem dX10_most_34 : decode cX10_most 34 = .ok (.iload_n 1, 1) := by decide +kernel
theorem dX10_most_35 : decode cX10_most 35 = .ok (.invokevirtual 225, 3) := by decide +kernel
theorem dX10_most_38 : decode cX10_most 38 = .ok (.ifCond .eq 21, 3) := by decide +kernel
theorem dX10_most_41 : decode cX10_most 41 = .ok (.aload_n 0, 1) := by decide +kernel
theorem dX10_most_42 : decode cX10_most 42 = .ok (.getfield 28, 3) := by decide +kernel
theorem dX10_most_45 : decode cX10_most 45 = .ok (.getfield 114, 3) := by decide +kernel
theorem dX10_most_48 : decode cX10_most 48 = .ok (.getfield 135, 3) := by decide +kernel
theorem dX10_most_51 : decode cX10_most 51 = .ok (.iload_n 2, 1) := by decide +kernel
theorem dX10_most_52 : decode cX10_most 52 = .ok (.iadd, 1) := by decide +kernel
theorem dX10_most_53 : decode cX10_most 53 = .ok (.sipush 399, 3) := by decide +kernel
theorem dX10_most_56 : decode cX10_most 56 = .ok (.if_icmp .le 6, 3) := by decide +kernel
theorem dX10_most_59 : decode cX10_most 59 = .ok (.ldc 127, 2) := by decide +kernel
theorem dX10_most_61 : decode cX10_most 61 = .ok (.ireturn, 1) := by decide +kernel
theorem dX10_most_62 : decode cX10_most 62 = .ok (.aload_n 0, 1) := by decide +kernel
theorem dX10_most_63 : decode cX10_most 63 = .ok (.getfield 37, 3) := by decide +kernel
theorem dX10_most_66 : decode cX10_most 66 = .ok (.iload_n 1, 1) := by decide +kernel
theorem dX10_most_67 : decode cX10_most 67 = .ok (.iload_n 2, 1) := by decide +kernel
theorem dX10_most_68 : decode cX10_most 68 = .ok (.invokevirtual 228, 3) := by decide +kernel
theorem dX10_most_71 : decode cX10_most 71 = .ok (.ireturn, 1) := by decide +kernel
theorem dX10_soonest_0 : decode cX10_soonest 0 = .ok (.aload_n 0, 1) := by decide +kernel
theorem dX10_soonest_1 : decode cX10_soonest 1 = .ok (.getfield 28, 3) := by decide +kernel
theorem dX10_soonest_4 : decode cX10_soonest 4 = .ok (.getfield 111, 3) := by decide +kernel
theorem dX10_soonest_7 : decode cX10_soonest 7 = .ok (.iload_n 1, 1) := by decide +kernel
theorem dX10_soonest_8 : decode cX10_soonest 8 = .ok (.invokevirtual 154, 3) := by decide +kernel
theorem dX10_soonest_11 : decode cX10_soonest 11 = .ok (.ifCond .ne 6, 3) := by decide +kernel
theorem dX10_soonest_14 : decode cX10_soonest 14 = .ok (.ldc 158, 2) := by decide +kernel
theorem dX10_soonest_16 : decode cX10_soonest 16 = .ok (.ireturn, 1) := by decide +kernel
theorem dX10_soonest_17 : decode cX10_soonest 17 = .ok (.aload_n 0, 1) := by decide +kernel
theorem dX10_soonest_18 : decode cX10_soonest 18 = .ok (.getfield 37, 3) := by decide +kernel
theorem dX10_soonest_21 : decode cX10_soonest 21 = .ok (.iload_n 1, 1) := by decide +kernel
theorem dX10_soonest_22 : decode cX10_soonest 22 = .ok (.invokevirtual 231, 3) := by decide +kernel
theorem dX10_soonest_25 : decode cX10_soonest 25 = .ok (.ireturn, 1) := by decide +kernel
theorem dX10_plan_0 : decode cX10_plan 0 = .ok (.aload_n 0, 1) := by decide +kernel
theorem dX10_plan_1 : decode cX10_plan 1 = .ok (.getfield 28, 3) := by decide +kernel
theorem dX10_plan_4 : decode cX10_plan 4 = .ok (.getfield 111, 3) := by decide +kernel
theorem dX10_plan_7 : decode cX10_plan 7 = .ok (.iload_n 1, 1) := by decide +kernel
theorem dX10_plan_8 : decode cX10_plan 8 = .ok (.invokevirtual 178, 3) := by decide +kernel
theorem dX10_plan_11 : decode cX10_plan 11 = .ok (.ifCond .ne 6, 3) := by decide +kernel
theorem dX10_plan_14 : decode cX10_plan 14 = .ok (.ldc 158, 2) := by decide +kernel
theorem dX10_plan_16 : decode cX10_plan 16 = .ok (.ireturn, 1) := by decide +kernel
theorem dX10_plan_17 : decode cX10_plan 17 = .ok (.aload_n 0, 1) := by decide +kernel
theorem dX10_plan_18 : decode cX10_plan 18 = .ok (.getfield 37, 3) := by decide +kernel
theorem dX10_plan_21 : decode cX10_plan 21 = .ok (.aload_n 0, 1) := by decide +kernel
theorem dX10_plan_22 : decode cX10_plan 22 = .ok (.getfield 28, 3) := by decide +kernel
theorem dX10_plan_25 : decode cX10_plan 25 = .ok (.getfield 111, 3) := by decide +kernel
theorem dX10_plan_28 : decode cX10_plan 28 = .ok (.getfield 181, 3) := by decide +kernel
theorem dX10_plan_31 : decode cX10_plan 31 = .ok (.iload_n 1, 1) := by decide +kernel
theorem dX10_plan_32 : decode cX10_plan 32 = .ok (.iaload, 1) := by decide +kernel
theorem dX10_plan_33 : decode cX10_plan 33 = .ok (.invokevirtual 231, 3) := by decide +kernel
theorem dX10_plan_36 : decode cX10_plan 36 = .ok (.istore_n 2, 1) := by decide +kernel
theorem dX10_plan_37 : decode cX10_plan 37 = .ok (.iload_n 2, 1) := by decide +kernel
theorem dX10_plan_38 : decode cX10_plan 38 = .ok (.iconst (-1), 1) := by decide +kernel
theorem dX10_plan_39 : decode cX10_plan 39 = .ok (.if_icmp .ne 7, 3) := by decide +kernel
theorem dX10_plan_42 : decode cX10_plan 42 = .ok (.iconst (-1), 1) := by decide +kernel
theorem dX10_plan_43 : decode cX10_plan 43 = .ok (.goto 12, 3) := by decide +kernel
theorem dX10_plan_46 : decode cX10_plan 46 = .ok (.aload_n 0, 1) := by decide +kernel
theorem dX10_plan_47 : decode cX10_plan 47 = .ok (.getfield 37, 3) := by decide +kernel
theorem dX10_plan_50 : decode cX10_plan 50 = .ok (.iload_n 1, 1) := by decide +kernel
theorem dX10_plan_51 : decode cX10_plan 51 = .ok (.iload_n 2, 1) := by decide +kernel
theorem dX10_plan_52 : decode cX10_plan 52 = .ok (.invokevirtual 234, 3) := by decide +kernel
theorem dX10_plan_55 : decode cX10_plan 55 = .ok (.ireturn, 1) := by decide +kernel
theorem dX10_cut_0 : decode cX10_cut 0 = .ok (.aload_n 0, 1) := by decide +kernel
theorem dX10_cut_1 : decode cX10_cut 1 = .ok (.getfield 28, 3) := by decide +kernel
theorem dX10_cut_4 : decode cX10_cut 4 = .ok (.getfield 111, 3) := by decide +kernel
theorem dX10_cut_7 : decode cX10_cut 7 = .ok (.iload_n 1, 1) := by decide +kernel
theorem dX10_cut_8 : decode cX10_cut 8 = .ok (.invokevirtual 154, 3) := by decide +kernel
theorem dX10_cut_11 : decode cX10_cut 11 = .ok (.ifCond .ne 6, 3) := by decide +kernel
theorem dX10_cut_14 : decode cX10_cut 14 = .ok (.ldc 158, 2) := by decide +kernel
theorem dX10_cut_16 : decode cX10_cut 16 = .ok (.ireturn, 1) := by decide +kernel
theorem dX10_cut_17 : decode cX10_cut 17 = .ok (.aload_n 0, 1) := by decide +kernel
theorem dX10_cut_18 : decode cX10_cut 18 = .ok (.getfield 28, 3) := by decide +kernel
theorem dX10_cut_21 : decode cX10_cut 21 = .ok (.iload_n 1, 1) := by decide +kernel
theorem dX10_cut_22 : decode cX10_cut 22 = .ok (.invokevirtual 225, 3) := by decide +kernel
theorem dX10_cut_25 : decode cX10_cut 25 = .ok (.ifCond .ne 6, 3) := by decide +kernel
theorem dX10_cut_28 : decode cX10_cut 28 = .ok (.ldc 127, 2) := by decide +kernel
theorem dX10_cut_30 : decode cX10_cut 30 = .ok (.ireturn, 1) := by decide +kernel
theorem dX10_cut_31 : decode cX10_cut 31 = .ok (.aload_n 0, 1) := by decide +kernel
theorem dX10_cut_32 : decode cX10_cut 32 = .ok (.getfield 37, 3) := by decide +kernel
theorem dX10_cut_35 : decode cX10_cut 35 = .ok (.iload_n 1, 1) := by decide +kernel
theorem dX10_cut_36 : decode cX10_cut 36 = .ok (.invokevirtual 237, 3) := by decide +kernel
theorem dX10_cut_39 : decode cX10_cut 39 = .ok (.ireturn, 1) := by decide +kernel
theorem dX10_turns_0 : decode cX10_turns 0 = .ok (.aload_n 0, 1) := by decide +kernel
theorem dX10_turns_1 : decode cX10_turns 1 = .ok (.getfield 28, 3) := by decide +kernel
theorem dX10_turns_4 : decode cX10_turns 4 = .ok (.getfield 111, 3) := by decide +kernel
theorem dX10_turns_7 : decode cX10_turns 7 = .ok (.iload_n 1, 1) := by decide +kernel
theorem dX10_turns_8 : decode cX10_turns 8 = .ok (.invokevirtual 154, 3) := by decide +kernel
theorem dX10_turns_11 : decode cX10_turns 11 = .ok (.ifCond .ne 6, 3) := by decide +kernel
theorem dX10_turns_14 : decode cX10_turns 14 = .ok (.ldc 158, 2) := by decide +kernel
theorem dX10_turns_16 : decode cX10_turns 16 = .ok (.ireturn, 1) := by decide +kernel
theorem dX10_turns_17 : decode cX10_turns 17 = .ok (.iload_n 2, 1) := by decide +kernel
theorem dX10_turns_18 : decode cX10_turns 18 = .ok (.ifCond .lt 8, 3) := by decide +kernel
theorem dX10_turns_21 : decode cX10_turns 21 = .ok (.iload_n 2, 1) := by decide +kernel
theorem dX10_turns_22 : decode cX10_turns 22 = .ok (.iconst 1, 1) := by decide +kernel
theorem dX10_turns_23 : decode cX10_turns 23 = .ok (.if_icmp .le 6, 3) := by decide +kernel
theorem dX10_turns_26 : decode cX10_turns 26 = .ok (.ldc 91, 2) := by decide +kernel
theorem dX10_turns_28 : decode cX10_turns 28 = .ok (.ireturn, 1) := by decide +kernel
theorem dX10_turns_29 : decode cX10_turns 29 = .ok (.aload_n 0, 1) := by decide +kernel
theorem dX10_turns_30 : decode cX10_turns 30 = .ok (.getfield 28, 3) := by decide +kernel
theorem dX10_turns_33 : decode cX10_turns 33 = .ok (.iload_n 1, 1) := by decide +kernel
theorem dX10_turns_34 : decode cX10_turns 34 = .ok (.invokevirtual 225, 3) := by decide +kernel
theorem dX10_turns_37 : decode cX10_turns 37 = .ok (.ifCond .ne 6, 3) := by decide +kernel
theorem dX10_turns_40 : decode cX10_turns 40 = .ok (.ldc 127, 2) := by decide +kernel
theorem dX10_turns_42 : decode cX10_turns 42 = .ok (.ireturn, 1) := by decide +kernel
theorem dX10_turns_43 : decode cX10_turns 43 = .ok (.aload_n 0, 1) := by decide +kernel
theorem dX10_turns_44 : decode cX10_turns 44 = .ok (.getfield 44, 3) := by decide +kernel
theorem dX10_turns_47 : decode cX10_turns 47 = .ok (.iload_n 1, 1) := by decide +kernel
theorem dX10_turns_48 : decode cX10_turns 48 = .ok (.invokevirtual 240, 3) := by decide +kernel
theorem dX10_turns_51 : decode cX10_turns 51 = .ok (.iload_n 2, 1) := by decide +kernel
theorem dX10_turns_52 : decode cX10_turns 52 = .ok (.ifCond .ne 16, 3) := by decide +kernel
theorem dX10_turns_55 : decode cX10_turns 55 = .ok (.aload_n 0, 1) := by decide +kernel
theorem dX10_turns_56 : decode cX10_turns 56 = .ok (.getfield 44, 3) := by decide +kernel
theorem dX10_turns_59 : decode cX10_turns 59 = .ok (.invokevirtual 244, 3) := by decide +kernel
theorem dX10_turns_62 : decode cX10_turns 62 = .ok (.invokestatic 206, 3) := by decide +kernel
theorem dX10_turns_65 : decode cX10_turns 65 = .ok (.goto 10, 3) := by decide +kernel
theorem dX10_turns_68 : decode cX10_turns 68 = .ok (.aload_n 0, 1) := by decide +kernel
theorem dX10_turns_69 : decode cX10_turns 69 = .ok (.getfield 44, 3) := by decide +kernel
theorem dX10_turns_72 : decode cX10_turns 72 = .ok (.invokevirtual 248, 3) := by decide +kernel
theorem dX10_turns_75 : decode cX10_turns 75 = .ok (.ireturn, 1) := by decide +kernel
theorem dX10_many_0 : decode cX10_many 0 = .ok (.iload_n 1, 1) := by decide +kernel
theorem dX10_many_1 : decode cX10_many 1 = .ok (.ifCond .lt 8, 3) := by decide +kernel
theorem dX10_many_4 : decode cX10_many 4 = .ok (.iload_n 1, 1) := by decide +kernel
theorem dX10_many_5 : decode cX10_many 5 = .ok (.iconst 1, 1) := by decide +kernel
theorem dX10_many_6 : decode cX10_many 6 = .ok (.if_icmp .le 6, 3) := by decide +kernel
theorem dX10_many_9 : decode cX10_many 9 = .ok (.ldc 91, 2) := by decide +kernel
theorem dX10_many_11 : decode cX10_many 11 = .ok (.ireturn, 1) := by decide +kernel
theorem dX10_many_12 : decode cX10_many 12 = .ok (.aload_n 0, 1) := by decide +kernel
theorem dX10_many_13 : decode cX10_many 13 = .ok (.getfield 51, 3) := by decide +kernel
theorem dX10_many_16 : decode cX10_many 16 = .ok (.invokevirtual 252, 3) := by decide +kernel
theorem dX10_many_19 : decode cX10_many 19 = .ok (.istore_n 2, 1) := by decide +kernel
theorem dX10_many_20 : decode cX10_many 20 = .ok (.iload_n 1, 1) := by decide +kernel
theorem dX10_many_21 : decode cX10_many 21 = .ok (.ifCond .ne 10, 3) := by decide +kernel
theorem dX10_many_24 : decode cX10_many 24 = .ok (.iload_n 2, 1) := by decide +kernel
theorem dX10_many_25 : decode cX10_many 25 = .ok (.invokestatic 255, 3) := by decide +kernel
theorem dX10_many_28 : decode cX10_many 28 = .ok (.goto 4, 3) := by decide +kernel
theorem dX10_many_31 : decode cX10_many 31 = .ok (.iload_n 2, 1) := by decide +kernel
theorem dX10_many_32 : decode cX10_many 32 = .ok (.ireturn, 1) := by decide +kernel
theorem dX10_write_0 : decode cX10_write 0 = .ok (.aload_n 0, 1) := by decide +kernel
theorem dX10_write_1 : decode cX10_write 1 = .ok (.getfield 28, 3) := by decide +kernel
theorem dX10_write_4 : decode cX10_write 4 = .ok (.getfield 111, 3) := by decide +kernel
theorem dX10_write_7 : decode cX10_write 7 = .ok (.iload_n 1, 1) := by decide +kernel
theorem dX10_write_8 : decode cX10_write 8 = .ok (.invokevirtual 154, 3) := by decide +kernel
theorem dX10_write_11 : decode cX10_write 11 = .ok (.ifCond .ne 6, 3) := by decide +kernel
theorem dX10_write_14 : decode cX10_write 14 = .ok (.ldc 158, 2) := by decide +kernel
theorem dX10_write_16 : decode cX10_write 16 = .ok (.ireturn, 1) := by decide +kernel
theorem dX10_write_17 : decode cX10_write 17 = .ok (.iload_n 2, 1) := by decide +kernel
theorem dX10_write_18 : decode cX10_write 18 = .ok (.ifCond .lt 10, 3) := by decide +kernel
theorem dX10_write_21 : decode cX10_write 21 = .ok (.iload_n 2, 1) := by decide +kernel
theorem dX10_write_22 : decode cX10_write 22 = .ok (.ldc_w 260, 3) := by decide +kernel
theorem dX10_write_25 : decode cX10_write 25 = .ok (.if_icmp .le 6, 3) := by decide +kernel
theorem dX10_write_28 : decode cX10_write 28 = .ok (.ldc 91, 2) := by decide +kernel
theorem dX10_write_30 : decode cX10_write 30 = .ok (.ireturn, 1) := by decide +kernel
theorem dX10_write_31 : decode cX10_write 31 = .ok (.aload_n 0, 1) := by decide +kernel
theorem dX10_write_32 : decode cX10_write 32 = .ok (.getfield 58, 3) := by decide +kernel
theorem dX10_write_35 : decode cX10_write 35 = .ok (.getfield 261, 3) := by decide +kernel
theorem dX10_write_38 : decode cX10_write 38 = .ok (.iload_n 1, 1) := by decide +kernel
theorem dX10_write_39 : decode cX10_write 39 = .ok (.iaload, 1) := by decide +kernel
theorem dX10_write_40 : decode cX10_write 40 = .ok (.bipush 60, 2) := by decide +kernel
theorem dX10_write_42 : decode cX10_write 42 = .ok (.if_icmp .lt 6, 3) := by decide +kernel
theorem dX10_write_45 : decode cX10_write 45 = .ok (.ldc 95, 2) := by decide +kernel
theorem dX10_write_47 : decode cX10_write 47 = .ok (.ireturn, 1) := by decide +kernel
theorem dX10_write_48 : decode cX10_write 48 = .ok (.aload_n 0, 1) := by decide +kernel
theorem dX10_write_49 : decode cX10_write 49 = .ok (.getfield 58, 3) := by decide +kernel
theorem dX10_write_52 : decode cX10_write 52 = .ok (.iload_n 1, 1) := by decide +kernel
theorem dX10_write_53 : decode cX10_write 53 = .ok (.iload_n 2, 1) := by decide +kernel
theorem dX10_write_54 : decode cX10_write 54 = .ok (.invokevirtual 264, 3) := by decide +kernel
theorem dX10_write_57 : decode cX10_write 57 = .ok (.ireturn, 1) := by decide +kernel
theorem dX10_tear_0 : decode cX10_tear 0 = .ok (.aload_n 0, 1) := by decide +kernel
theorem dX10_tear_1 : decode cX10_tear 1 = .ok (.getfield 28, 3) := by decide +kernel
theorem dX10_tear_4 : decode cX10_tear 4 = .ok (.getfield 111, 3) := by decide +kernel
theorem dX10_tear_7 : decode cX10_tear 7 = .ok (.iload_n 1, 1) := by decide +kernel
theorem dX10_tear_8 : decode cX10_tear 8 = .ok (.invokevirtual 154, 3) := by decide +kernel
theorem dX10_tear_11 : decode cX10_tear 11 = .ok (.ifCond .ne 6, 3) := by decide +kernel
theorem dX10_tear_14 : decode cX10_tear 14 = .ok (.ldc 158, 2) := by decide +kernel
theorem dX10_tear_16 : decode cX10_tear 16 = .ok (.ireturn, 1) := by decide +kernel
theorem dX10_tear_17 : decode cX10_tear 17 = .ok (.aload_n 0, 1) := by decide +kernel
theorem dX10_tear_18 : decode cX10_tear 18 = .ok (.getfield 58, 3) := by decide +kernel
theorem dX10_tear_21 : decode cX10_tear 21 = .ok (.getfield 261, 3) := by decide +kernel
theorem dX10_tear_24 : decode cX10_tear 24 = .ok (.iload_n 1, 1) := by decide +kernel
theorem dX10_tear_25 : decode cX10_tear 25 = .ok (.iaload, 1) := by decide +kernel
theorem dX10_tear_26 : decode cX10_tear 26 = .ok (.istore_n 2, 1) := by decide +kernel
theorem dX10_tear_27 : decode cX10_tear 27 = .ok (.aload_n 0, 1) := by decide +kernel
theorem dX10_tear_28 : decode cX10_tear 28 = .ok (.getfield 58, 3) := by decide +kernel
theorem dX10_tear_31 : decode cX10_tear 31 = .ok (.getfield 261, 3) := by decide +kernel
theorem dX10_tear_34 : decode cX10_tear 34 = .ok (.iload_n 1, 1) := by decide +kernel
theorem dX10_tear_35 : decode cX10_tear 35 = .ok (.iconst 0, 1) := by decide +kernel
theorem dX10_tear_36 : decode cX10_tear 36 = .ok (.iastore, 1) := by decide +kernel
theorem dX10_tear_37 : decode cX10_tear 37 = .ok (.iload_n 2, 1) := by decide +kernel
theorem dX10_tear_38 : decode cX10_tear 38 = .ok (.ireturn, 1) := by decide +kernel
theorem dX10_judge_0 : decode cX10_judge 0 = .ok (.aload_n 0, 1) := by decide +kernel
theorem dX10_judge_1 : decode cX10_judge 1 = .ok (.getfield 28, 3) := by decide +kernel
theorem dX10_judge_4 : decode cX10_judge 4 = .ok (.getfield 111, 3) := by decide +kernel
theorem dX10_judge_7 : decode cX10_judge 7 = .ok (.iload_n 1, 1) := by decide +kernel
theorem dX10_judge_8 : decode cX10_judge 8 = .ok (.invokevirtual 154, 3) := by decide +kernel
theorem dX10_judge_11 : decode cX10_judge 11 = .ok (.ifCond .ne 6, 3) := by decide +kernel
theorem dX10_judge_14 : decode cX10_judge 14 = .ok (.ldc 158, 2) := by decide +kernel
theorem dX10_judge_16 : decode cX10_judge 16 = .ok (.ireturn, 1) := by decide +kernel
theorem dX10_judge_17 : decode cX10_judge 17 = .ok (.aload_n 0, 1) := by decide +kernel
theorem dX10_judge_18 : decode cX10_judge 18 = .ok (.getfield 58, 3) := by decide +kernel
theorem dX10_judge_21 : decode cX10_judge 21 = .ok (.iload_n 1, 1) := by decide +kernel
theorem dX10_judge_22 : decode cX10_judge 22 = .ok (.aload_n 0, 1) := by decide +kernel
theorem dX10_judge_23 : decode cX10_judge 23 = .ok (.getfield 28, 3) := by decide +kernel
theorem dX10_judge_26 : decode cX10_judge 26 = .ok (.getfield 114, 3) := by decide +kernel
theorem dX10_judge_29 : decode cX10_judge 29 = .ok (.invokevirtual 266, 3) := by decide +kernel
theorem dX10_judge_32 : decode cX10_judge 32 = .ok (.ireturn, 1) := by decide +kernel
theorem dX10_evening_0 : decode cX10_evening 0 = .ok (.aload_n 0, 1) := by decide +kernel
theorem dX10_evening_1 : decode cX10_evening 1 = .ok (.getfield 28, 3) := by decide +kernel
theorem dX10_evening_4 : decode cX10_evening 4 = .ok (.getfield 111, 3) := by decide +kernel
theorem dX10_evening_7 : decode cX10_evening 7 = .ok (.iload_n 1, 1) := by decide +kernel
theorem dX10_evening_8 : decode cX10_evening 8 = .ok (.invokevirtual 154, 3) := by decide +kernel
theorem dX10_evening_11 : decode cX10_evening 11 = .ok (.ifCond .ne 6, 3) := by decide +kernel
theorem dX10_evening_14 : decode cX10_evening 14 = .ok (.ldc 158, 2) := by decide +kernel
theorem dX10_evening_16 : decode cX10_evening 16 = .ok (.ireturn, 1) := by decide +kernel
theorem dX10_evening_17 : decode cX10_evening 17 = .ok (.iload_n 2, 1) := by decide +kernel
theorem dX10_evening_18 : decode cX10_evening 18 = .ok (.ifCond .lt 10, 3) := by decide +kernel
theorem dX10_evening_21 : decode cX10_evening 21 = .ok (.iload_n 2, 1) := by decide +kernel
theorem dX10_evening_22 : decode cX10_evening 22 = .ok (.sipush 399, 3) := by decide +kernel
theorem dX10_evening_25 : decode cX10_evening 25 = .ok (.if_icmp .le 6, 3) := by decide +kernel
theorem dX10_evening_28 : decode cX10_evening 28 = .ok (.ldc 91, 2) := by decide +kernel
theorem dX10_evening_30 : decode cX10_evening 30 = .ok (.ireturn, 1) := by decide +kernel
theorem dX10_evening_31 : decode cX10_evening 31 = .ok (.iload_n 2, 1) := by decide +kernel
theorem dX10_evening_32 : decode cX10_evening 32 = .ok (.aload_n 0, 1) := by decide +kernel
theorem dX10_evening_33 : decode cX10_evening 33 = .ok (.getfield 28, 3) := by decide +kernel
theorem dX10_evening_36 : decode cX10_evening 36 = .ok (.getfield 114, 3) := by decide +kernel
theorem dX10_evening_39 : decode cX10_evening 39 = .ok (.getfield 135, 3) := by decide +kernel
theorem dX10_evening_42 : decode cX10_evening 42 = .ok (.if_icmp .ge 20, 3) := by decide +kernel
theorem dX10_evening_45 : decode cX10_evening 45 = .ok (.aload_n 0, 1) := by decide +kernel
theorem dX10_evening_46 : decode cX10_evening 46 = .ok (.getfield 28, 3) := by decide +kernel
theorem dX10_evening_49 : decode cX10_evening 49 = .ok (.getfield 114, 3) := by decide +kernel
theorem dX10_evening_52 : decode cX10_evening 52 = .ok (.getfield 270, 3) := by decide +kernel
theorem dX10_evening_55 : decode cX10_evening 55 = .ok (.iload_n 1, 1) := by decide +kernel
theorem dX10_evening_56 : decode cX10_evening 56 = .ok (.aaload, 1) := by decide +kernel
theorem dX10_evening_57 : decode cX10_evening 57 = .ok (.iload_n 2, 1) := by decide +kernel
theorem dX10_evening_58 : decode cX10_evening 58 = .ok (.iaload, 1) := by decide +kernel
theorem dX10_evening_59 : decode cX10_evening 59 = .ok (.goto 4, 3) := by decide +kernel
theorem dX10_evening_62 : decode cX10_evening 62 = .ok (.iconst (-1), 1) := by decide +kernel
theorem dX10_evening_63 : decode cX10_evening 63 = .ok (.ireturn, 1) := by decide +kernel
theorem dX10_seed_0 : decode cX10_seed 0 = .ok (.iload_n 1, 1) := by decide +kernel
theorem dX10_seed_1 : decode cX10_seed 1 = .ok (.ifCond .ge 6, 3) := by decide +kernel
theorem dX10_seed_4 : decode cX10_seed 4 = .ok (.ldc 91, 2) := by decide +kernel
theorem dX10_seed_6 : decode cX10_seed 6 = .ok (.ireturn, 1) := by decide +kernel
theorem dX10_seed_7 : decode cX10_seed 7 = .ok (.aload_n 0, 1) := by decide +kernel
theorem dX10_seed_8 : decode cX10_seed 8 = .ok (.getfield 28, 3) := by decide +kernel
theorem dX10_seed_11 : decode cX10_seed 11 = .ok (.getfield 114, 3) := by decide +kernel
theorem dX10_seed_14 : decode cX10_seed 14 = .ok (.getfield 274, 3) := by decide +kernel
theorem dX10_seed_17 : decode cX10_seed 17 = .ok (.istore_n 2, 1) := by decide +kernel
theorem dX10_seed_18 : decode cX10_seed 18 = .ok (.aload_n 0, 1) := by decide +kernel
theorem dX10_seed_19 : decode cX10_seed 19 = .ok (.getfield 28, 3) := by decide +kernel
theorem dX10_seed_22 : decode cX10_seed 22 = .ok (.getfield 114, 3) := by decide +kernel
theorem dX10_seed_25 : decode cX10_seed 25 = .ok (.iload_n 1, 1) := by decide +kernel
theorem dX10_seed_26 : decode cX10_seed 26 = .ok (.putfield 274, 3) := by decide +kernel
theorem dX10_seed_29 : decode cX10_seed 29 = .ok (.iload_n 2, 1) := by decide +kernel
theorem dX10_seed_30 : decode cX10_seed 30 = .ok (.ireturn, 1) := by decide +kernel
theorem dX10_keep_0 : decode cX10_keep 0 = .ok (.iload_n 1, 1) := by decide +kernel
theorem dX10_keep_1 : decode cX10_keep 1 = .ok (.ifCond .lt 8, 3) := by decide +kernel
theorem dX10_keep_4 : decode cX10_keep 4 = .ok (.iload_n 1, 1) := by decide +kernel
theorem dX10_keep_5 : decode cX10_keep 5 = .ok (.iconst 2, 1) := by decide +kernel
theorem dX10_keep_6 : decode cX10_keep 6 = .ok (.if_icmp .lt 6, 3) := by decide +kernel
theorem dX10_keep_9 : decode cX10_keep 9 = .ok (.ldc 158, 2) := by decide +kernel
theorem dX10_keep_11 : decode cX10_keep 11 = .ok (.ireturn, 1) := by decide +kernel
theorem dX10_keep_12 : decode cX10_keep 12 = .ok (.aload_n 0, 1) := by decide +kernel
theorem dX10_keep_13 : decode cX10_keep 13 = .ok (.getfield 64, 3) := by decide +kernel
theorem dX10_keep_16 : decode cX10_keep 16 = .ok (.iload_n 1, 1) := by decide +kernel
theorem dX10_keep_17 : decode cX10_keep 17 = .ok (.aaload, 1) := by decide +kernel
theorem dX10_keep_18 : decode cX10_keep 18 = .ok (.aload_n 0, 1) := by decide +kernel
theorem dX10_keep_19 : decode cX10_keep 19 = .ok (.getfield 28, 3) := by decide +kernel
theorem dX10_keep_22 : decode cX10_keep 22 = .ok (.getfield 114, 3) := by decide +kernel
theorem dX10_keep_25 : decode cX10_keep 25 = .ok (.invokevirtual 277, 3) := by decide +kernel
theorem dX10_keep_28 : decode cX10_keep 28 = .ok (.aload_n 0, 1) := by decide +kernel
theorem dX10_keep_29 : decode cX10_keep 29 = .ok (.getfield 69, 3) := by decide +kernel
theorem dX10_keep_32 : decode cX10_keep 32 = .ok (.iload_n 1, 1) := by decide +kernel
theorem dX10_keep_33 : decode cX10_keep 33 = .ok (.iconst 1, 1) := by decide +kernel
theorem dX10_keep_34 : decode cX10_keep 34 = .ok (.bastore, 1) := by decide +kernel
theorem dX10_keep_35 : decode cX10_keep 35 = .ok (.iconst 1, 1) := by decide +kernel
theorem dX10_keep_36 : decode cX10_keep 36 = .ok (.ireturn, 1) := by decide +kernel
theorem dX10_goBack_0 : decode cX10_goBack 0 = .ok (.iload_n 1, 1) := by decide +kernel
theorem dX10_goBack_1 : decode cX10_goBack 1 = .ok (.ifCond .lt 8, 3) := by decide +kernel
theorem dX10_goBack_4 : decode cX10_goBack 4 = .ok (.iload_n 1, 1) := by decide +kernel
theorem dX10_goBack_5 : decode cX10_goBack 5 = .ok (.iconst 2, 1) := by decide +kernel
theorem dX10_goBack_6 : decode cX10_goBack 6 = .ok (.if_icmp .lt 6, 3) := by decide +kernel
theorem dX10_goBack_9 : decode cX10_goBack 9 = .ok (.ldc 158, 2) := by decide +kernel
theorem dX10_goBack_11 : decode cX10_goBack 11 = .ok (.ireturn, 1) := by decide +kernel
theorem dX10_goBack_12 : decode cX10_goBack 12 = .ok (.aload_n 0, 1) := by decide +kernel
theorem dX10_goBack_13 : decode cX10_goBack 13 = .ok (.getfield 69, 3) := by decide +kernel
theorem dX10_goBack_16 : decode cX10_goBack 16 = .ok (.iload_n 1, 1) := by decide +kernel
theorem dX10_goBack_17 : decode cX10_goBack 17 = .ok (.baload, 1) := by decide +kernel
theorem dX10_goBack_18 : decode cX10_goBack 18 = .ok (.ifCond .ne 6, 3) := by decide +kernel
theorem dX10_goBack_21 : decode cX10_goBack 21 = .ok (.ldc 127, 2) := by decide +kernel
theorem dX10_goBack_23 : decode cX10_goBack 23 = .ok (.ireturn, 1) := by decide +kernel
theorem dX10_goBack_24 : decode cX10_goBack 24 = .ok (.aload_n 0, 1) := by decide +kernel
theorem dX10_goBack_25 : decode cX10_goBack 25 = .ok (.getfield 28, 3) := by decide +kernel
theorem dX10_goBack_28 : decode cX10_goBack 28 = .ok (.getfield 114, 3) := by decide +kernel
theorem dX10_goBack_31 : decode cX10_goBack 31 = .ok (.aload_n 0, 1) := by decide +kernel
theorem dX10_goBack_32 : decode cX10_goBack 32 = .ok (.getfield 64, 3) := by decide +kernel
theorem dX10_goBack_35 : decode cX10_goBack 35 = .ok (.iload_n 1, 1) := by decide +kernel
theorem dX10_goBack_36 : decode cX10_goBack 36 = .ok (.aaload, 1) := by decide +kernel
theorem dX10_goBack_37 : decode cX10_goBack 37 = .ok (.invokevirtual 277, 3) := by decide +kernel
theorem dX10_goBack_40 : decode cX10_goBack 40 = .ok (.iconst 1, 1) := by decide +kernel
theorem dX10_goBack_41 : decode cX10_goBack 41 = .ok (.ireturn, 1) := by decide +kernel
theorem dX10_oneIf_0 : decode cX10_oneIf 0 = .ok (.iload_n 0, 1) := by decide +kernel
theorem dX10_oneIf_1 : decode cX10_oneIf 1 = .ok (.ifCond .eq 7, 3) := by decide +kernel
theorem dX10_oneIf_4 : decode cX10_oneIf 4 = .ok (.iconst 1, 1) := by decide +kernel
theorem dX10_oneIf_5 : decode cX10_oneIf 5 = .ok (.goto 4, 3) := by decide +kernel
theorem dX10_oneIf_8 : decode cX10_oneIf 8 = .ok (.iconst 0, 1) := by decide +kernel
theorem dX10_oneIf_9 : decode cX10_oneIf 9 = .ok (.ireturn, 1) := by decide +kernel
theorem dJ6_bitCount_0f7a4_0 : decode cJ6_bitCount_0f7a4 0 = .ok (.iload_n 0, 1) := by decide +kernel
theorem dJ6_bitCount_0f7a4_1 : decode cJ6_bitCount_0f7a4 1 = .ok (.iload_n 0, 1) := by decide +kernel
theorem dJ6_bitCount_0f7a4_2 : decode cJ6_bitCount_0f7a4 2 = .ok (.iconst 1, 1) := by decide +kernel
theorem dJ6_bitCount_0f7a4_3 : decode cJ6_bitCount_0f7a4 3 = .ok (.iushr, 1) := by decide +kernel
theorem dJ6_bitCount_0f7a4_4 : decode cJ6_bitCount_0f7a4 4 = .ok (.ldc_w 265, 3) := by decide +kernel
theorem dJ6_bitCount_0f7a4_7 : decode cJ6_bitCount_0f7a4 7 = .ok (.iand, 1) := by decide +kernel
theorem dJ6_bitCount_0f7a4_8 : decode cJ6_bitCount_0f7a4 8 = .ok (.isub, 1) := by decide +kernel
theorem dJ6_bitCount_0f7a4_9 : decode cJ6_bitCount_0f7a4 9 = .ok (.istore_n 0, 1) := by decide +kernel
theorem dJ6_bitCount_0f7a4_10 : decode cJ6_bitCount_0f7a4 10 = .ok (.iload_n 0, 1) := by decide +kernel
theorem dJ6_bitCount_0f7a4_11 : decode cJ6_bitCount_0f7a4 11 = .ok (.ldc_w 266, 3) := by decide +kernel
theorem dJ6_bitCount_0f7a4_14 : decode cJ6_bitCount_0f7a4 14 = .ok (.iand, 1) := by decide +kernel
theorem dJ6_bitCount_0f7a4_15 : decode cJ6_bitCount_0f7a4 15 = .ok (.iload_n 0, 1) := by decide +kernel
theorem dJ6_bitCount_0f7a4_16 : decode cJ6_bitCount_0f7a4 16 = .ok (.iconst 2, 1) := by decide +kernel
theorem dJ6_bitCount_0f7a4_17 : decode cJ6_bitCount_0f7a4 17 = .ok (.iushr, 1) := by decide +kernel
theorem dJ6_bitCount_0f7a4_18 : decode cJ6_bitCount_0f7a4 18 = .ok (.ldc_w 266, 3) := by decide +kernel
theorem dJ6_bitCount_0f7a4_21 : decode cJ6_bitCount_0f7a4 21 = .ok (.iand, 1) := by decide +kernel
theorem dJ6_bitCount_0f7a4_22 : decode cJ6_bitCount_0f7a4 22 = .ok (.iadd, 1) := by decide +kernel
theorem dJ6_bitCount_0f7a4_23 : decode cJ6_bitCount_0f7a4 23 = .ok (.istore_n 0, 1) := by decide +kernel
theorem dJ6_bitCount_0f7a4_24 : decode cJ6_bitCount_0f7a4 24 = .ok (.iload_n 0, 1) := by decide +kernel
theorem dJ6_bitCount_0f7a4_25 : decode cJ6_bitCount_0f7a4 25 = .ok (.iload_n 0, 1) := by decide +kernel
theorem dJ6_bitCount_0f7a4_26 : decode cJ6_bitCount_0f7a4 26 = .ok (.iconst 4, 1) := by decide +kernel
theorem dJ6_bitCount_0f7a4_27 : decode cJ6_bitCount_0f7a4 27 = .ok (.iushr, 1) := by decide +kernel
theorem dJ6_bitCount_0f7a4_28 : decode cJ6_bitCount_0f7a4 28 = .ok (.iadd, 1) := by decide +kernel
theorem dJ6_bitCount_0f7a4_29 : decode cJ6_bitCount_0f7a4 29 = .ok (.ldc_w 267, 3) := by decide +kernel
theorem dJ6_bitCount_0f7a4_32 : decode cJ6_bitCount_0f7a4 32 = .ok (.iand, 1) := by decide +kernel
theorem dJ6_bitCount_0f7a4_33 : decode cJ6_bitCount_0f7a4 33 = .ok (.istore_n 0, 1) := by decide +kernel
theorem dJ6_bitCount_0f7a4_34 : decode cJ6_bitCount_0f7a4 34 = .ok (.iload_n 0, 1) := by decide +kernel
theorem dJ6_bitCount_0f7a4_35 : decode cJ6_bitCount_0f7a4 35 = .ok (.iload_n 0, 1) := by decide +kernel
theorem dJ6_bitCount_0f7a4_36 : decode cJ6_bitCount_0f7a4 36 = .ok (.bipush 8, 2) := by decide +kernel
theorem dJ6_bitCount_0f7a4_38 : decode cJ6_bitCount_0f7a4 38 = .ok (.iushr, 1) := by decide +kernel
theorem dJ6_bitCount_0f7a4_39 : decode cJ6_bitCount_0f7a4 39 = .ok (.iadd, 1) := by decide +kernel
theorem dJ6_bitCount_0f7a4_40 : decode cJ6_bitCount_0f7a4 40 = .ok (.istore_n 0, 1) := by decide +kernel
theorem dJ6_bitCount_0f7a4_41 : decode cJ6_bitCount_0f7a4 41 = .ok (.iload_n 0, 1) := by decide +kernel
theorem dJ6_bitCount_0f7a4_42 : decode cJ6_bitCount_0f7a4 42 = .ok (.iload_n 0, 1) := by decide +kernel
theorem dJ6_bitCount_0f7a4_43 : decode cJ6_bitCount_0f7a4 43 = .ok (.bipush 16, 2) := by decide +kernel
theorem dJ6_bitCount_0f7a4_45 : decode cJ6_bitCount_0f7a4 45 = .ok (.iushr, 1) := by decide +kernel
theorem dJ6_bitCount_0f7a4_46 : decode cJ6_bitCount_0f7a4 46 = .ok (.iadd, 1) := by decide +kernel
theorem dJ6_bitCount_0f7a4_47 : decode cJ6_bitCount_0f7a4 47 = .ok (.istore_n 0, 1) := by decide +kernel
theorem dJ6_bitCount_0f7a4_48 : decode cJ6_bitCount_0f7a4 48 = .ok (.iload_n 0, 1) := by decide +kernel
theorem dJ6_bitCount_0f7a4_49 : decode cJ6_bitCount_0f7a4 49 = .ok (.bipush 63, 2) := by decide +kernel
theorem dJ6_bitCount_0f7a4_51 : decode cJ6_bitCount_0f7a4 51 = .ok (.iand, 1) := by decide +kernel
theorem dJ6_bitCount_0f7a4_52 : decode cJ6_bitCount_0f7a4 52 = .ok (.ireturn, 1) := by decide +kernel
theorem dJ9_max_7cf53_0 : decode cJ9_max_7cf53 0 = .ok (.iload_n 0, 1) := by decide +kernel
theorem dJ9_max_7cf53_1 : decode cJ9_max_7cf53 1 = .ok (.iload_n 1, 1) := by decide +kernel
theorem dJ9_max_7cf53_2 : decode cJ9_max_7cf53 2 = .ok (.if_icmp .lt 7, 3) := by decide +kernel
theorem dJ9_max_7cf53_5 : decode cJ9_max_7cf53 5 = .ok (.iload_n 0, 1) := by decide +kernel
theorem dJ9_max_7cf53_6 : decode cJ9_max_7cf53 6 = .ok (.goto 4, 3) := by decide +kernel
theorem dJ9_max_7cf53_9 : decode cJ9_max_7cf53 9 = .ok (.iload_n 1, 1) := by decide +kernel
theorem dJ9_max_7cf53_10 : decode cJ9_max_7cf53 10 = .ok (.ireturn, 1) := by decide +kernel
theorem dJ9_max_f86c9_0 : decode cJ9_max_f86c9 0 = .ok (.lload_n 0, 1) := by decide +kernel
theorem dJ9_max_f86c9_1 : decode cJ9_max_f86c9 1 = .ok (.lload_n 2, 1) := by decide +kernel
theorem dJ9_max_f86c9_2 : decode cJ9_max_f86c9 2 = .ok (.lcmp, 1) := by decide +kernel
theorem dJ9_max_f86c9_3 : decode cJ9_max_f86c9 3 = .ok (.ifCond .lt 7, 3) := by decide +kernel
theorem dJ9_max_f86c9_6 : decode cJ9_max_f86c9 6 = .ok (.lload_n 0, 1) := by decide +kernel
theorem dJ9_max_f86c9_7 : decode cJ9_max_f86c9 7 = .ok (.goto 4, 3) := by decide +kernel
theorem dJ9_max_f86c9_10 : decode cJ9_max_f86c9 10 = .ok (.lload_n 2, 1) := by decide +kernel
theorem dJ9_max_f86c9_11 : decode cJ9_max_f86c9 11 = .ok (.lreturn, 1) := by decide +kernel
theorem dJ9_min_7cf53_0 : decode cJ9_min_7cf53 0 = .ok (.iload_n 0, 1) := by decide +kernel
theorem dJ9_min_7cf53_1 : decode cJ9_min_7cf53 1 = .ok (.iload_n 1, 1) := by decide +kernel
theorem dJ9_min_7cf53_2 : decode cJ9_min_7cf53 2 = .ok (.if_icmp .gt 7, 3) := by decide +kernel
theorem dJ9_min_7cf53_5 : decode cJ9_min_7cf53 5 = .ok (.iload_n 0, 1) := by decide +kernel
theorem dJ9_min_7cf53_6 : decode cJ9_min_7cf53 6 = .ok (.goto 4, 3) := by decide +kernel
theorem dJ9_min_7cf53_9 : decode cJ9_min_7cf53 9 = .ok (.iload_n 1, 1) := by decide +kernel
theorem dJ9_min_7cf53_10 : decode cJ9_min_7cf53 10 = .ok (.ireturn, 1) := by decide +kernel
theorem dJ0_length_8abf5_0 : decode cJ0_length_8abf5 0 = .ok (.aload_n 0, 1) := by decide +kernel
theorem dJ0_length_8abf5_1 : decode cJ0_length_8abf5 1 = .ok (.getfield 9, 3) := by decide +kernel
theorem dJ0_length_8abf5_4 : decode cJ0_length_8abf5 4 = .ok (.arraylength, 1) := by decide +kernel
theorem dJ0_length_8abf5_5 : decode cJ0_length_8abf5 5 = .ok (.aload_n 0, 1) := by decide +kernel
theorem dJ0_length_8abf5_6 : decode cJ0_length_8abf5 6 = .ok (.invokevirtual 335, 3) := by decide +kernel
theorem dJ0_length_8abf5_9 : decode cJ0_length_8abf5 9 = .ok (.ishr, 1) := by decide +kernel
theorem dJ0_length_8abf5_10 : decode cJ0_length_8abf5 10 = .ok (.ireturn, 1) := by decide +kernel
theorem dJ0_charAt_5068e_0 : decode cJ0_charAt_5068e 0 = .ok (.aload_n 0, 1) := by decide +kernel
theorem dJ0_charAt_5068e_1 : decode cJ0_charAt_5068e 1 = .ok (.invokevirtual 492, 3) := by decide +kernel
theorem dJ0_charAt_5068e_4 : decode cJ0_charAt_5068e 4 = .ok (.ifCond .eq 12, 3) := by decide +kernel
theorem dJ0_charAt_5068e_7 : decode cJ0_charAt_5068e 7 = .ok (.aload_n 0, 1) := by decide +kernel
theorem dJ0_charAt_5068e_8 : decode cJ0_charAt_5068e 8 = .ok (.getfield 9, 3) := by decide +kernel
theorem dJ0_charAt_5068e_11 : decode cJ0_charAt_5068e 11 = .ok (.iload_n 1, 1) := by decide +kernel
theorem dJ0_charAt_5068e_12 : decode cJ0_charAt_5068e 12 = .ok (.invokestatic 495, 3) := by decide +kernel
theorem dJ0_charAt_5068e_15 : decode cJ0_charAt_5068e 15 = .ok (.ireturn, 1) := by decide +kernel
theorem dJ0_charAt_5068e_16 : decode cJ0_charAt_5068e 16 = .ok (.aload_n 0, 1) := by decide +kernel
theorem dJ0_charAt_5068e_17 : decode cJ0_charAt_5068e 17 = .ok (.getfield 9, 3) := by decide +kernel
theorem dJ0_charAt_5068e_20 : decode cJ0_charAt_5068e 20 = .ok (.iload_n 1, 1) := by decide +kernel
theorem dJ0_charAt_5068e_21 : decode cJ0_charAt_5068e 21 = .ok (.invokestatic 498, 3) := by decide +kernel
theorem dJ0_charAt_5068e_24 : decode cJ0_charAt_5068e 24 = .ok (.ireturn, 1) := by decide +kernel
theorem dJ0_coder_7d493_0 : decode cJ0_coder_7d493 0 = .ok (.getstatic 38, 3) := by decide +kernel
theorem dJ0_coder_7d493_3 : decode cJ0_coder_7d493 3 = .ok (.ifCond .eq 10, 3) := by decide +kernel
theorem dJ0_coder_7d493_6 : decode cJ0_coder_7d493 6 = .ok (.aload_n 0, 1) := by decide +kernel
theorem dJ0_coder_7d493_7 : decode cJ0_coder_7d493 7 = .ok (.getfield 15, 3) := by decide +kernel
theorem dJ0_coder_7d493_10 : decode cJ0_coder_7d493 10 = .ok (.goto 4, 3) := by decide +kernel
theorem dJ0_coder_7d493_13 : decode cJ0_coder_7d493 13 = .ok (.iconst 1, 1) := by decide +kernel
theorem dJ0_coder_7d493_14 : decode cJ0_coder_7d493 14 = .ok (.ireturn, 1) := by decide +kernel
theorem dJ0_isLatin1_aae02_0 : decode cJ0_isLatin1_aae02 0 = .ok (.getstatic 38, 3) := by decide +kernel
theorem dJ0_isLatin1_aae02_3 : decode cJ0_isLatin1_aae02 3 = .ok (.ifCond .eq 14, 3) := by decide +kernel
theorem dJ0_isLatin1_aae02_6 : decode cJ0_isLatin1_aae02 6 = .ok (.aload_n 0, 1) := by decide +kernel
theorem dJ0_isLatin1_aae02_7 : decode cJ0_isLatin1_aae02 7 = .ok (.getfield 15, 3) := by decide +kernel
theorem dJ0_isLatin1_aae02_10 : decode cJ0_isLatin1_aae02 10 = .ok (.ifCond .ne 7, 3) := by decide +kernel
theorem dJ0_isLatin1_aae02_13 : decode cJ0_isLatin1_aae02 13 = .ok (.iconst 1, 1) := by decide +kernel
theorem dJ0_isLatin1_aae02_14 : decode cJ0_isLatin1_aae02 14 = .ok (.goto 4, 3) := by decide +kernel
theorem dJ0_isLatin1_aae02_17 : decode cJ0_isLatin1_aae02 17 = .ok (.iconst 0, 1) := by decide +kernel
theorem dJ0_isLatin1_aae02_18 : decode cJ0_isLatin1_aae02 18 = .ok (.ireturn, 1) := by decide +kernel
theorem dJ0_checkIndex_df160_0 : decode cJ0_checkIndex_df160 0 = .ok (.iload_n 0, 1) := by decide +kernel
theorem dJ0_checkIndex_df160_1 : decode cJ0_checkIndex_df160 1 = .ok (.iload_n 1, 1) := by decide +kernel
theorem dJ0_checkIndex_df160_2 : decode cJ0_checkIndex_df160 2 = .ok (.getstatic 1053, 3) := by decide +kernel
theorem dJ0_checkIndex_df160_5 : decode cJ0_checkIndex_df160 5 = .ok (.invokestatic 1059, 3) := by decide +kernel
theorem dJ0_checkIndex_df160_8 : decode cJ0_checkIndex_df160 8 = .ok (.pop, 1) := by decide +kernel
theorem dJ0_checkIndex_df160_9 : decode cJ0_checkIndex_df160 9 = .ok (.return_, 1) := by decide +kernel
theorem dJ1_charAt_3b067_0 : decode cJ1_charAt_3b067 0 = .ok (.iload_n 1, 1) := by decide +kernel
theorem dJ1_charAt_3b067_1 : decode cJ1_charAt_3b067 1 = .ok (.aload_n 0, 1) := by decide +kernel
theorem dJ1_charAt_3b067_2 : decode cJ1_charAt_3b067 2 = .ok (.arraylength, 1) := by decide +kernel
theorem dJ1_charAt_3b067_3 : decode cJ1_charAt_3b067 3 = .ok (.invokestatic 9, 3) := by decide +kernel
theorem dJ1_charAt_3b067_6 : decode cJ1_charAt_3b067 6 = .ok (.aload_n 0, 1) := by decide +kernel
theorem dJ1_charAt_3b067_7 : decode cJ1_charAt_3b067 7 = .ok (.iload_n 1, 1) := by decide +kernel
theorem dJ1_charAt_3b067_8 : decode cJ1_charAt_3b067 8 = .ok (.baload, 1) := by decide +kernel
theorem dJ1_charAt_3b067_9 : decode cJ1_charAt_3b067 9 = .ok (.sipush 255, 3) := by decide +kernel
theorem dJ1_charAt_3b067_12 : decode cJ1_charAt_3b067 12 = .ok (.iand, 1) := by decide +kernel
theorem dJ1_charAt_3b067_13 : decode cJ1_charAt_3b067 13 = .ok (.i2c, 1) := by decide +kernel
theorem dJ1_charAt_3b067_14 : decode cJ1_charAt_3b067 14 = .ok (.ireturn, 1) := by decide +kernel
theorem dJ2_getChar_3b067_0 : decode cJ2_getChar_3b067 0 = .ok (.getstatic 44, 3) := by decide +kernel
theorem dJ2_getChar_3b067_3 : decode cJ2_getChar_3b067 3 = .ok (.ifCond .ne 25, 3) := by decide +kernel
theorem dJ2_getChar_3b067_6 : decode cJ2_getChar_3b067 6 = .ok (.iload_n 1, 1) := by decide +kernel
theorem dJ2_getChar_3b067_7 : decode cJ2_getChar_3b067 7 = .ok (.ifCond .lt 11, 3) := by decide +kernel
theorem dJ2_getChar_3b067_10 : decode cJ2_getChar_3b067 10 = .ok (.iload_n 1, 1) := by decide +kernel
theorem dJ2_getChar_3b067_11 : decode cJ2_getChar_3b067 11 = .ok (.aload_n 0, 1) := by decide +kernel
theorem dJ2_getChar_3b067_12 : decode cJ2_getChar_3b067 12 = .ok (.invokestatic 48, 3) := by decide +kernel
theorem dJ2_getChar_3b067_15 : decode cJ2_getChar_3b067 15 = .ok (.if_icmp .lt 13, 3) := by decide +kernel
theorem dJ2_getChar_3b067_18 : decode cJ2_getChar_3b067 18 = .ok (.new 52, 3) := by decide +kernel
theorem dJ2_getChar_3b067_21 : decode cJ2_getChar_3b067 21 = .ok (.dup, 1) := by decide +kernel
theorem dJ2_getChar_3b067_22 : decode cJ2_getChar_3b067 22 = .ok (.ldc 54, 2) := by decide +kernel
theorem dJ2_getChar_3b067_24 : decode cJ2_getChar_3b067 24 = .ok (.invokespecial 56, 3) := by decide +kernel
theorem dJ2_getChar_3b067_27 : decode cJ2_getChar_3b067 27 = .ok (.athrow, 1) := by decide +kernel
theorem dJ2_getChar_3b067_28 : decode cJ2_getChar_3b067 28 = .ok (.iload_n 1, 1) := by decide +kernel
theorem dJ2_getChar_3b067_29 : decode cJ2_getChar_3b067 29 = .ok (.iconst 1, 1) := by decide +kernel
theorem dJ2_getChar_3b067_30 : decode cJ2_getChar_3b067 30 = .ok (.ishl, 1) := by decide +kernel
theorem dJ2_getChar_3b067_31 : decode cJ2_getChar_3b067 31 = .ok (.istore_n 1, 1) := by decide +kernel
theorem dJ2_getChar_3b067_32 : decode cJ2_getChar_3b067 32 = .ok (.aload_n 0, 1) := by decide +kernel
theorem dJ2_getChar_3b067_33 : decode cJ2_getChar_3b067 33 = .ok (.iload_n 1, 1) := by decide +kernel
theorem dJ2_getChar_3b067_34 : decode cJ2_getChar_3b067 34 = .ok (.iinc 1 1, 3) := by decide +kernel
theorem dJ2_getChar_3b067_37 : decode cJ2_getChar_3b067 37 = .ok (.baload, 1) := by decide +kernel
theorem dJ2_getChar_3b067_38 : decode cJ2_getChar_3b067 38 = .ok (.sipush 255, 3) := by decide +kernel
theorem dJ2_getChar_3b067_41 : decode cJ2_getChar_3b067 41 = .ok (.iand, 1) := by decide +kernel
theorem dJ2_getChar_3b067_42 : decode cJ2_getChar_3b067 42 = .ok (.getstatic 59, 3) := by decide +kernel
theorem dJ2_getChar_3b067_45 : decode cJ2_getChar_3b067 45 = .ok (.ishl, 1) := by decide +kernel
theorem dJ2_getChar_3b067_46 : decode cJ2_getChar_3b067 46 = .ok (.aload_n 0, 1) := by decide +kernel
theorem dJ2_getChar_3b067_47 : decode cJ2_getChar_3b067 47 = .ok (.iload_n 1, 1) := by decide +kernel
theorem dJ2_getChar_3b067_48 : decode cJ2_getChar_3b067 48 = .ok (.baload, 1) := by decide +kernel
theorem dJ2_getChar_3b067_49 : decode cJ2_getChar_3b067 49 = .ok (.sipush 255, 3) := by decide +kernel
theorem dJ2_getChar_3b067_52 : decode cJ2_getChar_3b067 52 = .ok (.iand, 1) := by decide +kernel
theorem dJ2_getChar_3b067_53 : decode cJ2_getChar_3b067 53 = .ok (.getstatic 63, 3) := by decide +kernel
theorem dJ2_getChar_3b067_56 : decode cJ2_getChar_3b067 56 = .ok (.ishl, 1) := by decide +kernel
theorem dJ2_getChar_3b067_57 : decode cJ2_getChar_3b067 57 = .ok (.ior, 1) := by decide +kernel
theorem dJ2_getChar_3b067_58 : decode cJ2_getChar_3b067 58 = .ok (.i2c, 1) := by decide +kernel
theorem dJ2_getChar_3b067_59 : decode cJ2_getChar_3b067 59 = .ok (.ireturn, 1) := by decide +kernel
theorem dJ2_length_9d52b_0 : decode cJ2_length_9d52b 0 = .ok (.aload_n 0, 1) := by decide +kernel
theorem dJ2_length_9d52b_1 : decode cJ2_length_9d52b 1 = .ok (.arraylength, 1) := by decide +kernel
theorem dJ2_length_9d52b_2 : decode cJ2_length_9d52b 2 = .ok (.iconst 1, 1) := by decide +kernel
theorem dJ2_length_9d52b_3 : decode cJ2_length_9d52b 3 = .ok (.ishr, 1) := by decide +kernel
theorem dJ2_length_9d52b_4 : decode cJ2_length_9d52b 4 = .ok (.ireturn, 1) := by decide +kernel
theorem dJ2_charAt_3b067_0 : decode cJ2_charAt_3b067 0 = .ok (.iload_n 1, 1) := by decide +kernel
theorem dJ2_charAt_3b067_1 : decode cJ2_charAt_3b067 1 = .ok (.aload_n 0, 1) := by decide +kernel
theorem dJ2_charAt_3b067_2 : decode cJ2_charAt_3b067 2 = .ok (.invokestatic 67, 3) := by decide +kernel
theorem dJ2_charAt_3b067_5 : decode cJ2_charAt_3b067 5 = .ok (.aload_n 0, 1) := by decide +kernel
theorem dJ2_charAt_3b067_6 : decode cJ2_charAt_3b067 6 = .ok (.iload_n 1, 1) := by decide +kernel
theorem dJ2_charAt_3b067_7 : decode cJ2_charAt_3b067 7 = .ok (.invokestatic 71, 3) := by decide +kernel
theorem dJ2_charAt_3b067_10 : decode cJ2_charAt_3b067 10 = .ok (.ireturn, 1) := by decide +kernel
theorem dJ2_checkIndex_2214a_0 : decode cJ2_checkIndex_2214a 0 = .ok (.iload_n 0, 1) := by decide +kernel
theorem dJ2_checkIndex_2214a_1 : decode cJ2_checkIndex_2214a 1 = .ok (.aload_n 1, 1) := by decide +kernel
theorem dJ2_checkIndex_2214a_2 : decode cJ2_checkIndex_2214a 2 = .ok (.invokestatic 48, 3) := by decide +kernel
theorem dJ2_checkIndex_2214a_5 : decode cJ2_checkIndex_2214a 5 = .ok (.invokestatic 414, 3) := by decide +kernel
theorem dJ2_checkIndex_2214a_8 : decode cJ2_checkIndex_2214a 8 = .ok (.return_, 1) := by decide +kernel
theorem dJ7_fill_d0a16_0 : decode cJ7_fill_d0a16 0 = .ok (.iconst 0, 1) := by decide +kernel
theorem dJ7_fill_d0a16_1 : decode cJ7_fill_d0a16 1 = .ok (.istore_n 3, 1) := by decide +kernel
theorem dJ7_fill_d0a16_2 : decode cJ7_fill_d0a16 2 = .ok (.aload_n 0, 1) := by decide +kernel
theorem dJ7_fill_d0a16_3 : decode cJ7_fill_d0a16 3 = .ok (.arraylength, 1) := by decide +kernel
theorem dJ7_fill_d0a16_4 : decode cJ7_fill_d0a16 4 = .ok (.istore 4, 2) := by decide +kernel
theorem dJ7_fill_d0a16_6 : decode cJ7_fill_d0a16 6 = .ok (.iload_n 3, 1) := by decide +kernel
theorem dJ7_fill_d0a16_7 : decode cJ7_fill_d0a16 7 = .ok (.iload 4, 2) := by decide +kernel
theorem dJ7_fill_d0a16_9 : decode cJ7_fill_d0a16 9 = .ok (.if_icmp .ge 13, 3) := by decide +kernel
theorem dJ7_fill_d0a16_12 : decode cJ7_fill_d0a16 12 = .ok (.aload_n 0, 1) := by decide +kernel
theorem dJ7_fill_d0a16_13 : decode cJ7_fill_d0a16 13 = .ok (.iload_n 3, 1) := by decide +kernel
theorem dJ7_fill_d0a16_14 : decode cJ7_fill_d0a16 14 = .ok (.lload_n 1, 1) := by decide +kernel
theorem dJ7_fill_d0a16_15 : decode cJ7_fill_d0a16 15 = .ok (.lastore, 1) := by decide +kernel
theorem dJ7_fill_d0a16_16 : decode cJ7_fill_d0a16 16 = .ok (.iinc 3 1, 3) := by decide +kernel
theorem dJ7_fill_d0a16_19 : decode cJ7_fill_d0a16 19 = .ok (.goto (-13), 3) := by decide +kernel
theorem dJ7_fill_d0a16_22 : decode cJ7_fill_d0a16 22 = .ok (.return_, 1) := by decide +kernel
theorem dJ7_fill_53178_0 : decode cJ7_fill_53178 0 = .ok (.iconst 0, 1) := by decide +kernel
theorem dJ7_fill_53178_1 : decode cJ7_fill_53178 1 = .ok (.istore_n 2, 1) := by decide +kernel
theorem dJ7_fill_53178_2 : decode cJ7_fill_53178 2 = .ok (.aload_n 0, 1) := by decide +kernel
theorem dJ7_fill_53178_3 : decode cJ7_fill_53178 3 = .ok (.arraylength, 1) := by decide +kernel
theorem dJ7_fill_53178_4 : decode cJ7_fill_53178 4 = .ok (.istore_n 3, 1) := by decide +kernel
theorem dJ7_fill_53178_5 : decode cJ7_fill_53178 5 = .ok (.iload_n 2, 1) := by decide +kernel
theorem dJ7_fill_53178_6 : decode cJ7_fill_53178 6 = .ok (.iload_n 3, 1) := by decide +kernel
theorem dJ7_fill_53178_7 : decode cJ7_fill_53178 7 = .ok (.if_icmp .ge 13, 3) := by decide +kernel
theorem dJ7_fill_53178_10 : decode cJ7_fill_53178 10 = .ok (.aload_n 0, 1) := by decide +kernel
theorem dJ7_fill_53178_11 : decode cJ7_fill_53178 11 = .ok (.iload_n 2, 1) := by decide +kernel
theorem dJ7_fill_53178_12 : decode cJ7_fill_53178 12 = .ok (.iload_n 1, 1) := by decide +kernel
theorem dJ7_fill_53178_13 : decode cJ7_fill_53178 13 = .ok (.iastore, 1) := by decide +kernel
theorem dJ7_fill_53178_14 : decode cJ7_fill_53178 14 = .ok (.iinc 2 1, 3) := by decide +kernel
theorem dJ7_fill_53178_17 : decode cJ7_fill_53178 17 = .ok (.goto (-12), 3) := by decide +kernel
theorem dJ7_fill_53178_20 : decode cJ7_fill_53178 20 = .ok (.return_, 1) := by decide +kernel
theorem dJ3_checkIndex_8e157_0 : decode cJ3_checkIndex_8e157 0 = .ok (.iload_n 0, 1) := by decide +kernel
theorem dJ3_checkIndex_8e157_1 : decode cJ3_checkIndex_8e157 1 = .ok (.ifCond .lt 8, 3) := by decide +kernel
theorem dJ3_checkIndex_8e157_4 : decode cJ3_checkIndex_8e157 4 = .ok (.iload_n 0, 1) := by decide +kernel
theorem dJ3_checkIndex_8e157_5 : decode cJ3_checkIndex_8e157 5 = .ok (.iload_n 1, 1) := by decide +kernel
theorem dJ3_checkIndex_8e157_6 : decode cJ3_checkIndex_8e157 6 = .ok (.if_icmp .lt 10, 3) := by decide +kernel
theorem dJ3_checkIndex_8e157_9 : decode cJ3_checkIndex_8e157 9 = .ok (.aload_n 2, 1) := by decide +kernel
theorem dJ3_checkIndex_8e157_10 : decode cJ3_checkIndex_8e157 10 = .ok (.iload_n 0, 1) := by decide +kernel
theorem dJ3_checkIndex_8e157_11 : decode cJ3_checkIndex_8e157 11 = .ok (.iload_n 1, 1) := by decide +kernel
theorem dJ3_checkIndex_8e157_12 : decode cJ3_checkIndex_8e157 12 = .ok (.invokestatic 95, 3) := by decide +kernel
theorem dJ3_checkIndex_8e157_15 : decode cJ3_checkIndex_8e157 15 = .ok (.athrow, 1) := by decide +kernel
theorem dJ3_checkIndex_8e157_16 : decode cJ3_checkIndex_8e157 16 = .ok (.iload_n 0, 1) := by decide +kernel
theorem dJ3_checkIndex_8e157_17 : decode cJ3_checkIndex_8e157 17 = .ok (.ireturn, 1) := by decide +kernel
