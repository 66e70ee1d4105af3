theorem dX11_in_0 : decode cX11_in 0 = .ok (.lload_n 0, 1) := by decide +kernel
theorem dX11_in_1 : decode cX11_in 1 = .ok (.lload_n 2, 1) := by decide +kernel
theorem dX11_in_2 : decode cX11_in 2 = .ok (.lcmp, 1) := by decide +kernel
theorem dX11_in_3 : decode cX11_in 3 = .ok (.ifCond .lt 14, 3) := by decide +kernel
theorem dX11_in_6 : decode cX11_in 6 = .ok (.lload_n 0, 1) := by decide +kernel
theorem dX11_in_7 : decode cX11_in 7 = .ok (.lload 4, 2) := by decide +kernel
theorem dX11_in_9 : decode cX11_in 9 = .ok (.lcmp, 1) := by decide +kernel
theorem dX11_in_10 : decode cX11_in 10 = .ok (.ifCond .gt 7, 3) := by decide +kernel
theorem dX11_in_13 : decode cX11_in 13 = .ok (.iconst 1, 1) := by decide +kernel
theorem dX11_in_14 : decode cX11_in 14 = .ok (.goto 4, 3) := by decide +kernel
theorem dX11_in_17 : decode cX11_in 17 = .ok (.iconst 0, 1) := by decide +kernel
theorem dX11_in_18 : decode cX11_in 18 = .ok (.ireturn, 1) := by decide +kernel
theorem dX11_has_0 : decode cX11_has 0 = .ok (.iload_n 0, 1) := by decide +kernel
theorem dX11_has_1 : decode cX11_has 1 = .ok (.iload_n 1, 1) := by decide +kernel
theorem dX11_has_2 : decode cX11_has 2 = .ok (.ishr, 1) := by decide +kernel
theorem dX11_has_3 : decode cX11_has 3 = .ok (.iconst 1, 1) := by decide +kernel
theorem dX11_has_4 : decode cX11_has 4 = .ok (.iand, 1) := by decide +kernel
theorem dX11_has_5 : decode cX11_has 5 = .ok (.iconst 1, 1) := by decide +kernel
theorem dX11_has_6 : decode cX11_has 6 = .ok (.if_icmp .ne 7, 3) := by decide +kernel
theorem dX11_has_9 : decode cX11_has 9 = .ok (.iconst 1, 1) := by decide +kernel
theorem dX11_has_10 : decode cX11_has 10 = .ok (.goto 4, 3) := by decide +kernel
theorem dX11_has_13 : decode cX11_has 13 = .ok (.iconst 0, 1) := by decide +kernel
theorem dX11_has_14 : decode cX11_has 14 = .ok (.ireturn, 1) := by decide +kernel
theorem dX11_isSuit_0 : decode cX11_isSuit 0 = .ok (.iload_n 1, 1) := by decide +kernel
theorem dX11_isSuit_1 : decode cX11_isSuit 1 = .ok (.i2l, 1) := by decide +kernel
theorem dX11_isSuit_2 : decode cX11_isSuit 2 = .ok (.lconst 0, 1) := by decide +kernel
theorem dX11_isSuit_3 : decode cX11_isSuit 3 = .ok (.aload_n 0, 1) := by decide +kernel
theorem dX11_isSuit_4 : decode cX11_isSuit 4 = .ok (.getfield 124, 3) := by decide +kernel
theorem dX11_isSuit_7 : decode cX11_isSuit 7 = .ok (.iconst 1, 1) := by decide +kernel
theorem dX11_isSuit_8 : decode cX11_isSuit 8 = .ok (.isub, 1) := by decide +kernel
theorem dX11_isSuit_9 : decode cX11_isSuit 9 = .ok (.i2l, 1) := by decide +kernel
theorem dX11_isSuit_10 : decode cX11_isSuit 10 = .ok (.invokestatic 127, 3) := by decide +kernel
theorem dX11_isSuit_13 : decode cX11_isSuit 13 = .ok (.ireturn, 1) := by decide +kernel
theorem dX11_isWitness_0 : decode cX11_isWitness 0 = .ok (.iload_n 1, 1) := by decide +kernel
theorem dX11_isWitness_1 : decode cX11_isWitness 1 = .ok (.i2l, 1) := by decide +kernel
theorem dX11_isWitness_2 : decode cX11_isWitness 2 = .ok (.lconst 0, 1) := by decide +kernel
theorem dX11_isWitness_3 : decode cX11_isWitness 3 = .ok (.aload_n 0, 1) := by decide +kernel
theorem dX11_isWitness_4 : decode cX11_isWitness 4 = .ok (.getfield 131, 3) := by decide +kernel
theorem dX11_isWitness_7 : decode cX11_isWitness 7 = .ok (.iconst 1, 1) := by decide +kernel
theorem dX11_isWitness_8 : decode cX11_isWitness 8 = .ok (.isub, 1) := by decide +kernel
theorem dX11_isWitness_9 : decode cX11_isWitness 9 = .ok (.i2l, 1) := by decide +kernel
theorem dX11_isWitness_10 : decode cX11_isWitness 10 = .ok (.invokestatic 127, 3) := by decide +kernel
theorem dX11_isWitness_13 : decode cX11_isWitness 13 = .ok (.ireturn, 1) := by decide +kernel
theorem dX11_bits_0 : decode cX11_bits 0 = .ok (.iconst 0, 1) := by decide +kernel
theorem dX11_bits_1 : decode cX11_bits 1 = .ok (.istore_n 1, 1) := by decide +kernel
theorem dX11_bits_2 : decode cX11_bits 2 = .ok (.iconst 0, 1) := by decide +kernel
theorem dX11_bits_3 : decode cX11_bits 3 = .ok (.istore_n 2, 1) := by decide +kernel
theorem dX11_bits_4 : decode cX11_bits 4 = .ok (.iload_n 2, 1) := by decide +kernel
theorem dX11_bits_5 : decode cX11_bits 5 = .ok (.bipush 12, 2) := by decide +kernel
theorem dX11_bits_7 : decode cX11_bits 7 = .ok (.if_icmp .ge 17, 3) := by decide +kernel
theorem dX11_bits_10 : decode cX11_bits 10 = .ok (.iload_n 1, 1) := by decide +kernel
theorem dX11_bits_11 : decode cX11_bits 11 = .ok (.iload_n 0, 1) := by decide +kernel
theorem dX11_bits_12 : decode cX11_bits 12 = .ok (.iload_n 2, 1) := by decide +kernel
theorem dX11_bits_13 : decode cX11_bits 13 = .ok (.ishr, 1) := by decide +kernel
theorem dX11_bits_14 : decode cX11_bits 14 = .ok (.iconst 1, 1) := by decide +kernel
theorem dX11_bits_15 : decode cX11_bits 15 = .ok (.iand, 1) := by decide +kernel
theorem dX11_bits_16 : decode cX11_bits 16 = .ok (.iadd, 1) := by decide +kernel
theorem dX11_bits_17 : decode cX11_bits 17 = .ok (.istore_n 1, 1) := by decide +kernel
theorem dX11_bits_18 : decode cX11_bits 18 = .ok (.iinc 2 1, 3) := by decide +kernel
theorem dX11_bits_21 : decode cX11_bits 21 = .ok (.goto (-17), 3) := by decide +kernel
theorem dX11_bits_24 : decode cX11_bits 24 = .ok (.iload_n 1, 1) := by decide +kernel
theorem dX11_bits_25 : decode cX11_bits 25 = .ok (.ireturn, 1) := by decide +kernel
theorem dX11_here_0 : decode cX11_here 0 = .ok (.aload_n 0, 1) := by decide +kernel
theorem dX11_here_1 : decode cX11_here 1 = .ok (.getfield 143, 3) := by decide +kernel
theorem dX11_here_4 : decode cX11_here 4 = .ok (.aload_n 0, 1) := by decide +kernel
theorem dX11_here_5 : decode cX11_here 5 = .ok (.getfield 137, 3) := by decide +kernel
theorem dX11_here_8 : decode cX11_here 8 = .ok (.if_icmp .ge 30, 3) := by decide +kernel
theorem dX11_here_11 : decode cX11_here 11 = .ok (.aload_n 0, 1) := by decide +kernel
theorem dX11_here_12 : decode cX11_here 12 = .ok (.getfield 56, 3) := by decide +kernel
theorem dX11_here_15 : decode cX11_here 15 = .ok (.aload_n 0, 1) := by decide +kernel
theorem dX11_here_16 : decode cX11_here 16 = .ok (.getfield 143, 3) := by decide +kernel
theorem dX11_here_19 : decode cX11_here 19 = .ok (.iaload, 1) := by decide +kernel
theorem dX11_here_20 : decode cX11_here 20 = .ok (.bipush 32, 2) := by decide +kernel
theorem dX11_here_22 : decode cX11_here 22 = .ok (.if_icmp .ne 16, 3) := by decide +kernel
theorem dX11_here_25 : decode cX11_here 25 = .ok (.aload_n 0, 1) := by decide +kernel
theorem dX11_here_26 : decode cX11_here 26 = .ok (.dup, 1) := by decide +kernel
theorem dX11_here_27 : decode cX11_here 27 = .ok (.getfield 143, 3) := by decide +kernel
theorem dX11_here_30 : decode cX11_here 30 = .ok (.iconst 1, 1) := by decide +kernel
theorem dX11_here_31 : decode cX11_here 31 = .ok (.iadd, 1) := by decide +kernel
theorem dX11_here_32 : decode cX11_here 32 = .ok (.putfield 143, 3) := by decide +kernel
theorem dX11_here_35 : decode cX11_here 35 = .ok (.goto (-35), 3) := by decide +kernel
theorem dX11_here_38 : decode cX11_here 38 = .ok (.aload_n 0, 1) := by decide +kernel
theorem dX11_here_39 : decode cX11_here 39 = .ok (.getfield 143, 3) := by decide +kernel
theorem dX11_here_42 : decode cX11_here 42 = .ok (.aload_n 0, 1) := by decide +kernel
theorem dX11_here_43 : decode cX11_here 43 = .ok (.getfield 137, 3) := by decide +kernel
theorem dX11_here_46 : decode cX11_here 46 = .ok (.if_icmp .ge 15, 3) := by decide +kernel
theorem dX11_here_49 : decode cX11_here 49 = .ok (.aload_n 0, 1) := by decide +kernel
theorem dX11_here_50 : decode cX11_here 50 = .ok (.getfield 56, 3) := by decide +kernel
theorem dX11_here_53 : decode cX11_here 53 = .ok (.aload_n 0, 1) := by decide +kernel
theorem dX11_here_54 : decode cX11_here 54 = .ok (.getfield 143, 3) := by decide +kernel
theorem dX11_here_57 : decode cX11_here 57 = .ok (.iaload, 1) := by decide +kernel
theorem dX11_here_58 : decode cX11_here 58 = .ok (.goto 4, 3) := by decide +kernel
theorem dX11_here_61 : decode cX11_here 61 = .ok (.iconst (-1), 1) := by decide +kernel
theorem dX11_here_62 : decode cX11_here 62 = .ok (.ireturn, 1) := by decide +kernel
theorem dX11_lawOf_0 : decode cX11_lawOf 0 = .ok (.iload_n 2, 1) := by decide +kernel
theorem dX11_lawOf_1 : decode cX11_lawOf 1 = .ok (.iconst 1, 1) := by decide +kernel
theorem dX11_lawOf_2 : decode cX11_lawOf 2 = .ok (.if_icmp .ne 7, 3) := by decide +kernel
theorem dX11_lawOf_5 : decode cX11_lawOf 5 = .ok (.iconst 1, 1) := by decide +kernel
theorem dX11_lawOf_6 : decode cX11_lawOf 6 = .ok (.goto 14, 3) := by decide +kernel
theorem dX11_lawOf_9 : decode cX11_lawOf 9 = .ok (.iload_n 2, 1) := by decide +kernel
theorem dX11_lawOf_10 : decode cX11_lawOf 10 = .ok (.iconst 2, 1) := by decide +kernel
theorem dX11_lawOf_11 : decode cX11_lawOf 11 = .ok (.if_icmp .ne 8, 3) := by decide +kernel
theorem dX11_lawOf_14 : decode cX11_lawOf 14 = .ok (.bipush 28, 2) := by decide +kernel
theorem dX11_lawOf_16 : decode cX11_lawOf 16 = .ok (.goto 4, 3) := by decide +kernel
theorem dX11_lawOf_19 : decode cX11_lawOf 19 = .ok (.iconst 2, 1) := by decide +kernel
theorem dX11_lawOf_20 : decode cX11_lawOf 20 = .ok (.istore_n 3, 1) := by decide +kernel
theorem dX11_lawOf_21 : decode cX11_lawOf 21 = .ok (.iconst 0, 1) := by decide +kernel
theorem dX11_lawOf_22 : decode cX11_lawOf 22 = .ok (.istore 4, 2) := by decide +kernel
theorem dX11_lawOf_24 : decode cX11_lawOf 24 = .ok (.iload 4, 2) := by decide +kernel
theorem dX11_lawOf_26 : decode cX11_lawOf 26 = .ok (.aload_n 0, 1) := by decide +kernel
theorem dX11_lawOf_27 : decode cX11_lawOf 27 = .ok (.getfield 236, 3) := by decide +kernel
theorem dX11_lawOf_30 : decode cX11_lawOf 30 = .ok (.if_icmp .ge 38, 3) := by decide +kernel
theorem dX11_lawOf_33 : decode cX11_lawOf 33 = .ok (.aload_n 0, 1) := by decide +kernel
theorem dX11_lawOf_34 : decode cX11_lawOf 34 = .ok (.getfield 28, 3) := by decide +kernel
theorem dX11_lawOf_37 : decode cX11_lawOf 37 = .ok (.iconst 4, 1) := by decide +kernel
theorem dX11_lawOf_38 : decode cX11_lawOf 38 = .ok (.iload 4, 2) := by decide +kernel
theorem dX11_lawOf_40 : decode cX11_lawOf 40 = .ok (.imul, 1) := by decide +kernel
theorem dX11_lawOf_41 : decode cX11_lawOf 41 = .ok (.iaload, 1) := by decide +kernel
theorem dX11_lawOf_42 : decode cX11_lawOf 42 = .ok (.iload_n 1, 1) := by decide +kernel
theorem dX11_lawOf_43 : decode cX11_lawOf 43 = .ok (.if_icmp .gt 17, 3) := by decide +kernel
theorem dX11_lawOf_46 : decode cX11_lawOf 46 = .ok (.aload_n 0, 1) := by decide +kernel
theorem dX11_lawOf_47 : decode cX11_lawOf 47 = .ok (.getfield 28, 3) := by decide +kernel
theorem dX11_lawOf_50 : decode cX11_lawOf 50 = .ok (.iconst 4, 1) := by decide +kernel
theorem dX11_lawOf_51 : decode cX11_lawOf 51 = .ok (.iload 4, 2) := by decide +kernel
theorem dX11_lawOf_53 : decode cX11_lawOf 53 = .ok (.imul, 1) := by decide +kernel
theorem dX11_lawOf_54 : decode cX11_lawOf 54 = .ok (.iload_n 2, 1) := by decide +kernel
theorem dX11_lawOf_55 : decode cX11_lawOf 55 = .ok (.iadd, 1) := by decide +kernel
theorem dX11_lawOf_56 : decode cX11_lawOf 56 = .ok (.iaload, 1) := by decide +kernel
theorem dX11_lawOf_57 : decode cX11_lawOf 57 = .ok (.goto 4, 3) := by decide +kernel
theorem dX11_lawOf_60 : decode cX11_lawOf 60 = .ok (.iload_n 3, 1) := by decide +kernel
theorem dX11_lawOf_61 : decode cX11_lawOf 61 = .ok (.istore_n 3, 1) := by decide +kernel
theorem dX11_lawOf_62 : decode cX11_lawOf 62 = .ok (.iinc 4 1, 3) := by decide +kernel
theorem dX11_lawOf_65 : decode cX11_lawOf 65 = .ok (.goto (-41), 3) := by decide +kernel
theorem dX11_lawOf_68 : decode cX11_lawOf 68 = .ok (.iload_n 3, 1) := by decide +kernel
theorem dX11_lawOf_69 : decode cX11_lawOf 69 = .ok (.ireturn, 1) := by decide +kernel
theorem dX11_isEnough_0 : decode cX11_isEnough 0 = .ok (.aload_n 0, 1) := by decide +kernel
theorem dX11_isEnough_1 : decode cX11_isEnough 1 = .ok (.getfield 47, 3) := by decide +kernel
theorem dX11_isEnough_4 : decode cX11_isEnough 4 = .ok (.iload_n 1, 1) := by decide +kernel
theorem dX11_isEnough_5 : decode cX11_isEnough 5 = .ok (.iaload, 1) := by decide +kernel
theorem dX11_isEnough_6 : decode cX11_isEnough 6 = .ok (.iconst 3, 1) := by decide +kernel
theorem dX11_isEnough_7 : decode cX11_isEnough 7 = .ok (.aload_n 0, 1) := by decide +kernel
theorem dX11_isEnough_8 : decode cX11_isEnough 8 = .ok (.getfield 7, 3) := by decide +kernel
theorem dX11_isEnough_11 : decode cX11_isEnough 11 = .ok (.iload_n 1, 1) := by decide +kernel
theorem dX11_isEnough_12 : decode cX11_isEnough 12 = .ok (.iaload, 1) := by decide +kernel
theorem dX11_isEnough_13 : decode cX11_isEnough 13 = .ok (.imul, 1) := by decide +kernel
theorem dX11_isEnough_14 : decode cX11_isEnough 14 = .ok (.if_icmp .lt 7, 3) := by decide +kernel
theorem dX11_isEnough_17 : decode cX11_isEnough 17 = .ok (.iconst 1, 1) := by decide +kernel
theorem dX11_isEnough_18 : decode cX11_isEnough 18 = .ok (.goto 4, 3) := by decide +kernel
theorem dX11_isEnough_21 : decode cX11_isEnough 21 = .ok (.iconst 0, 1) := by decide +kernel
theorem dX11_isEnough_22 : decode cX11_isEnough 22 = .ok (.ireturn, 1) := by decide +kernel
theorem dX11_lookAt_0 : decode cX11_lookAt 0 = .ok (.aload_n 0, 1) := by decide +kernel
theorem dX11_lookAt_1 : decode cX11_lookAt 1 = .ok (.getfield 41, 3) := by decide +kernel
theorem dX11_lookAt_4 : decode cX11_lookAt 4 = .ok (.iload_n 1, 1) := by decide +kernel
theorem dX11_lookAt_5 : decode cX11_lookAt 5 = .ok (.iaload, 1) := by decide +kernel
theorem dX11_lookAt_6 : decode cX11_lookAt 6 = .ok (.ifCond .ne 52, 3) := by decide +kernel
theorem dX11_lookAt_9 : decode cX11_lookAt 9 = .ok (.aload_n 0, 1) := by decide +kernel
theorem dX11_lookAt_10 : decode cX11_lookAt 10 = .ok (.iload_n 1, 1) := by decide +kernel
theorem dX11_lookAt_11 : decode cX11_lookAt 11 = .ok (.invokevirtual 268, 3) := by decide +kernel
theorem dX11_lookAt_14 : decode cX11_lookAt 14 = .ok (.ifCond .eq 44, 3) := by decide +kernel
theorem dX11_lookAt_17 : decode cX11_lookAt 17 = .ok (.aload_n 0, 1) := by decide +kernel
theorem dX11_lookAt_18 : decode cX11_lookAt 18 = .ok (.getfield 16, 3) := by decide +kernel
theorem dX11_lookAt_21 : decode cX11_lookAt 21 = .ok (.iload_n 1, 1) := by decide +kernel
theorem dX11_lookAt_22 : decode cX11_lookAt 22 = .ok (.iaload, 1) := by decide +kernel
theorem dX11_lookAt_23 : decode cX11_lookAt 23 = .ok (.ifCond .lt 18, 3) := by decide +kernel
theorem dX11_lookAt_26 : decode cX11_lookAt 26 = .ok (.aload_n 0, 1) := by decide +kernel
theorem dX11_lookAt_27 : decode cX11_lookAt 27 = .ok (.getfield 41, 3) := by decide +kernel
theorem dX11_lookAt_30 : decode cX11_lookAt 30 = .ok (.aload_n 0, 1) := by decide +kernel
theorem dX11_lookAt_31 : decode cX11_lookAt 31 = .ok (.getfield 16, 3) := by decide +kernel
theorem dX11_lookAt_34 : decode cX11_lookAt 34 = .ok (.iload_n 1, 1) := by decide +kernel
theorem dX11_lookAt_35 : decode cX11_lookAt 35 = .ok (.iaload, 1) := by decide +kernel
theorem dX11_lookAt_36 : decode cX11_lookAt 36 = .ok (.iaload, 1) := by decide +kernel
theorem dX11_lookAt_37 : decode cX11_lookAt 37 = .ok (.iconst 1, 1) := by decide +kernel
theorem dX11_lookAt_38 : decode cX11_lookAt 38 = .ok (.if_icmp .ne 20, 3) := by decide +kernel
theorem dX11_lookAt_41 : decode cX11_lookAt 41 = .ok (.aload_n 0, 1) := by decide +kernel
theorem dX11_lookAt_42 : decode cX11_lookAt 42 = .ok (.getfield 41, 3) := by decide +kernel
theorem dX11_lookAt_45 : decode cX11_lookAt 45 = .ok (.iload_n 1, 1) := by decide +kernel
theorem dX11_lookAt_46 : decode cX11_lookAt 46 = .ok (.iconst 1, 1) := by decide +kernel
theorem dX11_lookAt_47 : decode cX11_lookAt 47 = .ok (.iastore, 1) := by decide +kernel
theorem dX11_lookAt_48 : decode cX11_lookAt 48 = .ok (.aload_n 0, 1) := by decide +kernel
theorem dX11_lookAt_49 : decode cX11_lookAt 49 = .ok (.getfield 44, 3) := by decide +kernel
theorem dX11_lookAt_52 : decode cX11_lookAt 52 = .ok (.iload_n 1, 1) := by decide +kernel
theorem dX11_lookAt_53 : decode cX11_lookAt 53 = .ok (.aload_n 0, 1) := by decide +kernel
theorem dX11_lookAt_54 : decode cX11_lookAt 54 = .ok (.getfield 223, 3) := by decide +kernel
theorem dX11_lookAt_57 : decode cX11_lookAt 57 = .ok (.iastore, 1) := by decide +kernel
theorem dX11_lookAt_58 : decode cX11_lookAt 58 = .ok (.return_, 1) := by decide +kernel
