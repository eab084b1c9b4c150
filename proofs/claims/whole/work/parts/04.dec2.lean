theorem dX8_runsTold_5 : decode cX8_runsTold 5 = .ok (.invokevirtual 245, 3) := by decide +kernel
theorem dX8_runsTold_8 : decode cX8_runsTold 8 = .ok (.return_, 1) := by decide +kernel
theorem dX8_atOf_0 : decode cX8_atOf 0 = .ok (.aload_n 0, 1) := by decide +kernel
theorem dX8_atOf_1 : decode cX8_atOf 1 = .ok (.invokevirtual 248, 3) := by decide +kernel
theorem dX8_atOf_4 : decode cX8_atOf 4 = .ok (.bipush 8, 2) := by decide +kernel
theorem dX8_atOf_6 : decode cX8_atOf 6 = .ok (.iload_n 1, 1) := by decide +kernel
theorem dX8_atOf_7 : decode cX8_atOf 7 = .ok (.imul, 1) := by decide +kernel
theorem dX8_atOf_8 : decode cX8_atOf 8 = .ok (.iload_n 2, 1) := by decide +kernel
theorem dX8_atOf_9 : decode cX8_atOf 9 = .ok (.iadd, 1) := by decide +kernel
theorem dX8_atOf_10 : decode cX8_atOf 10 = .ok (.istore 4, 2) := by decide +kernel
theorem dX8_atOf_12 : decode cX8_atOf 12 = .ok (.iload_n 3, 1) := by decide +kernel
theorem dX8_atOf_13 : decode cX8_atOf 13 = .ok (.ifCond .ne 13, 3) := by decide +kernel
theorem dX8_atOf_16 : decode cX8_atOf 16 = .ok (.aload_n 0, 1) := by decide +kernel
theorem dX8_atOf_17 : decode cX8_atOf 17 = .ok (.getfield 74, 3) := by decide +kernel
theorem dX8_atOf_20 : decode cX8_atOf 20 = .ok (.iload 4, 2) := by decide +kernel
theorem dX8_atOf_22 : decode cX8_atOf 22 = .ok (.iaload, 1) := by decide +kernel
theorem dX8_atOf_23 : decode cX8_atOf 23 = .ok (.goto 48, 3) := by decide +kernel
theorem dX8_atOf_26 : decode cX8_atOf 26 = .ok (.iload_n 3, 1) := by decide +kernel
theorem dX8_atOf_27 : decode cX8_atOf 27 = .ok (.iconst 1, 1) := by decide +kernel
theorem dX8_atOf_28 : decode cX8_atOf 28 = .ok (.if_icmp .ne 13, 3) := by decide +kernel
theorem dX8_atOf_31 : decode cX8_atOf 31 = .ok (.aload_n 0, 1) := by decide +kernel
theorem dX8_atOf_32 : decode cX8_atOf 32 = .ok (.getfield 77, 3) := by decide +kernel
theorem dX8_atOf_35 : decode cX8_atOf 35 = .ok (.iload 4, 2) := by decide +kernel
theorem dX8_atOf_37 : decode cX8_atOf 37 = .ok (.iaload, 1) := by decide +kernel
theorem dX8_atOf_38 : decode cX8_atOf 38 = .ok (.goto 33, 3) := by decide +kernel
theorem dX8_atOf_41 : decode cX8_atOf 41 = .ok (.iload_n 3, 1) := by decide +kernel
theorem dX8_atOf_42 : decode cX8_atOf 42 = .ok (.iconst 2, 1) := by decide +kernel
theorem dX8_atOf_43 : decode cX8_atOf 43 = .ok (.if_icmp .ne 13, 3) := by decide +kernel
theorem dX8_atOf_46 : decode cX8_atOf 46 = .ok (.aload_n 0, 1) := by decide +kernel
theorem dX8_atOf_47 : decode cX8_atOf 47 = .ok (.getfield 80, 3) := by decide +kernel
theorem dX8_atOf_50 : decode cX8_atOf 50 = .ok (.iload 4, 2) := by decide +kernel
theorem dX8_atOf_52 : decode cX8_atOf 52 = .ok (.iaload, 1) := by decide +kernel
theorem dX8_atOf_53 : decode cX8_atOf 53 = .ok (.goto 18, 3) := by decide +kernel
theorem dX8_atOf_56 : decode cX8_atOf 56 = .ok (.aload_n 0, 1) := by decide +kernel
theorem dX8_atOf_57 : decode cX8_atOf 57 = .ok (.getfield 83, 3) := by decide +kernel
theorem dX8_atOf_60 : decode cX8_atOf 60 = .ok (.iload 4, 2) := by decide +kernel
theorem dX8_atOf_62 : decode cX8_atOf 62 = .ok (.baload, 1) := by decide +kernel
theorem dX8_atOf_63 : decode cX8_atOf 63 = .ok (.ifCond .eq 7, 3) := by decide +kernel
theorem dX8_atOf_66 : decode cX8_atOf 66 = .ok (.iconst 1, 1) := by decide +kernel
theorem dX8_atOf_67 : decode cX8_atOf 67 = .ok (.goto 4, 3) := by decide +kernel
theorem dX8_atOf_70 : decode cX8_atOf 70 = .ok (.iconst 0, 1) := by decide +kernel
theorem dX8_atOf_71 : decode cX8_atOf 71 = .ok (.ireturn, 1) := by decide +kernel
theorem dX8_at_0 : decode cX8_at 0 = .ok (.iload_n 1, 1) := by decide +kernel
theorem dX8_at_1 : decode cX8_at 1 = .ok (.invokestatic 178, 3) := by decide +kernel
theorem dX8_at_4 : decode cX8_at 4 = .ok (.ifCond .eq 30, 3) := by decide +kernel
theorem dX8_at_7 : decode cX8_at 7 = .ok (.aload_n 0, 1) := by decide +kernel
theorem dX8_at_8 : decode cX8_at 8 = .ok (.iload_n 2, 1) := by decide +kernel
theorem dX8_at_9 : decode cX8_at 9 = .ok (.invokevirtual 172, 3) := by decide +kernel
theorem dX8_at_12 : decode cX8_at 12 = .ok (.ifCond .eq 22, 3) := by decide +kernel
theorem dX8_at_15 : decode cX8_at 15 = .ok (.iload_n 3, 1) := by decide +kernel
theorem dX8_at_16 : decode cX8_at 16 = .ok (.iconst 0, 1) := by decide +kernel
theorem dX8_at_17 : decode cX8_at 17 = .ok (.iconst 3, 1) := by decide +kernel
theorem dX8_at_18 : decode cX8_at 18 = .ok (.invokestatic 125, 3) := by decide +kernel
theorem dX8_at_21 : decode cX8_at 21 = .ok (.ifCond .eq 13, 3) := by decide +kernel
theorem dX8_at_24 : decode cX8_at 24 = .ok (.aload_n 0, 1) := by decide +kernel
theorem dX8_at_25 : decode cX8_at 25 = .ok (.iload_n 1, 1) := by decide +kernel
theorem dX8_at_26 : decode cX8_at 26 = .ok (.iload_n 2, 1) := by decide +kernel
theorem dX8_at_27 : decode cX8_at 27 = .ok (.iload_n 3, 1) := by decide +kernel
theorem dX8_at_28 : decode cX8_at 28 = .ok (.invokevirtual 251, 3) := by decide +kernel
theorem dX8_at_31 : decode cX8_at 31 = .ok (.goto 5, 3) := by decide +kernel
theorem dX8_at_34 : decode cX8_at 34 = .ok (.bipush (-2), 2) := by decide +kernel
theorem dX8_at_36 : decode cX8_at 36 = .ok (.ireturn, 1) := by decide +kernel
theorem dX8_noteOf_0 : decode cX8_noteOf 0 = .ok (.aload_n 0, 1) := by decide +kernel
theorem dX8_noteOf_1 : decode cX8_noteOf 1 = .ok (.invokevirtual 248, 3) := by decide +kernel
theorem dX8_noteOf_4 : decode cX8_noteOf 4 = .ok (.iload_n 2, 1) := by decide +kernel
theorem dX8_noteOf_5 : decode cX8_noteOf 5 = .ok (.aload_n 0, 1) := by decide +kernel
theorem dX8_noteOf_6 : decode cX8_noteOf 6 = .ok (.getfield 49, 3) := by decide +kernel
theorem dX8_noteOf_9 : decode cX8_noteOf 9 = .ok (.iload_n 1, 1) := by decide +kernel
theorem dX8_noteOf_10 : decode cX8_noteOf 10 = .ok (.iaload, 1) := by decide +kernel
theorem dX8_noteOf_11 : decode cX8_noteOf 11 = .ok (.if_icmp .ge 17, 3) := by decide +kernel
theorem dX8_noteOf_14 : decode cX8_noteOf 14 = .ok (.aload_n 0, 1) := by decide +kernel
theorem dX8_noteOf_15 : decode cX8_noteOf 15 = .ok (.getfield 52, 3) := by decide +kernel
theorem dX8_noteOf_18 : decode cX8_noteOf 18 = .ok (.bipush 24, 2) := by decide +kernel
theorem dX8_noteOf_20 : decode cX8_noteOf 20 = .ok (.iload_n 1, 1) := by decide +kernel
theorem dX8_noteOf_21 : decode cX8_noteOf 21 = .ok (.imul, 1) := by decide +kernel
theorem dX8_noteOf_22 : decode cX8_noteOf 22 = .ok (.iload_n 2, 1) := by decide +kernel
theorem dX8_noteOf_23 : decode cX8_noteOf 23 = .ok (.iadd, 1) := by decide +kernel
theorem dX8_noteOf_24 : decode cX8_noteOf 24 = .ok (.iaload, 1) := by decide +kernel
theorem dX8_noteOf_25 : decode cX8_noteOf 25 = .ok (.goto 4, 3) := by decide +kernel
theorem dX8_noteOf_28 : decode cX8_noteOf 28 = .ok (.iconst (-1), 1) := by decide +kernel
theorem dX8_noteOf_29 : decode cX8_noteOf 29 = .ok (.ireturn, 1) := by decide +kernel
theorem dX8_note_0 : decode cX8_note 0 = .ok (.aload_n 0, 1) := by decide +kernel
theorem dX8_note_1 : decode cX8_note 1 = .ok (.iload_n 1, 1) := by decide +kernel
theorem dX8_note_2 : decode cX8_note 2 = .ok (.invokevirtual 172, 3) := by decide +kernel
theorem dX8_note_5 : decode cX8_note 5 = .ok (.ifCond .eq 22, 3) := by decide +kernel
theorem dX8_note_8 : decode cX8_note 8 = .ok (.iload_n 2, 1) := by decide +kernel
theorem dX8_note_9 : decode cX8_note 9 = .ok (.iconst 0, 1) := by decide +kernel
theorem dX8_note_10 : decode cX8_note 10 = .ok (.bipush 11, 2) := by decide +kernel
theorem dX8_note_12 : decode cX8_note 12 = .ok (.invokestatic 125, 3) := by decide +kernel
theorem dX8_note_15 : decode cX8_note 15 = .ok (.ifCond .eq 12, 3) := by decide +kernel
theorem dX8_note_18 : decode cX8_note 18 = .ok (.aload_n 0, 1) := by decide +kernel
theorem dX8_note_19 : decode cX8_note 19 = .ok (.iload_n 1, 1) := by decide +kernel
theorem dX8_note_20 : decode cX8_note 20 = .ok (.iload_n 2, 1) := by decide +kernel
theorem dX8_note_21 : decode cX8_note 21 = .ok (.invokevirtual 255, 3) := by decide +kernel
theorem dX8_note_24 : decode cX8_note 24 = .ok (.goto 5, 3) := by decide +kernel
theorem dX8_note_27 : decode cX8_note 27 = .ok (.bipush (-2), 2) := by decide +kernel
theorem dX8_note_29 : decode cX8_note 29 = .ok (.ireturn, 1) := by decide +kernel
theorem dX8_comesOf_0 : decode cX8_comesOf 0 = .ok (.aload_n 0, 1) := by decide +kernel
theorem dX8_comesOf_1 : decode cX8_comesOf 1 = .ok (.invokevirtual 248, 3) := by decide +kernel
theorem dX8_comesOf_4 : decode cX8_comesOf 4 = .ok (.aload_n 0, 1) := by decide +kernel
theorem dX8_comesOf_5 : decode cX8_comesOf 5 = .ok (.getfield 62, 3) := by decide +kernel
theorem dX8_comesOf_8 : decode cX8_comesOf 8 = .ok (.iload_n 1, 1) := by decide +kernel
theorem dX8_comesOf_9 : decode cX8_comesOf 9 = .ok (.iaload, 1) := by decide +kernel
theorem dX8_comesOf_10 : decode cX8_comesOf 10 = .ok (.ireturn, 1) := by decide +kernel
theorem dX8_comes_0 : decode cX8_comes 0 = .ok (.aload_n 0, 1) := by decide +kernel
theorem dX8_comes_1 : decode cX8_comes 1 = .ok (.iload_n 1, 1) := by decide +kernel
theorem dX8_comes_2 : decode cX8_comes 2 = .ok (.invokevirtual 172, 3) := by decide +kernel
theorem dX8_comes_5 : decode cX8_comes 5 = .ok (.ifCond .eq 11, 3) := by decide +kernel
theorem dX8_comes_8 : decode cX8_comes 8 = .ok (.aload_n 0, 1) := by decide +kernel
theorem dX8_comes_9 : decode cX8_comes 9 = .ok (.iload_n 1, 1) := by decide +kernel
theorem dX8_comes_10 : decode cX8_comes 10 = .ok (.invokevirtual 258, 3) := by decide +kernel
theorem dX8_comes_13 : decode cX8_comes 13 = .ok (.goto 5, 3) := by decide +kernel
theorem dX8_comes_16 : decode cX8_comes 16 = .ok (.bipush (-2), 2) := by decide +kernel
theorem dX8_comes_18 : decode cX8_comes 18 = .ok (.ireturn, 1) := by decide +kernel
theorem dX8_bitesOf_0 : decode cX8_bitesOf 0 = .ok (.aload_n 0, 1) := by decide +kernel
theorem dX8_bitesOf_1 : decode cX8_bitesOf 1 = .ok (.invokevirtual 248, 3) := by decide +kernel
theorem dX8_bitesOf_4 : decode cX8_bitesOf 4 = .ok (.iload_n 2, 1) := by decide +kernel
theorem dX8_bitesOf_5 : decode cX8_bitesOf 5 = .ok (.ifCond .ne 12, 3) := by decide +kernel
theorem dX8_bitesOf_8 : decode cX8_bitesOf 8 = .ok (.aload_n 0, 1) := by decide +kernel
theorem dX8_bitesOf_9 : decode cX8_bitesOf 9 = .ok (.getfield 68, 3) := by decide +kernel
theorem dX8_bitesOf_12 : decode cX8_bitesOf 12 = .ok (.iload_n 1, 1) := by decide +kernel
theorem dX8_bitesOf_13 : decode cX8_bitesOf 13 = .ok (.iaload, 1) := by decide +kernel
theorem dX8_bitesOf_14 : decode cX8_bitesOf 14 = .ok (.goto 9, 3) := by decide +kernel
theorem dX8_bitesOf_17 : decode cX8_bitesOf 17 = .ok (.aload_n 0, 1) := by decide +kernel
theorem dX8_bitesOf_18 : decode cX8_bitesOf 18 = .ok (.getfield 71, 3) := by decide +kernel
theorem dX8_bitesOf_21 : decode cX8_bitesOf 21 = .ok (.iload_n 1, 1) := by decide +kernel
theorem dX8_bitesOf_22 : decode cX8_bitesOf 22 = .ok (.iaload, 1) := by decide +kernel
theorem dX8_bitesOf_23 : decode cX8_bitesOf 23 = .ok (.ireturn, 1) := by decide +kernel
theorem dX8_bites_0 : decode cX8_bites 0 = .ok (.aload_n 0, 1) := by decide +kernel
theorem dX8_bites_1 : decode cX8_bites 1 = .ok (.iload_n 1, 1) := by decide +kernel
theorem dX8_bites_2 : decode cX8_bites 2 = .ok (.invokevirtual 166, 3) := by decide +kernel
theorem dX8_bites_5 : decode cX8_bites 5 = .ok (.ifCond .eq 21, 3) := by decide +kernel
theorem dX8_bites_8 : decode cX8_bites 8 = .ok (.iload_n 2, 1) := by decide +kernel
theorem dX8_bites_9 : decode cX8_bites 9 = .ok (.iconst 0, 1) := by decide +kernel
theorem dX8_bites_10 : decode cX8_bites 10 = .ok (.iconst 1, 1) := by decide +kernel
theorem dX8_bites_11 : decode cX8_bites 11 = .ok (.invokestatic 125, 3) := by decide +kernel
theorem dX8_bites_14 : decode cX8_bites 14 = .ok (.ifCond .eq 12, 3) := by decide +kernel
theorem dX8_bites_17 : decode cX8_bites 17 = .ok (.aload_n 0, 1) := by decide +kernel
theorem dX8_bites_18 : decode cX8_bites 18 = .ok (.iload_n 1, 1) := by decide +kernel
theorem dX8_bites_19 : decode cX8_bites 19 = .ok (.iload_n 2, 1) := by decide +kernel
theorem dX8_bites_20 : decode cX8_bites 20 = .ok (.invokevirtual 261, 3) := by decide +kernel
theorem dX8_bites_23 : decode cX8_bites 23 = .ok (.goto 5, 3) := by decide +kernel
theorem dX8_bites_26 : decode cX8_bites 26 = .ok (.bipush (-2), 2) := by decide +kernel
theorem dX8_bites_28 : decode cX8_bites 28 = .ok (.ireturn, 1) := by decide +kernel
theorem dX8_upMuch_0 : decode cX8_upMuch 0 = .ok (.iconst 0, 1) := by decide +kernel
theorem dX8_upMuch_1 : decode cX8_upMuch 1 = .ok (.istore_n 1, 1) := by decide +kernel
theorem dX8_upMuch_2 : decode cX8_upMuch 2 = .ok (.iconst 0, 1) := by decide +kernel
theorem dX8_upMuch_3 : decode cX8_upMuch 3 = .ok (.istore_n 2, 1) := by decide +kernel
theorem dX8_upMuch_4 : decode cX8_upMuch 4 = .ok (.iload_n 2, 1) := by decide +kernel
theorem dX8_upMuch_5 : decode cX8_upMuch 5 = .ok (.aload_n 0, 1) := by decide +kernel
theorem dX8_upMuch_6 : decode cX8_upMuch 6 = .ok (.getfield 147, 3) := by decide +kernel
theorem dX8_upMuch_9 : decode cX8_upMuch 9 = .ok (.if_icmp .ge 32, 3) := by decide +kernel
theorem dX8_upMuch_12 : decode cX8_upMuch 12 = .ok (.iload_n 1, 1) := by decide +kernel
theorem dX8_upMuch_13 : decode cX8_upMuch 13 = .ok (.aload_n 0, 1) := by decide +kernel
theorem dX8_upMuch_14 : decode cX8_upMuch 14 = .ok (.getfield 62, 3) := by decide +kernel
theorem dX8_upMuch_17 : decode cX8_upMuch 17 = .ok (.iload_n 2, 1) := by decide +kernel
theorem dX8_upMuch_18 : decode cX8_upMuch 18 = .ok (.iaload, 1) := by decide +kernel
theorem dX8_upMuch_19 : decode cX8_upMuch 19 = .ok (.iconst (-1), 1) := by decide +kernel
theorem dX8_upMuch_20 : decode cX8_upMuch 20 = .ok (.if_icmp .ne 7, 3) := by decide +kernel
theorem dX8_upMuch_23 : decode cX8_upMuch 23 = .ok (.iconst 0, 1) := by decide +kernel
theorem dX8_upMuch_24 : decode cX8_upMuch 24 = .ok (.goto 9, 3) := by decide +kernel
theorem dX8_upMuch_27 : decode cX8_upMuch 27 = .ok (.aload_n 0, 1) := by decide +kernel
theorem dX8_upMuch_28 : decode cX8_upMuch 28 = .ok (.getfield 46, 3) := by decide +kernel
theorem dX8_upMuch_31 : decode cX8_upMuch 31 = .ok (.iload_n 2, 1) := by decide +kernel
theorem dX8_upMuch_32 : decode cX8_upMuch 32 = .ok (.iaload, 1) := by decide +kernel
theorem dX8_upMuch_33 : decode cX8_upMuch 33 = .ok (.iadd, 1) := by decide +kernel
theorem dX8_upMuch_34 : decode cX8_upMuch 34 = .ok (.istore_n 1, 1) := by decide +kernel
theorem dX8_upMuch_35 : decode cX8_upMuch 35 = .ok (.iinc 2 1, 3) := by decide +kernel
theorem dX8_upMuch_38 : decode cX8_upMuch 38 = .ok (.goto (-34), 3) := by decide +kernel
theorem dX8_upMuch_41 : decode cX8_upMuch 41 = .ok (.iload_n 1, 1) := by decide +kernel
theorem dX8_upMuch_42 : decode cX8_upMuch 42 = .ok (.ireturn, 1) := by decide +kernel
theorem dX8_famineNow_0 : decode cX8_famineNow 0 = .ok (.aload_n 0, 1) := by decide +kernel
theorem dX8_famineNow_1 : decode cX8_famineNow 1 = .ok (.invokevirtual 248, 3) := by decide +kernel
theorem dX8_famineNow_4 : decode cX8_famineNow 4 = .ok (.iconst 0, 1) := by decide +kernel
theorem dX8_famineNow_5 : decode cX8_famineNow 5 = .ok (.istore_n 1, 1) := by decide +kernel
theorem dX8_famineNow_6 : decode cX8_famineNow 6 = .ok (.iconst 0, 1) := by decide +kernel
theorem dX8_famineNow_7 : decode cX8_famineNow 7 = .ok (.istore_n 2, 1) := by decide +kernel
theorem dX8_famineNow_8 : decode cX8_famineNow 8 = .ok (.iload_n 2, 1) := by decide +kernel
theorem dX8_famineNow_9 : decode cX8_famineNow 9 = .ok (.aload_n 0, 1) := by decide +kernel
theorem dX8_famineNow_10 : decode cX8_famineNow 10 = .ok (.getfield 147, 3) := by decide +kernel
theorem dX8_famineNow_13 : decode cX8_famineNow 13 = .ok (.if_icmp .ge 18, 3) := by decide +kernel
theorem dX8_famineNow_16 : decode cX8_famineNow 16 = .ok (.iload_n 1, 1) := by decide +kernel
theorem dX8_famineNow_17 : decode cX8_famineNow 17 = .ok (.aload_n 0, 1) := by decide +kernel
theorem dX8_famineNow_18 : decode cX8_famineNow 18 = .ok (.getfield 28, 3) := by decide +kernel
theorem dX8_famineNow_21 : decode cX8_famineNow 21 = .ok (.iload_n 2, 1) := by decide +kernel
theorem dX8_famineNow_22 : decode cX8_famineNow 22 = .ok (.iaload, 1) := by decide +kernel
theorem dX8_famineNow_23 : decode cX8_famineNow 23 = .ok (.iadd, 1) := by decide +kernel
theorem dX8_famineNow_24 : decode cX8_famineNow 24 = .ok (.istore_n 1, 1) := by decide +kernel
theorem dX8_famineNow_25 : decode cX8_famineNow 25 = .ok (.iinc 2 1, 3) := by decide +kernel
theorem dX8_famineNow_28 : decode cX8_famineNow 28 = .ok (.goto (-20), 3) := by decide +kernel
theorem dX8_famineNow_31 : decode cX8_famineNow 31 = .ok (.iload_n 1, 1) := by decide +kernel
theorem dX8_famineNow_32 : decode cX8_famineNow 32 = .ok (.aload_n 0, 1) := by decide +kernel
theorem dX8_famineNow_33 : decode cX8_famineNow 33 = .ok (.invokevirtual 264, 3) := by decide +kernel
theorem dX8_famineNow_36 : decode cX8_famineNow 36 = .ok (.isub, 1) := by decide +kernel
theorem dX8_famineNow_37 : decode cX8_famineNow 37 = .ok (.ireturn, 1) := by decide +kernel
theorem dX8_famine_0 : decode cX8_famine 0 = .ok (.aload_n 0, 1) := by decide +kernel
theorem dX8_famine_1 : decode cX8_famine 1 = .ok (.invokevirtual 268, 3) := by decide +kernel
theorem dX8_famine_4 : decode cX8_famine 4 = .ok (.ireturn, 1) := by decide +kernel
theorem dX8_firstOf_0 : decode cX8_firstOf 0 = .ok (.aload_n 0, 1) := by decide +kernel
theorem dX8_firstOf_1 : decode cX8_firstOf 1 = .ok (.invokevirtual 248, 3) := by decide +kernel
theorem dX8_firstOf_4 : decode cX8_firstOf 4 = .ok (.iload_n 1, 1) := by decide +kernel
theorem dX8_firstOf_5 : decode cX8_firstOf 5 = .ok (.ifCond .ne 10, 3) := by decide +kernel
theorem dX8_firstOf_8 : decode cX8_firstOf 8 = .ok (.aload_n 0, 1) := by decide +kernel
theorem dX8_firstOf_9 : decode cX8_firstOf 9 = .ok (.getfield 218, 3) := by decide +kernel
theorem dX8_firstOf_12 : decode cX8_firstOf 12 = .ok (.goto 7, 3) := by decide +kernel
theorem dX8_firstOf_15 : decode cX8_firstOf 15 = .ok (.aload_n 0, 1) := by decide +kernel
theorem dX8_firstOf_16 : decode cX8_firstOf 16 = .ok (.getfield 221, 3) := by decide +kernel
theorem dX8_firstOf_19 : decode cX8_firstOf 19 = .ok (.ireturn, 1) := by decide +kernel
theorem dX8_first_0 : decode cX8_first 0 = .ok (.iload_n 1, 1) := by decide +kernel
theorem dX8_first_1 : decode cX8_first 1 = .ok (.iconst 0, 1) := by decide +kernel
theorem dX8_first_2 : decode cX8_first 2 = .ok (.iconst 1, 1) := by decide +kernel
theorem dX8_first_3 : decode cX8_first 3 = .ok (.invokestatic 125, 3) := by decide +kernel
theorem dX8_first_6 : decode cX8_first 6 = .ok (.ifCond .eq 11, 3) := by decide +kernel
theorem dX8_first_9 : decode cX8_first 9 = .ok (.aload_n 0, 1) := by decide +kernel
theorem dX8_first_10 : decode cX8_first 10 = .ok (.iload_n 1, 1) := by decide +kernel
theorem dX8_first_11 : decode cX8_first 11 = .ok (.invokevirtual 271, 3) := by decide +kernel
theorem dX8_first_14 : decode cX8_first 14 = .ok (.goto 5, 3) := by decide +kernel
theorem dX8_first_17 : decode cX8_first 17 = .ok (.bipush (-2), 2) := by decide +kernel
theorem dX8_first_19 : decode cX8_first 19 = .ok (.ireturn, 1) := by decide +kernel
theorem dX8_greedyNow_0 : decode cX8_greedyNow 0 = .ok (.aload_n 0, 1) := by decide +kernel
theorem dX8_greedyNow_1 : decode cX8_greedyNow 1 = .ok (.invokevirtual 248, 3) := by decide +kernel
theorem dX8_greedyNow_4 : decode cX8_greedyNow 4 = .ok (.iconst (-1), 1) := by decide +kernel
theorem dX8_greedyNow_5 : decode cX8_greedyNow 5 = .ok (.istore_n 1, 1) := by decide +kernel
theorem dX8_greedyNow_6 : decode cX8_greedyNow 6 = .ok (.iconst 0, 1) := by decide +kernel
theorem dX8_greedyNow_7 : decode cX8_greedyNow 7 = .ok (.istore_n 2, 1) := by decide +kernel
theorem dX8_greedyNow_8 : decode cX8_greedyNow 8 = .ok (.iload_n 2, 1) := by decide +kernel
theorem dX8_greedyNow_9 : decode cX8_greedyNow 9 = .ok (.aload_n 0, 1) := by decide +kernel
theorem dX8_greedyNow_10 : decode cX8_greedyNow 10 = .ok (.getfield 144, 3) := by decide +kernel
theorem dX8_greedyNow_13 : decode cX8_greedyNow 13 = .ok (.if_icmp .ge 35, 3) := by decide +kernel
theorem dX8_greedyNow_16 : decode cX8_greedyNow 16 = .ok (.iload_n 1, 1) := by decide +kernel
theorem dX8_greedyNow_17 : decode cX8_greedyNow 17 = .ok (.iconst (-1), 1) := by decide +kernel
theorem dX8_greedyNow_18 : decode cX8_greedyNow 18 = .ok (.if_icmp .eq 18, 3) := by decide +kernel
theorem dX8_greedyNow_21 : decode cX8_greedyNow 21 = .ok (.aload_n 0, 1) := by decide +kernel
theorem dX8_greedyNow_22 : decode cX8_greedyNow 22 = .ok (.getfield 71, 3) := by decide +kernel
theorem dX8_greedyNow_25 : decode cX8_greedyNow 25 = .ok (.iload_n 2, 1) := by decide +kernel
theorem dX8_greedyNow_26 : decode cX8_greedyNow 26 = .ok (.iaload, 1) := by decide +kernel
theorem dX8_greedyNow_27 : decode cX8_greedyNow 27 = .ok (.aload_n 0, 1) := by decide +kernel
theorem dX8_greedyNow_28 : decode cX8_greedyNow 28 = .ok (.getfield 71, 3) := by decide +kernel
theorem dX8_greedyNow_31 : decode cX8_greedyNow 31 = .ok (.iload_n 1, 1) := by decide +kernel
theorem dX8_greedyNow_32 : decode cX8_greedyNow 32 = .ok (.iaload, 1) := by decide +kernel
theorem dX8_greedyNow_33 : decode cX8_greedyNow 33 = .ok (.if_icmp .le 7, 3) := by decide +kernel
theorem dX8_greedyNow_36 : decode cX8_greedyNow 36 = .ok (.iload_n 2, 1) := by decide +kernel
theorem dX8_greedyNow_37 : decode cX8_greedyNow 37 = .ok (.goto 4, 3) := by decide +kernel
theorem dX8_greedyNow_40 : decode cX8_greedyNow 40 = .ok (.iload_n 1, 1) := by decide +kernel
theorem dX8_greedyNow_41 : decode cX8_greedyNow 41 = .ok (.istore_n 1, 1) := by decide +kernel
theorem dX8_greedyNow_42 : decode cX8_greedyNow 42 = .ok (.iinc 2 1, 3) := by decide +kernel
theorem dX8_greedyNow_45 : decode cX8_greedyNow 45 = .ok (.goto (-37), 3) := by decide +kernel
theorem dX8_greedyNow_48 : decode cX8_greedyNow 48 = .ok (.iload_n 1, 1) := by decide +kernel
theorem dX8_greedyNow_49 : decode cX8_greedyNow 49 = .ok (.ireturn, 1) := by decide +kernel
theorem dX8_greedy_0 : decode cX8_greedy 0 = .ok (.aload_n 0, 1) := by decide +kernel
theorem dX8_greedy_1 : decode cX8_greedy 1 = .ok (.invokevirtual 274, 3) := by decide +kernel
theorem dX8_greedy_4 : decode cX8_greedy 4 = .ok (.ireturn, 1) := by decide +kernel
theorem dX8_sendOf_0 : decode cX8_sendOf 0 = .ok (.aload_n 0, 1) := by decide +kernel
theorem dX8_sendOf_1 : decode cX8_sendOf 1 = .ok (.invokevirtual 242, 3) := by decide +kernel
theorem dX8_sendOf_4 : decode cX8_sendOf 4 = .ok (.aload_n 0, 1) := by decide +kernel
theorem dX8_sendOf_5 : decode cX8_sendOf 5 = .ok (.getfield 25, 3) := by decide +kernel
theorem dX8_sendOf_8 : decode cX8_sendOf 8 = .ok (.iload_n 1, 1) := by decide +kernel
theorem dX8_sendOf_9 : decode cX8_sendOf 9 = .ok (.iaload, 1) := by decide +kernel
theorem dX8_sendOf_10 : decode cX8_sendOf 10 = .ok (.istore_n 3, 1) := by decide +kernel
theorem dX8_sendOf_11 : decode cX8_sendOf 11 = .ok (.iconst (-1), 1) := by decide +kernel
theorem dX8_sendOf_12 : decode cX8_sendOf 12 = .ok (.istore 4, 2) := by decide +kernel
theorem dX8_sendOf_14 : decode cX8_sendOf 14 = .ok (.iconst (-1), 1) := by decide +kernel
theorem dX8_sendOf_15 : decode cX8_sendOf 15 = .ok (.istore 5, 2) := by decide +kernel
theorem dX8_sendOf_17 : decode cX8_sendOf 17 = .ok (.iconst 0, 1) := by decide +kernel
theorem dX8_sendOf_18 : decode cX8_sendOf 18 = .ok (.istore 6, 2) := by decide +kernel
theorem dX8_sendOf_20 : decode cX8_sendOf 20 = .ok (.iload 6, 2) := by decide +kernel
theorem dX8_sendOf_22 : decode cX8_sendOf 22 = .ok (.bipush 30, 2) := by decide +kernel
theorem dX8_sendOf_24 : decode cX8_sendOf 24 = .ok (.if_icmp .ge 59, 3) := by decide +kernel
theorem dX8_sendOf_27 : decode cX8_sendOf 27 = .ok (.aload_n 0, 1) := by decide +kernel
theorem dX8_sendOf_28 : decode cX8_sendOf 28 = .ok (.getfield 25, 3) := by decide +kernel
theorem dX8_sendOf_31 : decode cX8_sendOf 31 = .ok (.iload_n 1, 1) := by decide +kernel
theorem dX8_sendOf_32 : decode cX8_sendOf 32 = .ok (.iload 6, 2) := by decide +kernel
theorem dX8_sendOf_34 : decode cX8_sendOf 34 = .ok (.iastore, 1) := by decide +kernel
theorem dX8_sendOf_35 : decode cX8_sendOf 35 = .ok (.aload_n 0, 1) := by decide +kernel
theorem dX8_sendOf_36 : decode cX8_sendOf 36 = .ok (.invokevirtual 245, 3) := by decide +kernel
theorem dX8_sendOf_39 : decode cX8_sendOf 39 = .ok (.aload_n 0, 1) := by decide +kernel
theorem dX8_sendOf_40 : decode cX8_sendOf 40 = .ok (.invokevirtual 264, 3) := by decide +kernel
theorem dX8_sendOf_43 : decode cX8_sendOf 43 = .ok (.istore 7, 2) := by decide +kernel
theorem dX8_sendOf_45 : decode cX8_sendOf 45 = .ok (.iload 7, 2) := by decide +kernel
theorem dX8_sendOf_47 : decode cX8_sendOf 47 = .ok (.iload 5, 2) := by decide +kernel
theorem dX8_sendOf_49 : decode cX8_sendOf 49 = .ok (.if_icmp .le 8, 3) := by decide +kernel
theorem dX8_sendOf_52 : decode cX8_sendOf 52 = .ok (.iload 6, 2) := by decide +kernel
theorem dX8_sendOf_54 : decode cX8_sendOf 54 = .ok (.goto 5, 3) := by decide +kernel
theorem dX8_sendOf_57 : decode cX8_sendOf 57 = .ok (.iload 4, 2) := by decide +kernel
theorem dX8_sendOf_59 : decode cX8_sendOf 59 = .ok (.istore 4, 2) := by decide +kernel
theorem dX8_sendOf_61 : decode cX8_sendOf 61 = .ok (.iload 7, 2) := by decide +kernel
theorem dX8_sendOf_63 : decode cX8_sendOf 63 = .ok (.iload 5, 2) := by decide +kernel
theorem dX8_sendOf_65 : decode cX8_sendOf 65 = .ok (.if_icmp .le 8, 3) := by decide +kernel
theorem dX8_sendOf_68 : decode cX8_sendOf 68 = .ok (.iload 7, 2) := by decide +kernel
theorem dX8_sendOf_70 : decode cX8_sendOf 70 = .ok (.goto 5, 3) := by decide +kernel
theorem dX8_sendOf_73 : decode cX8_sendOf 73 = .ok (.iload 5, 2) := by decide +kernel
theorem dX8_sendOf_75 : decode cX8_sendOf 75 = .ok (.istore 5, 2) := by decide +kernel
theorem dX8_sendOf_77 : decode cX8_sendOf 77 = .ok (.iinc 6 1, 3) := by decide +kernel
theorem dX8_sendOf_80 : decode cX8_sendOf 80 = .ok (.goto (-60), 3) := by decide +kernel
theorem dX8_sendOf_83 : decode cX8_sendOf 83 = .ok (.aload_n 0, 1) := by decide +kernel
theorem dX8_sendOf_84 : decode cX8_sendOf 84 = .ok (.getfield 25, 3) := by decide +kernel
theorem dX8_sendOf_87 : decode cX8_sendOf 87 = .ok (.iload_n 1, 1) := by decide +kernel
theorem dX8_sendOf_88 : decode cX8_sendOf 88 = .ok (.iload_n 3, 1) := by decide +kernel
theorem dX8_sendOf_89 : decode cX8_sendOf 89 = .ok (.iastore, 1) := by decide +kernel
theorem dX8_sendOf_90 : decode cX8_sendOf 90 = .ok (.iload_n 2, 1) := by decide +kernel
theorem dX8_sendOf_91 : decode cX8_sendOf 91 = .ok (.ifCond .ne 8, 3) := by decide +kernel
theorem dX8_sendOf_94 : decode cX8_sendOf 94 = .ok (.iload 4, 2) := by decide +kernel
theorem dX8_sendOf_96 : decode cX8_sendOf 96 = .ok (.goto 5, 3) := by decide +kernel
theorem dX8_sendOf_99 : decode cX8_sendOf 99 = .ok (.iload 5, 2) := by decide +kernel
theorem dX8_sendOf_101 : decode cX8_sendOf 101 = .ok (.ireturn, 1) := by decide +kernel
theorem dX8_send_0 : decode cX8_send 0 = .ok (.aload_n 0, 1) := by decide +kernel
theorem dX8_send_1 : decode cX8_send 1 = .ok (.iload_n 1, 1) := by decide +kernel
theorem dX8_send_2 : decode cX8_send 2 = .ok (.invokevirtual 172, 3) := by decide +kernel
theorem dX8_send_5 : decode cX8_send 5 = .ok (.ifCond .eq 21, 3) := by decide +kernel
theorem dX8_send_8 : decode cX8_send 8 = .ok (.iload_n 2, 1) := by decide +kernel
theorem dX8_send_9 : decode cX8_send 9 = .ok (.iconst 0, 1) := by decide +kernel
theorem dX8_send_10 : decode cX8_send 10 = .ok (.iconst 1, 1) := by decide +kernel
theorem dX8_send_11 : decode cX8_send 11 = .ok (.invokestatic 125, 3) := by decide +kernel
theorem dX8_send_14 : decode cX8_send 14 = .ok (.ifCond .eq 12, 3) := by decide +kernel
theorem dX8_send_17 : decode cX8_send 17 = .ok (.aload_n 0, 1) := by decide +kernel
theorem dX8_send_18 : decode cX8_send 18 = .ok (.iload_n 1, 1) := by decide +kernel
theorem dX8_send_19 : decode cX8_send 19 = .ok (.iload_n 2, 1) := by decide +kernel
theorem dX8_send_20 : decode cX8_send 20 = .ok (.invokevirtual 277, 3) := by decide +kernel
theorem dX8_send_23 : decode cX8_send 23 = .ok (.goto 5, 3) := by decide +kernel
theorem dX8_send_26 : decode cX8_send 26 = .ok (.bipush (-2), 2) := by decide +kernel
theorem dX8_send_28 : decode cX8_send 28 = .ok (.ireturn, 1) := by decide +kernel
theorem dX8_loafOf_0 : decode cX8_loafOf 0 = .ok (.aload_n 0, 1) := by decide +kernel
theorem dX8_loafOf_1 : decode cX8_loafOf 1 = .ok (.invokevirtual 242, 3) := by decide +kernel
theorem dX8_loafOf_4 : decode cX8_loafOf 4 = .ok (.aload_n 0, 1) := by decide +kernel
theorem dX8_loafOf_5 : decode cX8_loafOf 5 = .ok (.getfield 28, 3) := by decide +kernel
theorem dX8_loafOf_8 : decode cX8_loafOf 8 = .ok (.iload_n 1, 1) := by decide +kernel
theorem dX8_loafOf_9 : decode cX8_loafOf 9 = .ok (.iaload, 1) := by decide +kernel
theorem dX8_loafOf_10 : decode cX8_loafOf 10 = .ok (.istore_n 3, 1) := by decide +kernel
theorem dX8_loafOf_11 : decode cX8_loafOf 11 = .ok (.iconst (-1), 1) := by decide +kernel
theorem dX8_loafOf_12 : decode cX8_loafOf 12 = .ok (.istore 4, 2) := by decide +kernel
theorem dX8_loafOf_14 : decode cX8_loafOf 14 = .ok (.iconst 0, 1) := by decide +kernel
theorem dX8_loafOf_15 : decode cX8_loafOf 15 = .ok (.istore 5, 2) := by decide +kernel
theorem dX8_loafOf_17 : decode cX8_loafOf 17 = .ok (.iload 5, 2) := by decide +kernel
theorem dX8_loafOf_19 : decode cX8_loafOf 19 = .ok (.bipush 100, 2) := by decide +kernel
theorem dX8_loafOf_21 : decode cX8_loafOf 21 = .ok (.if_icmp .ge 55, 3) := by decide +kernel
theorem dX8_loafOf_24 : decode cX8_loafOf 24 = .ok (.iload 4, 2) := by decide +kernel
theorem dX8_loafOf_26 : decode cX8_loafOf 26 = .ok (.iconst (-1), 1) := by decide +kernel
theorem dX8_loafOf_27 : decode cX8_loafOf 27 = .ok (.if_icmp .ne 49, 3) := by decide +kernel
theorem dX8_loafOf_30 : decode cX8_loafOf 30 = .ok (.aload_n 0, 1) := by decide +kernel
theorem dX8_loafOf_31 : decode cX8_loafOf 31 = .ok (.getfield 28, 3) := by decide +kernel
theorem dX8_loafOf_34 : decode cX8_loafOf 34 = .ok (.iload_n 1, 1) := by decide +kernel
theorem dX8_loafOf_35 : decode cX8_loafOf 35 = .ok (.iload 5, 2) := by decide +kernel
theorem dX8_loafOf_37 : decode cX8_loafOf 37 = .ok (.iastore, 1) := by decide +kernel
theorem dX8_loafOf_38 : decode cX8_loafOf 38 = .ok (.aload_n 0, 1) := by decide +kernel
theorem dX8_loafOf_39 : decode cX8_loafOf 39 = .ok (.invokevirtual 245, 3) := by decide +kernel
theorem dX8_loafOf_42 : decode cX8_loafOf 42 = .ok (.aload_n 0, 1) := by decide +kernel
theorem dX8_loafOf_43 : decode cX8_loafOf 43 = .ok (.getfield 62, 3) := by decide +kernel
theorem dX8_loafOf_46 : decode cX8_loafOf 46 = .ok (.iload_n 1, 1) := by decide +kernel
theorem dX8_loafOf_47 : decode cX8_loafOf 47 = .ok (.iaload, 1) := by decide +kernel
theorem dX8_loafOf_48 : decode cX8_loafOf 48 = .ok (.iconst (-1), 1) := by decide +kernel
theorem dX8_loafOf_49 : decode cX8_loafOf 49 = .ok (.if_icmp .eq 18, 3) := by decide +kernel
theorem dX8_loafOf_52 : decode cX8_loafOf 52 = .ok (.aload_n 0, 1) := by decide +kernel
theorem dX8_loafOf_53 : decode cX8_loafOf 53 = .ok (.getfield 46, 3) := by decide +kernel
theorem dX8_loafOf_56 : decode cX8_loafOf 56 = .ok (.iload_n 1, 1) := by decide +kernel
theorem dX8_loafOf_57 : decode cX8_loafOf 57 = .ok (.iaload, 1) := by decide +kernel
theorem dX8_loafOf_58 : decode cX8_loafOf 58 = .ok (.iload_n 2, 1) := by decide +kernel
theorem dX8_loafOf_59 : decode cX8_loafOf 59 = .ok (.if_icmp .lt 8, 3) := by decide +kernel
theorem dX8_loafOf_62 : decode cX8_loafOf 62 = .ok (.iload 5, 2) := by decide +kernel
theorem dX8_loafOf_64 : decode cX8_loafOf 64 = .ok (.goto 4, 3) := by decide +kernel
theorem dX8_loafOf_67 : decode cX8_loafOf 67 = .ok (.iconst (-1), 1) := by decide +kernel
theorem dX8_loafOf_68 : decode cX8_loafOf 68 = .ok (.istore 4, 2) := by decide +kernel
theorem dX8_loafOf_70 : decode cX8_loafOf 70 = .ok (.iinc 5 1, 3) := by decide +kernel
theorem dX8_loafOf_73 : decode cX8_loafOf 73 = .ok (.goto (-56), 3) := by decide +kernel
theorem dX8_loafOf_76 : decode cX8_loafOf 76 = .ok (.aload_n 0, 1) := by decide +kernel
theorem dX8_loafOf_77 : decode cX8_loafOf 77 = .ok (.getfield 28, 3) := by decide +kernel
theorem dX8_loafOf_80 : decode cX8_loafOf 80 = .ok (.iload_n 1, 1) := by decide +kernel
theorem dX8_loafOf_81 : decode cX8_loafOf 81 = .ok (.iload_n 3, 1) := by decide +kernel
theorem dX8_loafOf_82 : decode cX8_loafOf 82 = .ok (.iastore, 1) := by decide +kernel
theorem dX8_loafOf_83 : decode cX8_loafOf 83 = .ok (.iload 4, 2) := by decide +kernel
theorem dX8_loafOf_85 : decode cX8_loafOf 85 = .ok (.ireturn, 1) := by decide +kernel
theorem dX8_loaf_0 : decode cX8_loaf 0 = .ok (.aload_n 0, 1) := by decide +kernel
theorem dX8_loaf_1 : decode cX8_loaf 1 = .ok (.iload_n 1, 1) := by decide +kernel
theorem dX8_loaf_2 : decode cX8_loaf 2 = .ok (.invokevirtual 172, 3) := by decide +kernel
theorem dX8_loaf_5 : decode cX8_loaf 5 = .ok (.ifCond .eq 22, 3) := by decide +kernel
theorem dX8_loaf_8 : decode cX8_loaf 8 = .ok (.iload_n 2, 1) := by decide +kernel
theorem dX8_loaf_9 : decode cX8_loaf 9 = .ok (.iconst 0, 1) := by decide +kernel
theorem dX8_loaf_10 : decode cX8_loaf 10 = .ok (.bipush 99, 2) := by decide +kernel
theorem dX8_loaf_12 : decode cX8_loaf 12 = .ok (.invokestatic 125, 3) := by decide +kernel
theorem dX8_loaf_15 : decode cX8_loaf 15 = .ok (.ifCond .eq 12, 3) := by decide +kernel
theorem dX8_loaf_18 : decode cX8_loaf 18 = .ok (.aload_n 0, 1) := by decide +kernel
theorem dX8_loaf_19 : decode cX8_loaf 19 = .ok (.iload_n 1, 1) := by decide +kernel
theorem dX8_loaf_20 : decode cX8_loaf 20 = .ok (.iload_n 2, 1) := by decide +kernel
theorem dX8_loaf_21 : decode cX8_loaf 21 = .ok (.invokevirtual 280, 3) := by decide +kernel
theorem dX8_loaf_24 : decode cX8_loaf 24 = .ok (.goto 5, 3) := by decide +kernel
theorem dX8_loaf_27 : decode cX8_loaf 27 = .ok (.bipush (-2), 2) := by decide +kernel
theorem dX8_loaf_29 : decode cX8_loaf 29 = .ok (.ireturn, 1) := by decide +kernel
theorem dX8_isKept_0 : decode cX8_isKept 0 = .ok (.aload_n 0, 1) := by decide +kernel
theorem dX8_isKept_1 : decode cX8_isKept 1 = .ok (.iload_n 2, 1) := by decide +kernel
theorem dX8_isKept_2 : decode cX8_isKept 2 = .ok (.putfield 215, 3) := by decide +kernel
theorem dX8_isKept_5 : decode cX8_isKept 5 = .ok (.aload_n 0, 1) := by decide +kernel
theorem dX8_isKept_6 : decode cX8_isKept 6 = .ok (.invokevirtual 245, 3) := by decide +kernel
theorem dX8_isKept_9 : decode cX8_isKept 9 = .ok (.aload_n 0, 1) := by decide +kernel
theorem dX8_isKept_10 : decode cX8_isKept 10 = .ok (.getfield 62, 3) := by decide +kernel
theorem dX8_isKept_13 : decode cX8_isKept 13 = .ok (.iload_n 1, 1) := by decide +kernel
theorem dX8_isKept_14 : decode cX8_isKept 14 = .ok (.iaload, 1) := by decide +kernel
theorem dX8_isKept_15 : decode cX8_isKept 15 = .ok (.iconst (-1), 1) := by decide +kernel
theorem dX8_isKept_16 : decode cX8_isKept 16 = .ok (.if_icmp .eq 22, 3) := by decide +kernel
theorem dX8_isKept_19 : decode cX8_isKept 19 = .ok (.aload_n 0, 1) := by decide +kernel
theorem dX8_isKept_20 : decode cX8_isKept 20 = .ok (.getfield 49, 3) := by decide +kernel
theorem dX8_isKept_23 : decode cX8_isKept 23 = .ok (.iload_n 1, 1) := by decide +kernel
theorem dX8_isKept_24 : decode cX8_isKept 24 = .ok (.iaload, 1) := by decide +kernel
theorem dX8_isKept_25 : decode cX8_isKept 25 = .ok (.aload_n 0, 1) := by decide +kernel
theorem dX8_isKept_26 : decode cX8_isKept 26 = .ok (.getfield 31, 3) := by decide +kernel
theorem dX8_isKept_29 : decode cX8_isKept 29 = .ok (.iload_n 1, 1) := by decide +kernel
theorem dX8_isKept_30 : decode cX8_isKept 30 = .ok (.iaload, 1) := by decide +kernel
theorem dX8_isKept_31 : decode cX8_isKept 31 = .ok (.if_icmp .ne 7, 3) := by decide +kernel
theorem dX8_isKept_34 : decode cX8_isKept 34 = .ok (.iconst 1, 1) := by decide +kernel
theorem dX8_isKept_35 : decode cX8_isKept 35 = .ok (.goto 4, 3) := by decide +kernel
theorem dX8_isKept_38 : decode cX8_isKept 38 = .ok (.iconst 0, 1) := by decide +kernel
theorem dX8_isKept_39 : decode cX8_isKept 39 = .ok (.istore_n 3, 1) := by decide +kernel
theorem dX8_isKept_40 : decode cX8_isKept 40 = .ok (.iconst 0, 1) := by decide +kernel
theorem dX8_isKept_41 : decode cX8_isKept 41 = .ok (.istore 4, 2) := by decide +kernel
theorem dX8_isKept_43 : decode cX8_isKept 43 = .ok (.iload 4, 2) := by decide +kernel
theorem dX8_isKept_45 : decode cX8_isKept 45 = .ok (.aload_n 0, 1) := by decide +kernel
theorem dX8_isKept_46 : decode cX8_isKept 46 = .ok (.getfield 31, 3) := by decide +kernel
theorem dX8_isKept_49 : decode cX8_isKept 49 = .ok (.iload_n 1, 1) := by decide +kernel
theorem dX8_isKept_50 : decode cX8_isKept 50 = .ok (.iaload, 1) := by decide +kernel
theorem dX8_isKept_51 : decode cX8_isKept 51 = .ok (.if_icmp .ge 45, 3) := by decide +kernel
theorem dX8_isKept_54 : decode cX8_isKept 54 = .ok (.iload_n 3, 1) := by decide +kernel
theorem dX8_isKept_55 : decode cX8_isKept 55 = .ok (.ifCond .eq 33, 3) := by decide +kernel
theorem dX8_isKept_58 : decode cX8_isKept 58 = .ok (.aload_n 0, 1) := by decide +kernel
theorem dX8_isKept_59 : decode cX8_isKept 59 = .ok (.getfield 52, 3) := by decide +kernel
theorem dX8_isKept_62 : decode cX8_isKept 62 = .ok (.bipush 24, 2) := by decide +kernel
theorem dX8_isKept_64 : decode cX8_isKept 64 = .ok (.iload_n 1, 1) := by decide +kernel
theorem dX8_isKept_65 : decode cX8_isKept 65 = .ok (.imul, 1) := by decide +kernel
theorem dX8_isKept_66 : decode cX8_isKept 66 = .ok (.iload 4, 2) := by decide +kernel
theorem dX8_isKept_68 : decode cX8_isKept 68 = .ok (.iadd, 1) := by decide +kernel
theorem dX8_isKept_69 : decode cX8_isKept 69 = .ok (.iaload, 1) := by decide +kernel
theorem dX8_isKept_70 : decode cX8_isKept 70 = .ok (.aload_n 0, 1) := by decide +kernel
theorem dX8_isKept_71 : decode cX8_isKept 71 = .ok (.getfield 34, 3) := by decide +kernel
theorem dX8_isKept_74 : decode cX8_isKept 74 = .ok (.iconst 3, 1) := by decide +kernel
theorem dX8_isKept_75 : decode cX8_isKept 75 = .ok (.iload_n 1, 1) := by decide +kernel
theorem dX8_isKept_76 : decode cX8_isKept 76 = .ok (.imul, 1) := by decide +kernel
theorem dX8_isKept_77 : decode cX8_isKept 77 = .ok (.iload 4, 2) := by decide +kernel
theorem dX8_isKept_79 : decode cX8_isKept 79 = .ok (.iadd, 1) := by decide +kernel
theorem dX8_isKept_80 : decode cX8_isKept 80 = .ok (.iaload, 1) := by decide +kernel
theorem dX8_isKept_81 : decode cX8_isKept 81 = .ok (.if_icmp .ne 7, 3) := by decide +kernel
theorem dX8_isKept_84 : decode cX8_isKept 84 = .ok (.iconst 1, 1) := by decide +kernel
theorem dX8_isKept_85 : decode cX8_isKept 85 = .ok (.goto 4, 3) := by decide +kernel
theorem dX8_isKept_88 : decode cX8_isKept 88 = .ok (.iconst 0, 1) := by decide +kernel
theorem dX8_isKept_89 : decode cX8_isKept 89 = .ok (.istore_n 3, 1) := by decide +kernel
theorem dX8_isKept_90 : decode cX8_isKept 90 = .ok (.iinc 4 1, 3) := by decide +kernel
theorem dX8_isKept_93 : decode cX8_isKept 93 = .ok (.goto (-50), 3) := by decide +kernel
theorem dX8_isKept_96 : decode cX8_isKept 96 = .ok (.iload_n 3, 1) := by decide +kernel
theorem dX8_isKept_97 : decode cX8_isKept 97 = .ok (.ireturn, 1) := by decide +kernel
theorem dX8_feedBy_0 : decode cX8_feedBy 0 = .ok (.aload_n 0, 1) := by decide +kernel
theorem dX8_feedBy_1 : decode cX8_feedBy 1 = .ok (.invokevirtual 242, 3) := by decide +kernel
theorem dX8_feedBy_4 : decode cX8_feedBy 4 = .ok (.aload_n 0, 1) := by decide +kernel
theorem dX8_feedBy_5 : decode cX8_feedBy 5 = .ok (.iload_n 1, 1) := by decide +kernel
theorem dX8_feedBy_6 : decode cX8_feedBy 6 = .ok (.iconst 0, 1) := by decide +kernel
theorem dX8_feedBy_7 : decode cX8_feedBy 7 = .ok (.invokevirtual 283, 3) := by decide +kernel
theorem dX8_feedBy_10 : decode cX8_feedBy 10 = .ok (.ifCond .eq 5, 3) := by decide +kernel
theorem dX8_feedBy_13 : decode cX8_feedBy 13 = .ok (.iconst 0, 1) := by decide +kernel
theorem dX8_feedBy_14 : decode cX8_feedBy 14 = .ok (.ireturn, 1) := by decide +kernel
theorem dX8_feedBy_15 : decode cX8_feedBy 15 = .ok (.iconst 0, 1) := by decide +kernel
theorem dX8_feedBy_16 : decode cX8_feedBy 16 = .ok (.istore_n 2, 1) := by decide +kernel
theorem dX8_feedBy_17 : decode cX8_feedBy 17 = .ok (.iload_n 2, 1) := by decide +kernel
theorem dX8_feedBy_18 : decode cX8_feedBy 18 = .ok (.aload_n 0, 1) := by decide +kernel
theorem dX8_feedBy_19 : decode cX8_feedBy 19 = .ok (.getfield 144, 3) := by decide +kernel
theorem dX8_feedBy_22 : decode cX8_feedBy 22 = .ok (.if_icmp .ge 29, 3) := by decide +kernel
theorem dX8_feedBy_25 : decode cX8_feedBy 25 = .ok (.aload_n 0, 1) := by decide +kernel
theorem dX8_feedBy_26 : decode cX8_feedBy 26 = .ok (.getfield 86, 3) := by decide +kernel
theorem dX8_feedBy_29 : decode cX8_feedBy 29 = .ok (.iconst 0, 1) := by decide +kernel
theorem dX8_feedBy_30 : decode cX8_feedBy 30 = .ok (.iload_n 2, 1) := by decide +kernel
theorem dX8_feedBy_31 : decode cX8_feedBy 31 = .ok (.iastore, 1) := by decide +kernel
theorem dX8_feedBy_32 : decode cX8_feedBy 32 = .ok (.aload_n 0, 1) := by decide +kernel
theorem dX8_feedBy_33 : decode cX8_feedBy 33 = .ok (.iload_n 1, 1) := by decide +kernel
theorem dX8_feedBy_34 : decode cX8_feedBy 34 = .ok (.iconst 1, 1) := by decide +kernel
theorem dX8_feedBy_35 : decode cX8_feedBy 35 = .ok (.iload_n 2, 1) := by decide +kernel
theorem dX8_feedBy_36 : decode cX8_feedBy 36 = .ok (.ishl, 1) := by decide +kernel
theorem dX8_feedBy_37 : decode cX8_feedBy 37 = .ok (.invokevirtual 283, 3) := by decide +kernel
theorem dX8_feedBy_40 : decode cX8_feedBy 40 = .ok (.ifCond .eq 5, 3) := by decide +kernel
theorem dX8_feedBy_43 : decode cX8_feedBy 43 = .ok (.iconst 1, 1) := by decide +kernel
theorem dX8_feedBy_44 : decode cX8_feedBy 44 = .ok (.ireturn, 1) := by decide +kernel
theorem dX8_feedBy_45 : decode cX8_feedBy 45 = .ok (.iinc 2 1, 3) := by decide +kernel
theorem dX8_feedBy_48 : decode cX8_feedBy 48 = .ok (.goto (-31), 3) := by decide +kernel
theorem dX8_feedBy_51 : decode cX8_feedBy 51 = .ok (.iconst 0, 1) := by decide +kernel
theorem dX8_feedBy_52 : decode cX8_feedBy 52 = .ok (.istore_n 2, 1) := by decide +kernel
theorem dX8_feedBy_53 : decode cX8_feedBy 53 = .ok (.iload_n 2, 1) := by decide +kernel
theorem dX8_feedBy_54 : decode cX8_feedBy 54 = .ok (.aload_n 0, 1) := by decide +kernel
theorem dX8_feedBy_55 : decode cX8_feedBy 55 = .ok (.getfield 144, 3) := by decide +kernel
theorem dX8_feedBy_58 : decode cX8_feedBy 58 = .ok (.if_icmp .ge 58, 3) := by decide +kernel
theorem dX8_feedBy_61 : decode cX8_feedBy 61 = .ok (.iload_n 2, 1) := by decide +kernel
theorem dX8_feedBy_62 : decode cX8_feedBy 62 = .ok (.iconst 1, 1) := by decide +kernel
theorem dX8_feedBy_63 : decode cX8_feedBy 63 = .ok (.iadd, 1) := by decide +kernel
theorem dX8_feedBy_64 : decode cX8_feedBy 64 = .ok (.istore_n 3, 1) := by decide +kernel
theorem dX8_feedBy_65 : decode cX8_feedBy 65 = .ok (.iload_n 3, 1) := by decide +kernel
theorem dX8_feedBy_66 : decode cX8_feedBy 66 = .ok (.aload_n 0, 1) := by decide +kernel
theorem dX8_feedBy_67 : decode cX8_feedBy 67 = .ok (.getfield 144, 3) := by decide +kernel
theorem dX8_feedBy_70 : decode cX8_feedBy 70 = .ok (.if_icmp .ge 40, 3) := by decide +kernel
theorem dX8_feedBy_73 : decode cX8_feedBy 73 = .ok (.aload_n 0, 1) := by decide +kernel
theorem dX8_feedBy_74 : decode cX8_feedBy 74 = .ok (.getfield 86, 3) := by decide +kernel
theorem dX8_feedBy_77 : decode cX8_feedBy 77 = .ok (.iconst 0, 1) := by decide +kernel
theorem dX8_feedBy_78 : decode cX8_feedBy 78 = .ok (.iload_n 2, 1) := by decide +kernel
theorem dX8_feedBy_79 : decode cX8_feedBy 79 = .ok (.iastore, 1) := by decide +kernel
theorem dX8_feedBy_80 : decode cX8_feedBy 80 = .ok (.aload_n 0, 1) := by decide +kernel
theorem dX8_feedBy_81 : decode cX8_feedBy 81 = .ok (.getfield 86, 3) := by decide +kernel
theorem dX8_feedBy_84 : decode cX8_feedBy 84 = .ok (.iconst 1, 1) := by decide +kernel
theorem dX8_feedBy_85 : decode cX8_feedBy 85 = .ok (.iload_n 3, 1) := by decide +kernel
theorem dX8_feedBy_86 : decode cX8_feedBy 86 = .ok (.iastore, 1) := by decide +kernel
theorem dX8_feedBy_87 : decode cX8_feedBy 87 = .ok (.aload_n 0, 1) := by decide +kernel
theorem dX8_feedBy_88 : decode cX8_feedBy 88 = .ok (.iload_n 1, 1) := by decide +kernel
theorem dX8_feedBy_89 : decode cX8_feedBy 89 = .ok (.iconst 1, 1) := by decide +kernel
theorem dX8_feedBy_90 : decode cX8_feedBy 90 = .ok (.iload_n 2, 1) := by decide +kernel
theorem dX8_feedBy_91 : decode cX8_feedBy 91 = .ok (.ishl, 1) := by decide +kernel
theorem dX8_feedBy_92 : decode cX8_feedBy 92 = .ok (.iconst 1, 1) := by decide +kernel
theorem dX8_feedBy_93 : decode cX8_feedBy 93 = .ok (.iload_n 3, 1) := by decide +kernel
theorem dX8_feedBy_94 : decode cX8_feedBy 94 = .ok (.ishl, 1) := by decide +kernel
theorem dX8_feedBy_95 : decode cX8_feedBy 95 = .ok (.ior, 1) := by decide +kernel
theorem dX8_feedBy_96 : decode cX8_feedBy 96 = .ok (.invokevirtual 283, 3) := by decide +kernel
theorem dX8_feedBy_99 : decode cX8_feedBy 99 = .ok (.ifCond .eq 5, 3) := by decide +kernel
theorem dX8_feedBy_102 : decode cX8_feedBy 102 = .ok (.iconst 2, 1) := by decide +kernel
theorem dX8_feedBy_103 : decode cX8_feedBy 103 = .ok (.ireturn, 1) := by decide +kernel
theorem dX8_feedBy_104 : decode cX8_feedBy 104 = .ok (.iinc 3 1, 3) := by decide +kernel
theorem dX8_feedBy_107 : decode cX8_feedBy 107 = .ok (.goto (-42), 3) := by decide +kernel
theorem dX8_feedBy_110 : decode cX8_feedBy 110 = .ok (.iinc 2 1, 3) := by decide +kernel
theorem dX8_feedBy_113 : decode cX8_feedBy 113 = .ok (.goto (-60), 3) := by decide +kernel
theorem dX8_feedBy_116 : decode cX8_feedBy 116 = .ok (.iconst (-1), 1) := by decide +kernel
theorem dX8_feedBy_117 : decode cX8_feedBy 117 = .ok (.ireturn, 1) := by decide +kernel
theorem dX8_ofRow_0 : decode cX8_ofRow 0 = .ok (.iload_n 2, 1) := by decide +kernel
theorem dX8_ofRow_1 : decode cX8_ofRow 1 = .ok (.iconst (-1), 1) := by decide +kernel
theorem dX8_ofRow_2 : decode cX8_ofRow 2 = .ok (.if_icmp .ne 7, 3) := by decide +kernel
theorem dX8_ofRow_5 : decode cX8_ofRow 5 = .ok (.iload_n 1, 1) := by decide +kernel
theorem dX8_ofRow_6 : decode cX8_ofRow 6 = .ok (.goto 18, 3) := by decide +kernel
theorem dX8_ofRow_9 : decode cX8_ofRow 9 = .ok (.iload_n 2, 1) := by decide +kernel
theorem dX8_ofRow_10 : decode cX8_ofRow 10 = .ok (.iload_n 1, 1) := by decide +kernel
theorem dX8_ofRow_11 : decode cX8_ofRow 11 = .ok (.if_icmp .ge 12, 3) := by decide +kernel
theorem dX8_ofRow_14 : decode cX8_ofRow 14 = .ok (.aload_n 0, 1) := by decide +kernel
theorem dX8_ofRow_15 : decode cX8_ofRow 15 = .ok (.getfield 86, 3) := by decide +kernel
theorem dX8_ofRow_18 : decode cX8_ofRow 18 = .ok (.iload_n 2, 1) := by decide +kernel
theorem dX8_ofRow_19 : decode cX8_ofRow 19 = .ok (.iaload, 1) := by decide +kernel
theorem dX8_ofRow_20 : decode cX8_ofRow 20 = .ok (.goto 4, 3) := by decide +kernel
theorem dX8_ofRow_23 : decode cX8_ofRow 23 = .ok (.iconst (-1), 1) := by decide +kernel
theorem dX8_ofRow_24 : decode cX8_ofRow 24 = .ok (.ireturn, 1) := by decide +kernel
theorem dX8_feed_0 : decode cX8_feed 0 = .ok (.aload_n 0, 1) := by decide +kernel
theorem dX8_feed_1 : decode cX8_feed 1 = .ok (.iload_n 1, 1) := by decide +kernel
theorem dX8_feed_2 : decode cX8_feed 2 = .ok (.invokevirtual 172, 3) := by decide +kernel
theorem dX8_feed_5 : decode cX8_feed 5 = .ok (.ifCond .eq 25, 3) := by decide +kernel
theorem dX8_feed_8 : decode cX8_feed 8 = .ok (.iload_n 2, 1) := by decide +kernel
theorem dX8_feed_9 : decode cX8_feed 9 = .ok (.iconst (-1), 1) := by decide +kernel
theorem dX8_feed_10 : decode cX8_feed 10 = .ok (.iconst 1, 1) := by decide +kernel
theorem dX8_feed_11 : decode cX8_feed 11 = .ok (.invokestatic 125, 3) := by decide +kernel
theorem dX8_feed_14 : decode cX8_feed 14 = .ok (.ifCond .eq 16, 3) := by decide +kernel
theorem dX8_feed_17 : decode cX8_feed 17 = .ok (.aload_n 0, 1) := by decide +kernel
theorem dX8_feed_18 : decode cX8_feed 18 = .ok (.aload_n 0, 1) := by decide +kernel
theorem dX8_feed_19 : decode cX8_feed 19 = .ok (.iload_n 1, 1) := by decide +kernel
theorem dX8_feed_20 : decode cX8_feed 20 = .ok (.invokevirtual 286, 3) := by decide +kernel
theorem dX8_feed_23 : decode cX8_feed 23 = .ok (.iload_n 2, 1) := by decide +kernel
theorem dX8_feed_24 : decode cX8_feed 24 = .ok (.invokevirtual 289, 3) := by decide +kernel
theorem dX8_feed_27 : decode cX8_feed 27 = .ok (.goto 5, 3) := by decide +kernel
theorem dX8_feed_30 : decode cX8_feed 30 = .ok (.bipush (-2), 2) := by decide +kernel
theorem dX8_feed_32 : decode cX8_feed 32 = .ok (.ireturn, 1) := by decide +kernel
theorem dX8_stillOf_0 : decode cX8_stillOf 0 = .ok (.aload_n 0, 1) := by decide +kernel
theorem dX8_stillOf_1 : decode cX8_stillOf 1 = .ok (.invokevirtual 242, 3) := by decide +kernel
theorem dX8_stillOf_4 : decode cX8_stillOf 4 = .ok (.iconst (-1), 1) := by decide +kernel
theorem dX8_stillOf_5 : decode cX8_stillOf 5 = .ok (.istore_n 2, 1) := by decide +kernel
theorem dX8_stillOf_6 : decode cX8_stillOf 6 = .ok (.iconst (-1), 1) := by decide +kernel
theorem dX8_stillOf_7 : decode cX8_stillOf 7 = .ok (.istore_n 3, 1) := by decide +kernel
theorem dX8_stillOf_8 : decode cX8_stillOf 8 = .ok (.iconst 0, 1) := by decide +kernel
theorem dX8_stillOf_9 : decode cX8_stillOf 9 = .ok (.istore 4, 2) := by decide +kernel
theorem dX8_stillOf_11 : decode cX8_stillOf 11 = .ok (.iload 4, 2) := by decide +kernel
theorem dX8_stillOf_13 : decode cX8_stillOf 13 = .ok (.aload_n 0, 1) := by decide +kernel
theorem dX8_stillOf_14 : decode cX8_stillOf 14 = .ok (.getfield 181, 3) := by decide +kernel
theorem dX8_stillOf_17 : decode cX8_stillOf 17 = .ok (.if_icmp .ge 57, 3) := by decide +kernel
theorem dX8_stillOf_20 : decode cX8_stillOf 20 = .ok (.aload_n 0, 1) := by decide +kernel
theorem dX8_stillOf_21 : decode cX8_stillOf 21 = .ok (.aload_n 0, 1) := by decide +kernel
theorem dX8_stillOf_22 : decode cX8_stillOf 22 = .ok (.iconst 1, 1) := by decide +kernel
theorem dX8_stillOf_23 : decode cX8_stillOf 23 = .ok (.iload 4, 2) := by decide +kernel
theorem dX8_stillOf_25 : decode cX8_stillOf 25 = .ok (.ishl, 1) := by decide +kernel
theorem dX8_stillOf_26 : decode cX8_stillOf 26 = .ok (.invokevirtual 204, 3) := by decide +kernel
theorem dX8_stillOf_29 : decode cX8_stillOf 29 = .ok (.putfield 208, 3) := by decide +kernel
theorem dX8_stillOf_32 : decode cX8_stillOf 32 = .ok (.aload_n 0, 1) := by decide +kernel
theorem dX8_stillOf_33 : decode cX8_stillOf 33 = .ok (.invokevirtual 245, 3) := by decide +kernel
theorem dX8_stillOf_36 : decode cX8_stillOf 36 = .ok (.aload_n 0, 1) := by decide +kernel
theorem dX8_stillOf_37 : decode cX8_stillOf 37 = .ok (.invokevirtual 264, 3) := by decide +kernel
theorem dX8_stillOf_40 : decode cX8_stillOf 40 = .ok (.istore 5, 2) := by decide +kernel
theorem dX8_stillOf_42 : decode cX8_stillOf 42 = .ok (.iload 5, 2) := by decide +kernel
theorem dX8_stillOf_44 : decode cX8_stillOf 44 = .ok (.iload_n 3, 1) := by decide +kernel
theorem dX8_stillOf_45 : decode cX8_stillOf 45 = .ok (.if_icmp .le 8, 3) := by decide +kernel
theorem dX8_stillOf_48 : decode cX8_stillOf 48 = .ok (.iload 4, 2) := by decide +kernel
theorem dX8_stillOf_50 : decode cX8_stillOf 50 = .ok (.goto 4, 3) := by decide +kernel
theorem dX8_stillOf_53 : decode cX8_stillOf 53 = .ok (.iload_n 2, 1) := by decide +kernel
theorem dX8_stillOf_54 : decode cX8_stillOf 54 = .ok (.istore_n 2, 1) := by decide +kernel
theorem dX8_stillOf_55 : decode cX8_stillOf 55 = .ok (.iload 5, 2) := by decide +kernel
theorem dX8_stillOf_57 : decode cX8_stillOf 57 = .ok (.iload_n 3, 1) := by decide +kernel
theorem dX8_stillOf_58 : decode cX8_stillOf 58 = .ok (.if_icmp .le 8, 3) := by decide +kernel
theorem dX8_stillOf_61 : decode cX8_stillOf 61 = .ok (.iload 5, 2) := by decide +kernel
theorem dX8_stillOf_63 : decode cX8_stillOf 63 = .ok (.goto 4, 3) := by decide +kernel
theorem dX8_stillOf_66 : decode cX8_stillOf 66 = .ok (.iload_n 3, 1) := by decide +kernel
theorem dX8_stillOf_67 : decode cX8_stillOf 67 = .ok (.istore_n 3, 1) := by decide +kernel
theorem dX8_stillOf_68 : decode cX8_stillOf 68 = .ok (.iinc 4 1, 3) := by decide +kernel
theorem dX8_stillOf_71 : decode cX8_stillOf 71 = .ok (.goto (-60), 3) := by decide +kernel
theorem dX8_stillOf_74 : decode cX8_stillOf 74 = .ok (.iload_n 1, 1) := by decide +kernel
theorem dX8_stillOf_75 : decode cX8_stillOf 75 = .ok (.ifCond .ne 7, 3) := by decide +kernel
theorem dX8_stillOf_78 : decode cX8_stillOf 78 = .ok (.iload_n 2, 1) := by decide +kernel
theorem dX8_stillOf_79 : decode cX8_stillOf 79 = .ok (.goto 4, 3) := by decide +kernel
theorem dX8_stillOf_82 : decode cX8_stillOf 82 = .ok (.iload_n 3, 1) := by decide +kernel
theorem dX8_stillOf_83 : decode cX8_stillOf 83 = .ok (.ireturn, 1) := by decide +kernel
theorem dX8_still_0 : decode cX8_still 0 = .ok (.iload_n 1, 1) := by decide +kernel
theorem dX8_still_1 : decode cX8_still 1 = .ok (.iconst 0, 1) := by decide +kernel
theorem dX8_still_2 : decode cX8_still 2 = .ok (.iconst 1, 1) := by decide +kernel
theorem dX8_still_3 : decode cX8_still 3 = .ok (.invokestatic 125, 3) := by decide +kernel
theorem dX8_still_6 : decode cX8_still 6 = .ok (.ifCond .eq 11, 3) := by decide +kernel
theorem dX8_still_9 : decode cX8_still 9 = .ok (.aload_n 0, 1) := by decide +kernel
theorem dX8_still_10 : decode cX8_still 10 = .ok (.iload_n 1, 1) := by decide +kernel
theorem dX8_still_11 : decode cX8_still 11 = .ok (.invokevirtual 292, 3) := by decide +kernel
theorem dX8_still_14 : decode cX8_still 14 = .ok (.goto 5, 3) := by decide +kernel
theorem dX8_still_17 : decode cX8_still 17 = .ok (.bipush (-2), 2) := by decide +kernel
theorem dX8_still_19 : decode cX8_still 19 = .ok (.ireturn, 1) := by decide +kernel
theorem dX8_seen_0 : decode cX8_seen 0 = .ok (.iload_n 1, 1) := by decide +kernel
theorem dX8_seen_1 : decode cX8_seen 1 = .ok (.iconst 0, 1) := by decide +kernel
theorem dX8_seen_2 : decode cX8_seen 2 = .ok (.bipush 7, 2) := by decide +kernel
theorem dX8_seen_4 : decode cX8_seen 4 = .ok (.invokestatic 125, 3) := by decide +kernel
theorem dX8_seen_7 : decode cX8_seen 7 = .ok (.ifCond .eq 23, 3) := by decide +kernel
theorem dX8_seen_10 : decode cX8_seen 10 = .ok (.iload_n 2, 1) := by decide +kernel
theorem dX8_seen_11 : decode cX8_seen 11 = .ok (.iconst 0, 1) := by decide +kernel
theorem dX8_seen_12 : decode cX8_seen 12 = .ok (.bipush 11, 2) := by decide +kernel
theorem dX8_seen_14 : decode cX8_seen 14 = .ok (.invokestatic 125, 3) := by decide +kernel
theorem dX8_seen_17 : decode cX8_seen 17 = .ok (.ifCond .eq 13, 3) := by decide +kernel
theorem dX8_seen_20 : decode cX8_seen 20 = .ok (.iload_n 3, 1) := by decide +kernel
theorem dX8_seen_21 : decode cX8_seen 21 = .ok (.iconst 0, 1) := by decide +kernel
theorem dX8_seen_22 : decode cX8_seen 22 = .ok (.bipush 8, 2) := by decide +kernel
theorem dX8_seen_24 : decode cX8_seen 24 = .ok (.invokestatic 125, 3) := by decide +kernel
theorem dX8_seen_27 : decode cX8_seen 27 = .ok (.ifCond .ne 6, 3) := by decide +kernel
theorem dX8_seen_30 : decode cX8_seen 30 = .ok (.bipush (-2), 2) := by decide +kernel
theorem dX8_seen_32 : decode cX8_seen 32 = .ok (.ireturn, 1) := by decide +kernel
theorem dX8_seen_33 : decode cX8_seen 33 = .ok (.aload_n 0, 1) := by decide +kernel
theorem dX8_seen_34 : decode cX8_seen 34 = .ok (.getfield 295, 3) := by decide +kernel
theorem dX8_seen_37 : decode cX8_seen 37 = .ok (.bipush 8, 2) := by decide +kernel
theorem dX8_seen_39 : decode cX8_seen 39 = .ok (.if_icmp .ne 6, 3) := by decide +kernel
theorem dX8_seen_42 : decode cX8_seen 42 = .ok (.bipush (-4), 2) := by decide +kernel
theorem dX8_seen_44 : decode cX8_seen 44 = .ok (.ireturn, 1) := by decide +kernel
theorem dX8_seen_45 : decode cX8_seen 45 = .ok (.aload_n 0, 1) := by decide +kernel
theorem dX8_seen_46 : decode cX8_seen 46 = .ok (.getfield 89, 3) := by decide +kernel
theorem dX8_seen_49 : decode cX8_seen 49 = .ok (.aload_n 0, 1) := by decide +kernel
theorem dX8_seen_50 : decode cX8_seen 50 = .ok (.getfield 295, 3) := by decide +kernel
theorem dX8_seen_53 : decode cX8_seen 53 = .ok (.iload_n 1, 1) := by decide +kernel
theorem dX8_seen_54 : decode cX8_seen 54 = .ok (.iastore, 1) := by decide +kernel
theorem dX8_seen_55 : decode cX8_seen 55 = .ok (.aload_n 0, 1) := by decide +kernel
theorem dX8_seen_56 : decode cX8_seen 56 = .ok (.getfield 92, 3) := by decide +kernel
theorem dX8_seen_59 : decode cX8_seen 59 = .ok (.aload_n 0, 1) := by decide +kernel
theorem dX8_seen_60 : decode cX8_seen 60 = .ok (.getfield 295, 3) := by decide +kernel
theorem dX8_seen_63 : decode cX8_seen 63 = .ok (.iload_n 2, 1) := by decide +kernel
theorem dX8_seen_64 : decode cX8_seen 64 = .ok (.iastore, 1) := by decide +kernel
theorem dX8_seen_65 : decode cX8_seen 65 = .ok (.aload_n 0, 1) := by decide +kernel
theorem dX8_seen_66 : decode cX8_seen 66 = .ok (.getfield 95, 3) := by decide +kernel
theorem dX8_seen_69 : decode cX8_seen 69 = .ok (.aload_n 0, 1) := by decide +kernel
theorem dX8_seen_70 : decode cX8_seen 70 = .ok (.getfield 295, 3) := by decide +kernel
theorem dX8_seen_73 : decode cX8_seen 73 = .ok (.iload_n 3, 1) := by decide +kernel
theorem dX8_seen_74 : decode cX8_seen 74 = .ok (.iastore, 1) := by decide +kernel
theorem dX8_seen_75 : decode cX8_seen 75 = .ok (.aload_n 0, 1) := by decide +kernel
theorem dX8_seen_76 : decode cX8_seen 76 = .ok (.dup, 1) := by decide +kernel
theorem dX8_seen_77 : decode cX8_seen 77 = .ok (.getfield 295, 3) := by decide +kernel
theorem dX8_seen_80 : decode cX8_seen 80 = .ok (.iconst 1, 1) := by decide +kernel
theorem dX8_seen_81 : decode cX8_seen 81 = .ok (.iadd, 1) := by decide +kernel
theorem dX8_seen_82 : decode cX8_seen 82 = .ok (.putfield 295, 3) := by decide +kernel
theorem dX8_seen_85 : decode cX8_seen 85 = .ok (.aload_n 0, 1) := by decide +kernel
theorem dX8_seen_86 : decode cX8_seen 86 = .ok (.getfield 295, 3) := by decide +kernel
theorem dX8_seen_89 : decode cX8_seen 89 = .ok (.ireturn, 1) := by decide +kernel
theorem dX8_forget_0 : decode cX8_forget 0 = .ok (.aload_n 0, 1) := by decide +kernel
theorem dX8_forget_1 : decode cX8_forget 1 = .ok (.getfield 295, 3) := by decide +kernel
theorem dX8_forget_4 : decode cX8_forget 4 = .ok (.istore_n 1, 1) := by decide +kernel
theorem dX8_forget_5 : decode cX8_forget 5 = .ok (.aload_n 0, 1) := by decide +kernel
theorem dX8_forget_6 : decode cX8_forget 6 = .ok (.iconst 0, 1) := by decide +kernel
theorem dX8_forget_7 : decode cX8_forget 7 = .ok (.putfield 295, 3) := by decide +kernel
theorem dX8_forget_10 : decode cX8_forget 10 = .ok (.iload_n 1, 1) := by decide +kernel
theorem dX8_forget_11 : decode cX8_forget 11 = .ok (.ireturn, 1) := by decide +kernel
theorem dX8_isSeen_0 : decode cX8_isSeen 0 = .ok (.aload_n 0, 1) := by decide +kernel
theorem dX8_isSeen_1 : decode cX8_isSeen 1 = .ok (.invokevirtual 245, 3) := by decide +kernel
theorem dX8_isSeen_4 : decode cX8_isSeen 4 = .ok (.iconst 1, 1) := by decide +kernel
theorem dX8_isSeen_5 : decode cX8_isSeen 5 = .ok (.istore_n 1, 1) := by decide +kernel
theorem dX8_isSeen_6 : decode cX8_isSeen 6 = .ok (.iconst 0, 1) := by decide +kernel
theorem dX8_isSeen_7 : decode cX8_isSeen 7 = .ok (.istore_n 2, 1) := by decide +kernel
theorem dX8_isSeen_8 : decode cX8_isSeen 8 = .ok (.iload_n 2, 1) := by decide +kernel
theorem dX8_isSeen_9 : decode cX8_isSeen 9 = .ok (.aload_n 0, 1) := by decide +kernel
theorem dX8_isSeen_10 : decode cX8_isSeen 10 = .ok (.getfield 295, 3) := by decide +kernel
theorem dX8_isSeen_13 : decode cX8_isSeen 13 = .ok (.if_icmp .ge 79, 3) := by decide +kernel
theorem dX8_isSeen_16 : decode cX8_isSeen 16 = .ok (.iload_n 1, 1) := by decide +kernel
theorem dX8_isSeen_17 : decode cX8_isSeen 17 = .ok (.ifCond .eq 75, 3) := by decide +kernel
theorem dX8_isSeen_20 : decode cX8_isSeen 20 = .ok (.aload_n 0, 1) := by decide +kernel
theorem dX8_isSeen_21 : decode cX8_isSeen 21 = .ok (.getfield 89, 3) := by decide +kernel
theorem dX8_isSeen_24 : decode cX8_isSeen 24 = .ok (.iload_n 2, 1) := by decide +kernel
theorem dX8_isSeen_25 : decode cX8_isSeen 25 = .ok (.iaload, 1) := by decide +kernel
theorem dX8_isSeen_26 : decode cX8_isSeen 26 = .ok (.istore_n 3, 1) := by decide +kernel
theorem dX8_isSeen_27 : decode cX8_isSeen 27 = .ok (.aload_n 0, 1) := by decide +kernel
theorem dX8_isSeen_28 : decode cX8_isSeen 28 = .ok (.getfield 92, 3) := by decide +kernel
theorem dX8_isSeen_31 : decode cX8_isSeen 31 = .ok (.iload_n 2, 1) := by decide +kernel
theorem dX8_isSeen_32 : decode cX8_isSeen 32 = .ok (.iaload, 1) := by decide +kernel
theorem dX8_isSeen_33 : decode cX8_isSeen 33 = .ok (.istore 4, 2) := by decide +kernel
theorem dX8_isSeen_35 : decode cX8_isSeen 35 = .ok (.iload_n 3, 1) := by decide +kernel
theorem dX8_isSeen_36 : decode cX8_isSeen 36 = .ok (.aload_n 0, 1) := by decide +kernel
theorem dX8_isSeen_37 : decode cX8_isSeen 37 = .ok (.getfield 147, 3) := by decide +kernel
theorem dX8_isSeen_40 : decode cX8_isSeen 40 = .ok (.if_icmp .ge 44, 3) := by decide +kernel
theorem dX8_isSeen_43 : decode cX8_isSeen 43 = .ok (.iload 4, 2) := by decide +kernel
theorem dX8_isSeen_45 : decode cX8_isSeen 45 = .ok (.aload_n 0, 1) := by decide +kernel
theorem dX8_isSeen_46 : decode cX8_isSeen 46 = .ok (.getfield 49, 3) := by decide +kernel
theorem dX8_isSeen_49 : decode cX8_isSeen 49 = .ok (.iload_n 3, 1) := by decide +kernel
theorem dX8_isSeen_50 : decode cX8_isSeen 50 = .ok (.iaload, 1) := by decide +kernel
theorem dX8_isSeen_51 : decode cX8_isSeen 51 = .ok (.if_icmp .ge 18, 3) := by decide +kernel
theorem dX8_isSeen_54 : decode cX8_isSeen 54 = .ok (.aload_n 0, 1) := by decide +kernel
theorem dX8_isSeen_55 : decode cX8_isSeen 55 = .ok (.getfield 52, 3) := by decide +kernel
theorem dX8_isSeen_58 : decode cX8_isSeen 58 = .ok (.bipush 24, 2) := by decide +kernel
theorem dX8_isSeen_60 : decode cX8_isSeen 60 = .ok (.iload_n 3, 1) := by decide +kernel
theorem dX8_isSeen_61 : decode cX8_isSeen 61 = .ok (.imul, 1) := by decide +kernel
theorem dX8_isSeen_62 : decode cX8_isSeen 62 = .ok (.iload 4, 2) := by decide +kernel
theorem dX8_isSeen_64 : decode cX8_isSeen 64 = .ok (.iadd, 1) := by decide +kernel
theorem dX8_isSeen_65 : decode cX8_isSeen 65 = .ok (.iaload, 1) := by decide +kernel
theorem dX8_isSeen_66 : decode cX8_isSeen 66 = .ok (.goto 5, 3) := by decide +kernel
theorem dX8_isSeen_69 : decode cX8_isSeen 69 = .ok (.bipush 8, 2) := by decide +kernel
theorem dX8_isSeen_71 : decode cX8_isSeen 71 = .ok (.aload_n 0, 1) := by decide +kernel
theorem dX8_isSeen_72 : decode cX8_isSeen 72 = .ok (.getfield 95, 3) := by decide +kernel
theorem dX8_isSeen_75 : decode cX8_isSeen 75 = .ok (.iload_n 2, 1) := by decide +kernel
theorem dX8_isSeen_76 : decode cX8_isSeen 76 = .ok (.iaload, 1) := by decide +kernel
theorem dX8_isSeen_77 : decode cX8_isSeen 77 = .ok (.if_icmp .ne 7, 3) := by decide +kernel
theorem dX8_isSeen_80 : decode cX8_isSeen 80 = .ok (.iconst 1, 1) := by decide +kernel
theorem dX8_isSeen_81 : decode cX8_isSeen 81 = .ok (.goto 4, 3) := by decide +kernel
theorem dX8_isSeen_84 : decode cX8_isSeen 84 = .ok (.iconst 0, 1) := by decide +kernel
theorem dX8_isSeen_85 : decode cX8_isSeen 85 = .ok (.istore_n 1, 1) := by decide +kernel
theorem dX8_isSeen_86 : decode cX8_isSeen 86 = .ok (.iinc 2 1, 3) := by decide +kernel
theorem dX8_isSeen_89 : decode cX8_isSeen 89 = .ok (.goto (-81), 3) := by decide +kernel
theorem dX8_isSeen_92 : decode cX8_isSeen 92 = .ok (.iload_n 1, 1) := by decide +kernel
theorem dX8_isSeen_93 : decode cX8_isSeen 93 = .ok (.ireturn, 1) := by decide +kernel
theorem dX8_neverNow_0 : decode cX8_neverNow 0 = .ok (.aload_n 0, 1) := by decide +kernel
theorem dX8_neverNow_1 : decode cX8_neverNow 1 = .ok (.invokevirtual 242, 3) := by decide +kernel
theorem dX8_neverNow_4 : decode cX8_neverNow 4 = .ok (.iconst 0, 1) := by decide +kernel
theorem dX8_neverNow_5 : decode cX8_neverNow 5 = .ok (.istore_n 1, 1) := by decide +kernel
theorem dX8_neverNow_6 : decode cX8_neverNow 6 = .ok (.iconst 0, 1) := by decide +kernel
theorem dX8_neverNow_7 : decode cX8_neverNow 7 = .ok (.istore_n 2, 1) := by decide +kernel
theorem dX8_neverNow_8 : decode cX8_neverNow 8 = .ok (.iload_n 2, 1) := by decide +kernel
theorem dX8_neverNow_9 : decode cX8_neverNow 9 = .ok (.aload_n 0, 1) := by decide +kernel
theorem dX8_neverNow_10 : decode cX8_neverNow 10 = .ok (.getfield 181, 3) := by decide +kernel
theorem dX8_neverNow_13 : decode cX8_neverNow 13 = .ok (.if_icmp .ge 37, 3) := by decide +kernel
theorem dX8_neverNow_16 : decode cX8_neverNow 16 = .ok (.aload_n 0, 1) := by decide +kernel
theorem dX8_neverNow_17 : decode cX8_neverNow 17 = .ok (.aload_n 0, 1) := by decide +kernel
theorem dX8_neverNow_18 : decode cX8_neverNow 18 = .ok (.iconst 1, 1) := by decide +kernel
theorem dX8_neverNow_19 : decode cX8_neverNow 19 = .ok (.iload_n 2, 1) := by decide +kernel
theorem dX8_neverNow_20 : decode cX8_neverNow 20 = .ok (.ishl, 1) := by decide +kernel
theorem dX8_neverNow_21 : decode cX8_neverNow 21 = .ok (.invokevirtual 204, 3) := by decide +kernel
theorem dX8_neverNow_24 : decode cX8_neverNow 24 = .ok (.putfield 208, 3) := by decide +kernel
theorem dX8_neverNow_27 : decode cX8_neverNow 27 = .ok (.iload_n 1, 1) := by decide +kernel
theorem dX8_neverNow_28 : decode cX8_neverNow 28 = .ok (.aload_n 0, 1) := by decide +kernel
theorem dX8_neverNow_29 : decode cX8_neverNow 29 = .ok (.invokevirtual 298, 3) := by decide +kernel
theorem dX8_neverNow_32 : decode cX8_neverNow 32 = .ok (.ifCond .eq 9, 3) := by decide +kernel
theorem dX8_neverNow_35 : decode cX8_neverNow 35 = .ok (.iconst 1, 1) := by decide +kernel
theorem dX8_neverNow_36 : decode cX8_neverNow 36 = .ok (.iload_n 2, 1) := by decide +kernel
theorem dX8_neverNow_37 : decode cX8_neverNow 37 = .ok (.ishl, 1) := by decide +kernel
theorem dX8_neverNow_38 : decode cX8_neverNow 38 = .ok (.goto 4, 3) := by decide +kernel
theorem dX8_neverNow_41 : decode cX8_neverNow 41 = .ok (.iconst 0, 1) := by decide +kernel
theorem dX8_neverNow_42 : decode cX8_neverNow 42 = .ok (.ior, 1) := by decide +kernel
theorem dX8_neverNow_43 : decode cX8_neverNow 43 = .ok (.istore_n 1, 1) := by decide +kernel
theorem dX8_neverNow_44 : decode cX8_neverNow 44 = .ok (.iinc 2 1, 3) := by decide +kernel
theorem dX8_neverNow_47 : decode cX8_neverNow 47 = .ok (.goto (-39), 3) := by decide +kernel
theorem dX8_neverNow_50 : decode cX8_neverNow 50 = .ok (.iload_n 1, 1) := by decide +kernel
theorem dX8_neverNow_51 : decode cX8_neverNow 51 = .ok (.ireturn, 1) := by decide +kernel
theorem dX8_never_0 : decode cX8_never 0 = .ok (.aload_n 0, 1) := by decide +kernel
theorem dX8_never_1 : decode cX8_never 1 = .ok (.invokevirtual 302, 3) := by decide +kernel
theorem dX8_never_4 : decode cX8_never 4 = .ok (.ireturn, 1) := by decide +kernel
theorem dX8_wasOf_0 : decode cX8_wasOf 0 = .ok (.aload_n 0, 1) := by decide +kernel
theorem dX8_wasOf_1 : decode cX8_wasOf 1 = .ok (.invokevirtual 242, 3) := by decide +kernel
theorem dX8_wasOf_4 : decode cX8_wasOf 4 = .ok (.aload_n 0, 1) := by decide +kernel
theorem dX8_wasOf_5 : decode cX8_wasOf 5 = .ok (.getfield 19, 3) := by decide +kernel
theorem dX8_wasOf_8 : decode cX8_wasOf 8 = .ok (.iload_n 1, 1) := by decide +kernel
theorem dX8_wasOf_9 : decode cX8_wasOf 9 = .ok (.iaload, 1) := by decide +kernel
theorem dX8_wasOf_10 : decode cX8_wasOf 10 = .ok (.istore_n 3, 1) := by decide +kernel
theorem dX8_wasOf_11 : decode cX8_wasOf 11 = .ok (.aload_n 0, 1) := by decide +kernel
theorem dX8_wasOf_12 : decode cX8_wasOf 12 = .ok (.getfield 22, 3) := by decide +kernel
theorem dX8_wasOf_15 : decode cX8_wasOf 15 = .ok (.iload_n 1, 1) := by decide +kernel
theorem dX8_wasOf_16 : decode cX8_wasOf 16 = .ok (.iaload, 1) := by decide +kernel
theorem dX8_wasOf_17 : decode cX8_wasOf 17 = .ok (.istore 4, 2) := by decide +kernel
theorem dX8_wasOf_19 : decode cX8_wasOf 19 = .ok (.iconst 0, 1) := by decide +kernel
theorem dX8_wasOf_20 : decode cX8_wasOf 20 = .ok (.istore 5, 2) := by decide +kernel
theorem dX8_wasOf_22 : decode cX8_wasOf 22 = .ok (.iconst 0, 1) := by decide +kernel
theorem dX8_wasOf_23 : decode cX8_wasOf 23 = .ok (.istore 6, 2) := by decide +kernel
theorem dX8_wasOf_25 : decode cX8_wasOf 25 = .ok (.iload 6, 2) := by decide +kernel
theorem dX8_wasOf_27 : decode cX8_wasOf 27 = .ok (.iload_n 2, 1) := by decide +kernel
theorem dX8_wasOf_28 : decode cX8_wasOf 28 = .ok (.ifCond .ne 8, 3) := by decide +kernel
theorem dX8_wasOf_31 : decode cX8_wasOf 31 = .ok (.bipush 10, 2) := by decide +kernel
theorem dX8_wasOf_33 : decode cX8_wasOf 33 = .ok (.goto 5, 3) := by decide +kernel
theorem dX8_wasOf_36 : decode cX8_wasOf 36 = .ok (.bipush 8, 2) := by decide +kernel
theorem dX8_wasOf_38 : decode cX8_wasOf 38 = .ok (.if_icmp .ge 101, 3) := by decide +kernel
theorem dX8_wasOf_41 : decode cX8_wasOf 41 = .ok (.aload_n 0, 1) := by decide +kernel
theorem dX8_wasOf_42 : decode cX8_wasOf 42 = .ok (.getfield 19, 3) := by decide +kernel
theorem dX8_wasOf_45 : decode cX8_wasOf 45 = .ok (.iload_n 1, 1) := by decide +kernel
theorem dX8_wasOf_46 : decode cX8_wasOf 46 = .ok (.iload_n 2, 1) := by decide +kernel
theorem dX8_wasOf_47 : decode cX8_wasOf 47 = .ok (.ifCond .ne 8, 3) := by decide +kernel
theorem dX8_wasOf_50 : decode cX8_wasOf 50 = .ok (.iload 6, 2) := by decide +kernel
theorem dX8_wasOf_52 : decode cX8_wasOf 52 = .ok (.goto 4, 3) := by decide +kernel
theorem dX8_wasOf_55 : decode cX8_wasOf 55 = .ok (.iload_n 3, 1) := by decide +kernel
theorem dX8_wasOf_56 : decode cX8_wasOf 56 = .ok (.iastore, 1) := by decide +kernel
theorem dX8_wasOf_57 : decode cX8_wasOf 57 = .ok (.aload_n 0, 1) := by decide +kernel
theorem dX8_wasOf_58 : decode cX8_wasOf 58 = .ok (.getfield 22, 3) := by decide +kernel
theorem dX8_wasOf_61 : decode cX8_wasOf 61 = .ok (.iload_n 1, 1) := by decide +kernel
theorem dX8_wasOf_62 : decode cX8_wasOf 62 = .ok (.iload_n 2, 1) := by decide +kernel
theorem dX8_wasOf_63 : decode cX8_wasOf 63 = .ok (.iconst 1, 1) := by decide +kernel
theorem dX8_wasOf_64 : decode cX8_wasOf 64 = .ok (.if_icmp .ne 8, 3) := by decide +kernel
theorem dX8_wasOf_67 : decode cX8_wasOf 67 = .ok (.iload 6, 2) := by decide +kernel
theorem dX8_wasOf_69 : decode cX8_wasOf 69 = .ok (.goto 5, 3) := by decide +kernel
theorem dX8_wasOf_72 : decode cX8_wasOf 72 = .ok (.iload 4, 2) := by decide +kernel
theorem dX8_wasOf_74 : decode cX8_wasOf 74 = .ok (.iastore, 1) := by decide +kernel
theorem dX8_wasOf_75 : decode cX8_wasOf 75 = .ok (.iload 5, 2) := by decide +kernel
theorem dX8_wasOf_77 : decode cX8_wasOf 77 = .ok (.aload_n 0, 1) := by decide +kernel
theorem dX8_wasOf_78 : decode cX8_wasOf 78 = .ok (.invokevirtual 298, 3) := by decide +kernel
theorem dX8_wasOf_81 : decode cX8_wasOf 81 = .ok (.ifCond .eq 10, 3) := by decide +kernel
theorem dX8_wasOf_84 : decode cX8_wasOf 84 = .ok (.iconst 1, 1) := by decide +kernel
theorem dX8_wasOf_85 : decode cX8_wasOf 85 = .ok (.iload 6, 2) := by decide +kernel
theorem dX8_wasOf_87 : decode cX8_wasOf 87 = .ok (.ishl, 1) := by decide +kernel
theorem dX8_wasOf_88 : decode cX8_wasOf 88 = .ok (.goto 4, 3) := by decide +kernel
theorem dX8_wasOf_91 : decode cX8_wasOf 91 = .ok (.iconst 0, 1) := by decide +kernel
theorem dX8_wasOf_92 : decode cX8_wasOf 92 = .ok (.ior, 1) := by decide +kernel
theorem dX8_wasOf_93 : decode cX8_wasOf 93 = .ok (.istore 5, 2) := by decide +kernel
theorem dX8_wasOf_95 : decode cX8_wasOf 95 = .ok (.iconst 0, 1) := by decide +kernel
theorem dX8_wasOf_96 : decode cX8_wasOf 96 = .ok (.istore 7, 2) := by decide +kernel
theorem dX8_wasOf_98 : decode cX8_wasOf 98 = .ok (.iload 7, 2) := by decide +kernel
theorem dX8_wasOf_100 : decode cX8_wasOf 100 = .ok (.aload_n 0, 1) := by decide +kernel
theorem dX8_wasOf_101 : decode cX8_wasOf 101 = .ok (.getfield 147, 3) := by decide +kernel
theorem dX8_wasOf_104 : decode cX8_wasOf 104 = .ok (.if_icmp .ge 29, 3) := by decide +kernel
theorem dX8_wasOf_107 : decode cX8_wasOf 107 = .ok (.aload_n 0, 1) := by decide +kernel
theorem dX8_wasOf_108 : decode cX8_wasOf 108 = .ok (.getfield 98, 3) := by decide +kernel
theorem dX8_wasOf_111 : decode cX8_wasOf 111 = .ok (.bipush 8, 2) := by decide +kernel
theorem dX8_wasOf_113 : decode cX8_wasOf 113 = .ok (.iload 6, 2) := by decide +kernel
theorem dX8_wasOf_115 : decode cX8_wasOf 115 = .ok (.imul, 1) := by decide +kernel
theorem dX8_wasOf_116 : decode cX8_wasOf 116 = .ok (.iload 7, 2) := by decide +kernel
theorem dX8_wasOf_118 : decode cX8_wasOf 118 = .ok (.iadd, 1) := by decide +kernel
theorem dX8_wasOf_119 : decode cX8_wasOf 119 = .ok (.aload_n 0, 1) := by decide +kernel
theorem dX8_wasOf_120 : decode cX8_wasOf 120 = .ok (.getfield 46, 3) := by decide +kernel
theorem dX8_wasOf_123 : decode cX8_wasOf 123 = .ok (.iload 7, 2) := by decide +kernel
theorem dX8_wasOf_125 : decode cX8_wasOf 125 = .ok (.iaload, 1) := by decide +kernel
theorem dX8_wasOf_126 : decode cX8_wasOf 126 = .ok (.iastore, 1) := by decide +kernel
theorem dX8_wasOf_127 : decode cX8_wasOf 127 = .ok (.iinc 7 1, 3) := by decide +kernel
theorem dX8_wasOf_130 : decode cX8_wasOf 130 = .ok (.goto (-32), 3) := by decide +kernel
theorem dX8_wasOf_133 : decode cX8_wasOf 133 = .ok (.iinc 6 1, 3) := by decide +kernel
theorem dX8_wasOf_136 : decode cX8_wasOf 136 = .ok (.goto (-111), 3) := by decide +kernel
theorem dX8_wasOf_139 : decode cX8_wasOf 139 = .ok (.aload_n 0, 1) := by decide +kernel
theorem dX8_wasOf_140 : decode cX8_wasOf 140 = .ok (.getfield 19, 3) := by decide +kernel
theorem dX8_wasOf_143 : decode cX8_wasOf 143 = .ok (.iload_n 1, 1) := by decide +kernel
theorem dX8_wasOf_144 : decode cX8_wasOf 144 = .ok (.iload_n 3, 1) := by decide +kernel
theorem dX8_wasOf_145 : decode cX8_wasOf 145 = .ok (.iastore, 1) := by decide +kernel
theorem dX8_wasOf_146 : decode cX8_wasOf 146 = .ok (.aload_n 0, 1) := by decide +kernel
theorem dX8_wasOf_147 : decode cX8_wasOf 147 = .ok (.getfield 22, 3) := by decide +kernel
theorem dX8_wasOf_150 : decode cX8_wasOf 150 = .ok (.iload_n 1, 1) := by decide +kernel
theorem dX8_wasOf_151 : decode cX8_wasOf 151 = .ok (.iload 4, 2) := by decide +kernel
theorem dX8_wasOf_153 : decode cX8_wasOf 153 = .ok (.iastore, 1) := by decide +kernel
theorem dX8_wasOf_154 : decode cX8_wasOf 154 = .ok (.iload 5, 2) := by decide +kernel
theorem dX8_wasOf_156 : decode cX8_wasOf 156 = .ok (.ireturn, 1) := by decide +kernel
theorem dX8_was_0 : decode cX8_was 0 = .ok (.aload_n 0, 1) := by decide +kernel
theorem dX8_was_1 : decode cX8_was 1 = .ok (.iload_n 1, 1) := by decide +kernel
theorem dX8_was_2 : decode cX8_was 2 = .ok (.invokevirtual 166, 3) := by decide +kernel
theorem dX8_was_5 : decode cX8_was 5 = .ok (.ifCond .eq 21, 3) := by decide +kernel
theorem dX8_was_8 : decode cX8_was 8 = .ok (.iload_n 2, 1) := by decide +kernel
theorem dX8_was_9 : decode cX8_was 9 = .ok (.iconst 0, 1) := by decide +kernel
theorem dX8_was_10 : decode cX8_was 10 = .ok (.iconst 1, 1) := by decide +kernel
theorem dX8_was_11 : decode cX8_was 11 = .ok (.invokestatic 125, 3) := by decide +kernel
theorem dX8_was_14 : decode cX8_was 14 = .ok (.ifCond .eq 12, 3) := by decide +kernel
theorem dX8_was_17 : decode cX8_was 17 = .ok (.aload_n 0, 1) := by decide +kernel
theorem dX8_was_18 : decode cX8_was 18 = .ok (.iload_n 1, 1) := by decide +kernel
theorem dX8_was_19 : decode cX8_was 19 = .ok (.iload_n 2, 1) := by decide +kernel
theorem dX8_was_20 : decode cX8_was 20 = .ok (.invokevirtual 305, 3) := by decide +kernel
theorem dX8_was_23 : decode cX8_was 23 = .ok (.goto 5, 3) := by decide +kernel
theorem dX8_was_26 : decode cX8_was 26 = .ok (.bipush (-2), 2) := by decide +kernel
theorem dX8_was_28 : decode cX8_was 28 = .ok (.ireturn, 1) := by decide +kernel
theorem dX8_askOf_0 : decode cX8_askOf 0 = .ok (.aload_n 0, 1) := by decide +kernel
theorem dX8_askOf_1 : decode cX8_askOf 1 = .ok (.iload_n 1, 1) := by decide +kernel
theorem dX8_askOf_2 : decode cX8_askOf 2 = .ok (.iconst 0, 1) := by decide +kernel
theorem dX8_askOf_3 : decode cX8_askOf 3 = .ok (.invokevirtual 305, 3) := by decide +kernel
theorem dX8_askOf_6 : decode cX8_askOf 6 = .ok (.istore_n 2, 1) := by decide +kernel
theorem dX8_askOf_7 : decode cX8_askOf 7 = .ok (.iconst (-1), 1) := by decide +kernel
theorem dX8_askOf_8 : decode cX8_askOf 8 = .ok (.istore_n 3, 1) := by decide +kernel
theorem dX8_askOf_9 : decode cX8_askOf 9 = .ok (.iconst 0, 1) := by decide +kernel
theorem dX8_askOf_10 : decode cX8_askOf 10 = .ok (.istore 4, 2) := by decide +kernel
theorem dX8_askOf_12 : decode cX8_askOf 12 = .ok (.iconst 0, 1) := by decide +kernel
theorem dX8_askOf_13 : decode cX8_askOf 13 = .ok (.istore 5, 2) := by decide +kernel
theorem dX8_askOf_15 : decode cX8_askOf 15 = .ok (.iload 5, 2) := by decide +kernel
theorem dX8_askOf_17 : decode cX8_askOf 17 = .ok (.aload_n 0, 1) := by decide +kernel
theorem dX8_askOf_18 : decode cX8_askOf 18 = .ok (.getfield 147, 3) := by decide +kernel
theorem dX8_askOf_21 : decode cX8_askOf 21 = .ok (.if_icmp .ge 167, 3) := by decide +kernel
theorem dX8_askOf_24 : decode cX8_askOf 24 = .ok (.iconst 0, 1) := by decide +kernel
theorem dX8_askOf_25 : decode cX8_askOf 25 = .ok (.istore 6, 2) := by decide +kernel
theorem dX8_askOf_27 : decode cX8_askOf 27 = .ok (.iconst 0, 1) := by decide +kernel
theorem dX8_askOf_28 : decode cX8_askOf 28 = .ok (.istore 7, 2) := by decide +kernel
theorem dX8_askOf_30 : decode cX8_askOf 30 = .ok (.iload 7, 2) := by decide +kernel
theorem dX8_askOf_32 : decode cX8_askOf 32 = .ok (.bipush 10, 2) := by decide +kernel
theorem dX8_askOf_34 : decode cX8_askOf 34 = .ok (.if_icmp .ge 103, 3) := by decide +kernel
theorem dX8_askOf_37 : decode cX8_askOf 37 = .ok (.iconst 0, 1) := by decide +kernel
theorem dX8_askOf_38 : decode cX8_askOf 38 = .ok (.istore 8, 2) := by decide +kernel
theorem dX8_askOf_40 : decode cX8_askOf 40 = .ok (.iconst 0, 1) := by decide +kernel
theorem dX8_askOf_41 : decode cX8_askOf 41 = .ok (.istore 9, 2) := by decide +kernel
theorem dX8_askOf_43 : decode cX8_askOf 43 = .ok (.iload 9, 2) := by decide +kernel
theorem dX8_askOf_45 : decode cX8_askOf 45 = .ok (.bipush 10, 2) := by decide +kernel
theorem dX8_askOf_47 : decode cX8_askOf 47 = .ok (.if_icmp .ge 68, 3) := by decide +kernel
theorem dX8_askOf_50 : decode cX8_askOf 50 = .ok (.iload 8, 2) := by decide +kernel
theorem dX8_askOf_52 : decode cX8_askOf 52 = .ok (.iload_n 2, 1) := by decide +kernel
theorem dX8_askOf_53 : decode cX8_askOf 53 = .ok (.i2l, 1) := by decide +kernel
theorem dX8_askOf_54 : decode cX8_askOf 54 = .ok (.iload 7, 2) := by decide +kernel
theorem dX8_askOf_56 : decode cX8_askOf 56 = .ok (.invokestatic 196, 3) := by decide +kernel
theorem dX8_askOf_59 : decode cX8_askOf 59 = .ok (.ifCond .eq 46, 3) := by decide +kernel
theorem dX8_askOf_62 : decode cX8_askOf 62 = .ok (.iload_n 2, 1) := by decide +kernel
theorem dX8_askOf_63 : decode cX8_askOf 63 = .ok (.i2l, 1) := by decide +kernel
theorem dX8_askOf_64 : decode cX8_askOf 64 = .ok (.iload 9, 2) := by decide +kernel
theorem dX8_askOf_66 : decode cX8_askOf 66 = .ok (.invokestatic 196, 3) := by decide +kernel
theorem dX8_askOf_69 : decode cX8_askOf 69 = .ok (.ifCond .eq 36, 3) := by decide +kernel
theorem dX8_askOf_72 : decode cX8_askOf 72 = .ok (.aload_n 0, 1) := by decide +kernel
theorem dX8_askOf_73 : decode cX8_askOf 73 = .ok (.getfield 98, 3) := by decide +kernel
theorem dX8_askOf_76 : decode cX8_askOf 76 = .ok (.bipush 8, 2) := by decide +kernel
theorem dX8_askOf_78 : decode cX8_askOf 78 = .ok (.iload 7, 2) := by decide +kernel
theorem dX8_askOf_80 : decode cX8_askOf 80 = .ok (.imul, 1) := by decide +kernel
theorem dX8_askOf_81 : decode cX8_askOf 81 = .ok (.iload 5, 2) := by decide +kernel
theorem dX8_askOf_83 : decode cX8_askOf 83 = .ok (.iadd, 1) := by decide +kernel
theorem dX8_askOf_84 : decode cX8_askOf 84 = .ok (.iaload, 1) := by decide +kernel
theorem dX8_askOf_85 : decode cX8_askOf 85 = .ok (.aload_n 0, 1) := by decide +kernel
theorem dX8_askOf_86 : decode cX8_askOf 86 = .ok (.getfield 98, 3) := by decide +kernel
theorem dX8_askOf_89 : decode cX8_askOf 89 = .ok (.bipush 8, 2) := by decide +kernel
theorem dX8_askOf_91 : decode cX8_askOf 91 = .ok (.iload 9, 2) := by decide +kernel
theorem dX8_askOf_93 : decode cX8_askOf 93 = .ok (.imul, 1) := by decide +kernel
theorem dX8_askOf_94 : decode cX8_askOf 94 = .ok (.iload 5, 2) := by decide +kernel
theorem dX8_askOf_96 : decode cX8_askOf 96 = .ok (.iadd, 1) := by decide +kernel
theorem dX8_askOf_97 : decode cX8_askOf 97 = .ok (.iaload, 1) := by decide +kernel
theorem dX8_askOf_98 : decode cX8_askOf 98 = .ok (.if_icmp .ne 7, 3) := by decide +kernel
theorem dX8_askOf_101 : decode cX8_askOf 101 = .ok (.iconst 1, 1) := by decide +kernel
theorem dX8_askOf_102 : decode cX8_askOf 102 = .ok (.goto 4, 3) := by decide +kernel
theorem dX8_askOf_105 : decode cX8_askOf 105 = .ok (.iconst 0, 1) := by decide +kernel
theorem dX8_askOf_106 : decode cX8_askOf 106 = .ok (.iadd, 1) := by decide +kernel
theorem dX8_askOf_107 : decode cX8_askOf 107 = .ok (.istore 8, 2) := by decide +kernel
theorem dX8_askOf_109 : decode cX8_askOf 109 = .ok (.iinc 9 1, 3) := by decide +kernel
theorem dX8_askOf_112 : decode cX8_askOf 112 = .ok (.goto (-69), 3) := by decide +kernel
theorem dX8_askOf_115 : decode cX8_askOf 115 = .ok (.iload 8, 2) := by decide +kernel
theorem dX8_askOf_117 : decode cX8_askOf 117 = .ok (.iload 6, 2) := by decide +kernel
theorem dX8_askOf_119 : decode cX8_askOf 119 = .ok (.if_icmp .le 8, 3) := by decide +kernel
theorem dX8_askOf_122 : decode cX8_askOf 122 = .ok (.iload 8, 2) := by decide +kernel
theorem dX8_askOf_124 : decode cX8_askOf 124 = .ok (.goto 5, 3) := by decide +kernel
theorem dX8_askOf_127 : decode cX8_askOf 127 = .ok (.iload 6, 2) := by decide +kernel
theorem dX8_askOf_129 : decode cX8_askOf 129 = .ok (.istore 6, 2) := by decide +kernel
theorem dX8_askOf_131 : decode cX8_askOf 131 = .ok (.iinc 7 1, 3) := by decide +kernel
theorem dX8_askOf_134 : decode cX8_askOf 134 = .ok (.goto (-104), 3) := by decide +kernel
theorem dX8_askOf_137 : decode cX8_askOf 137 = .ok (.iload_n 3, 1) := by decide +kernel
theorem dX8_askOf_138 : decode cX8_askOf 138 = .ok (.iconst (-1), 1) := by decide +kernel
theorem dX8_askOf_139 : decode cX8_askOf 139 = .ok (.if_icmp .eq 10, 3) := by decide +kernel
theorem dX8_askOf_142 : decode cX8_askOf 142 = .ok (.iload 6, 2) := by decide +kernel
theorem dX8_askOf_144 : decode cX8_askOf 144 = .ok (.iload 4, 2) := by decide +kernel
theorem dX8_askOf_146 : decode cX8_askOf 146 = .ok (.if_icmp .ge 7, 3) := by decide +kernel
theorem dX8_askOf_149 : decode cX8_askOf 149 = .ok (.iconst 1, 1) := by decide +kernel
theorem dX8_askOf_150 : decode cX8_askOf 150 = .ok (.goto 4, 3) := by decide +kernel
theorem dX8_askOf_153 : decode cX8_askOf 153 = .ok (.iconst 0, 1) := by decide +kernel
theorem dX8_askOf_154 : decode cX8_askOf 154 = .ok (.istore 7, 2) := by decide +kernel
theorem dX8_askOf_156 : decode cX8_askOf 156 = .ok (.iload 7, 2) := by decide +kernel
theorem dX8_askOf_158 : decode cX8_askOf 158 = .ok (.ifCond .eq 8, 3) := by decide +kernel
theorem dX8_askOf_161 : decode cX8_askOf 161 = .ok (.iload 5, 2) := by decide +kernel
theorem dX8_askOf_163 : decode cX8_askOf 163 = .ok (.goto 4, 3) := by decide +kernel
theorem dX8_askOf_166 : decode cX8_askOf 166 = .ok (.iload_n 3, 1) := by decide +kernel
theorem dX8_askOf_167 : decode cX8_askOf 167 = .ok (.istore_n 3, 1) := by decide +kernel
theorem dX8_askOf_168 : decode cX8_askOf 168 = .ok (.iload 7, 2) := by decide +kernel
theorem dX8_askOf_170 : decode cX8_askOf 170 = .ok (.ifCond .eq 8, 3) := by decide +kernel
theorem dX8_askOf_173 : decode cX8_askOf 173 = .ok (.iload 6, 2) := by decide +kernel
theorem dX8_askOf_175 : decode cX8_askOf 175 = .ok (.goto 5, 3) := by decide +kernel
theorem dX8_askOf_178 : decode cX8_askOf 178 = .ok (.iload 4, 2) := by decide +kernel
theorem dX8_askOf_180 : decode cX8_askOf 180 = .ok (.istore 4, 2) := by decide +kernel
theorem dX8_askOf_182 : decode cX8_askOf 182 = .ok (.iinc 5 1, 3) := by decide +kernel
theorem dX8_askOf_185 : decode cX8_askOf 185 = .ok (.goto (-170), 3) := by decide +kernel
theorem dX8_askOf_188 : decode cX8_askOf 188 = .ok (.iload_n 3, 1) := by decide +kernel
theorem dX8_askOf_189 : decode cX8_askOf 189 = .ok (.ireturn, 1) := by decide +kernel
theorem dX8_ask_0 : decode cX8_ask 0 = .ok (.aload_n 0, 1) := by decide +kernel
theorem dX8_ask_1 : decode cX8_ask 1 = .ok (.iload_n 1, 1) := by decide +kernel
theorem dX8_ask_2 : decode cX8_ask 2 = .ok (.invokevirtual 166, 3) := by decide +kernel
theorem dX8_ask_5 : decode cX8_ask 5 = .ok (.ifCond .eq 11, 3) := by decide +kernel
theorem dX8_ask_8 : decode cX8_ask 8 = .ok (.aload_n 0, 1) := by decide +kernel
theorem dX8_ask_9 : decode cX8_ask 9 = .ok (.iload_n 1, 1) := by decide +kernel
theorem dX8_ask_10 : decode cX8_ask 10 = .ok (.invokevirtual 308, 3) := by decide +kernel
theorem dX8_ask_13 : decode cX8_ask 13 = .ok (.goto 5, 3) := by decide +kernel
theorem dX8_ask_16 : decode cX8_ask 16 = .ok (.bipush (-2), 2) := by decide +kernel
theorem dX8_ask_18 : decode cX8_ask 18 = .ok (.ireturn, 1) := by decide +kernel
theorem dX8_gustOf_0 : decode cX8_gustOf 0 = .ok (.aload_n 0, 1) := by decide +kernel
theorem dX8_gustOf_1 : decode cX8_gustOf 1 = .ok (.invokevirtual 242, 3) := by decide +kernel
theorem dX8_gustOf_4 : decode cX8_gustOf 4 = .ok (.lconst 0, 1) := by decide +kernel
theorem dX8_gustOf_5 : decode cX8_gustOf 5 = .ok (.lstore 5, 2) := by decide +kernel
theorem dX8_gustOf_7 : decode cX8_gustOf 7 = .ok (.iconst 0, 1) := by decide +kernel
theorem dX8_gustOf_8 : decode cX8_gustOf 8 = .ok (.istore 7, 2) := by decide +kernel
theorem dX8_gustOf_10 : decode cX8_gustOf 10 = .ok (.iload 7, 2) := by decide +kernel
theorem dX8_gustOf_12 : decode cX8_gustOf 12 = .ok (.iconst 1, 1) := by decide +kernel
theorem dX8_gustOf_13 : decode cX8_gustOf 13 = .ok (.aload_n 0, 1) := by decide +kernel
theorem dX8_gustOf_14 : decode cX8_gustOf 14 = .ok (.getfield 181, 3) := by decide +kernel
theorem dX8_gustOf_17 : decode cX8_gustOf 17 = .ok (.ishl, 1) := by decide +kernel
theorem dX8_gustOf_18 : decode cX8_gustOf 18 = .ok (.if_icmp .ge 101, 3) := by decide +kernel
theorem dX8_gustOf_21 : decode cX8_gustOf 21 = .ok (.lconst 1, 1) := by decide +kernel
theorem dX8_gustOf_22 : decode cX8_gustOf 22 = .ok (.lstore 8, 2) := by decide +kernel
theorem dX8_gustOf_24 : decode cX8_gustOf 24 = .ok (.iconst 0, 1) := by decide +kernel
theorem dX8_gustOf_25 : decode cX8_gustOf 25 = .ok (.istore 10, 2) := by decide +kernel
theorem dX8_gustOf_27 : decode cX8_gustOf 27 = .ok (.iload 10, 2) := by decide +kernel
theorem dX8_gustOf_29 : decode cX8_gustOf 29 = .ok (.aload_n 0, 1) := by decide +kernel
theorem dX8_gustOf_30 : decode cX8_gustOf 30 = .ok (.getfield 181, 3) := by decide +kernel
theorem dX8_gustOf_33 : decode cX8_gustOf 33 = .ok (.if_icmp .ge 35, 3) := by decide +kernel
theorem dX8_gustOf_36 : decode cX8_gustOf 36 = .ok (.lload 8, 2) := by decide +kernel
theorem dX8_gustOf_38 : decode cX8_gustOf 38 = .ok (.iload 7, 2) := by decide +kernel
theorem dX8_gustOf_40 : decode cX8_gustOf 40 = .ok (.i2l, 1) := by decide +kernel
theorem dX8_gustOf_41 : decode cX8_gustOf 41 = .ok (.iload 10, 2) := by decide +kernel
theorem dX8_gustOf_43 : decode cX8_gustOf 43 = .ok (.invokestatic 196, 3) := by decide +kernel
theorem dX8_gustOf_46 : decode cX8_gustOf 46 = .ok (.ifCond .eq 11, 3) := by decide +kernel
theorem dX8_gustOf_49 : decode cX8_gustOf 49 = .ok (.bipush 16, 2) := by decide +kernel
theorem dX8_gustOf_51 : decode cX8_gustOf 51 = .ok (.iload_n 1, 1) := by decide +kernel
theorem dX8_gustOf_52 : decode cX8_gustOf 52 = .ok (.isub, 1) := by decide +kernel
theorem dX8_gustOf_53 : decode cX8_gustOf 53 = .ok (.i2l, 1) := by decide +kernel
theorem dX8_gustOf_54 : decode cX8_gustOf 54 = .ok (.goto 5, 3) := by decide +kernel
theorem dX8_gustOf_57 : decode cX8_gustOf 57 = .ok (.iload_n 1, 1) := by decide +kernel
theorem dX8_gustOf_58 : decode cX8_gustOf 58 = .ok (.i2l, 1) := by decide +kernel
theorem dX8_gustOf_59 : decode cX8_gustOf 59 = .ok (.lmul, 1) := by decide +kernel
theorem dX8_gustOf_60 : decode cX8_gustOf 60 = .ok (.lstore 8, 2) := by decide +kernel
theorem dX8_gustOf_62 : decode cX8_gustOf 62 = .ok (.iinc 10 1, 3) := by decide +kernel
theorem dX8_gustOf_65 : decode cX8_gustOf 65 = .ok (.goto (-38), 3) := by decide +kernel
theorem dX8_gustOf_68 : decode cX8_gustOf 68 = .ok (.aload_n 0, 1) := by decide +kernel
theorem dX8_gustOf_69 : decode cX8_gustOf 69 = .ok (.aload_n 0, 1) := by decide +kernel
theorem dX8_gustOf_70 : decode cX8_gustOf 70 = .ok (.iload 7, 2) := by decide +kernel
theorem dX8_gustOf_72 : decode cX8_gustOf 72 = .ok (.invokevirtual 204, 3) := by decide +kernel
theorem dX8_gustOf_75 : decode cX8_gustOf 75 = .ok (.putfield 208, 3) := by decide +kernel
theorem dX8_gustOf_78 : decode cX8_gustOf 78 = .ok (.aload_n 0, 1) := by decide +kernel
theorem dX8_gustOf_79 : decode cX8_gustOf 79 = .ok (.invokevirtual 245, 3) := by decide +kernel
theorem dX8_gustOf_82 : decode cX8_gustOf 82 = .ok (.lload 5, 2) := by decide +kernel
theorem dX8_gustOf_84 : decode cX8_gustOf 84 = .ok (.aload_n 0, 1) := by decide +kernel
theorem dX8_gustOf_85 : decode cX8_gustOf 85 = .ok (.getfield 62, 3) := by decide +kernel
theorem dX8_gustOf_88 : decode cX8_gustOf 88 = .ok (.iload_n 2, 1) := by decide +kernel
theorem dX8_gustOf_89 : decode cX8_gustOf 89 = .ok (.iaload, 1) := by decide +kernel
theorem dX8_gustOf_90 : decode cX8_gustOf 90 = .ok (.iconst (-1), 1) := by decide +kernel
theorem dX8_gustOf_91 : decode cX8_gustOf 91 = .ok (.if_icmp .eq 18, 3) := by decide +kernel
theorem dX8_gustOf_94 : decode cX8_gustOf 94 = .ok (.aload_n 0, 1) := by decide +kernel
theorem dX8_gustOf_95 : decode cX8_gustOf 95 = .ok (.getfield 46, 3) := by decide +kernel
theorem dX8_gustOf_98 : decode cX8_gustOf 98 = .ok (.iload_n 2, 1) := by decide +kernel
theorem dX8_gustOf_99 : decode cX8_gustOf 99 = .ok (.iaload, 1) := by decide +kernel
theorem dX8_gustOf_100 : decode cX8_gustOf 100 = .ok (.iload_n 3, 1) := by decide +kernel
theorem dX8_gustOf_101 : decode cX8_gustOf 101 = .ok (.if_icmp .lt 8, 3) := by decide +kernel
theorem dX8_gustOf_104 : decode cX8_gustOf 104 = .ok (.lload 8, 2) := by decide +kernel
theorem dX8_gustOf_106 : decode cX8_gustOf 106 = .ok (.goto 4, 3) := by decide +kernel
theorem dX8_gustOf_109 : decode cX8_gustOf 109 = .ok (.lconst 0, 1) := by decide +kernel
theorem dX8_gustOf_110 : decode cX8_gustOf 110 = .ok (.ladd, 1) := by decide +kernel
theorem dX8_gustOf_111 : decode cX8_gustOf 111 = .ok (.lstore 5, 2) := by decide +kernel
theorem dX8_gustOf_113 : decode cX8_gustOf 113 = .ok (.iinc 7 1, 3) := by decide +kernel
theorem dX8_gustOf_116 : decode cX8_gustOf 116 = .ok (.goto (-106), 3) := by decide +kernel
theorem dX8_gustOf_119 : decode cX8_gustOf 119 = .ok (.lload 5, 2) := by decide +kernel
theorem dX8_gustOf_121 : decode cX8_gustOf 121 = .ok (.lconst 1, 1) := by decide +kernel
theorem dX8_gustOf_122 : decode cX8_gustOf 122 = .ok (.iconst 4, 1) := by decide +kernel
theorem dX8_gustOf_123 : decode cX8_gustOf 123 = .ok (.aload_n 0, 1) := by decide +kernel
theorem dX8_gustOf_124 : decode cX8_gustOf 124 = .ok (.getfield 181, 3) := by decide +kernel
theorem dX8_gustOf_127 : decode cX8_gustOf 127 = .ok (.imul, 1) := by decide +kernel
theorem dX8_gustOf_128 : decode cX8_gustOf 128 = .ok (.lshl, 1) := by decide +kernel
theorem dX8_gustOf_129 : decode cX8_gustOf 129 = .ok (.iload 4, 2) := by decide +kernel
theorem dX8_gustOf_131 : decode cX8_gustOf 131 = .ok (.invokestatic 311, 3) := by decide +kernel
theorem dX8_gustOf_134 : decode cX8_gustOf 134 = .ok (.lreturn, 1) := by decide +kernel
theorem dX8_gust_0 : decode cX8_gust 0 = .ok (.iload_n 1, 1) := by decide +kernel
theorem dX8_gust_1 : decode cX8_gust 1 = .ok (.iconst 0, 1) := by decide +kernel
theorem dX8_gust_2 : decode cX8_gust 2 = .ok (.bipush 16, 2) := by decide +kernel
theorem dX8_gust_4 : decode cX8_gust 4 = .ok (.invokestatic 125, 3) := by decide +kernel
theorem dX8_gust_7 : decode cX8_gust 7 = .ok (.ifCond .eq 43, 3) := by decide +kernel
theorem dX8_gust_10 : decode cX8_gust 10 = .ok (.aload_n 0, 1) := by decide +kernel
theorem dX8_gust_11 : decode cX8_gust 11 = .ok (.iload_n 2, 1) := by decide +kernel
theorem dX8_gust_12 : decode cX8_gust 12 = .ok (.invokevirtual 172, 3) := by decide +kernel
theorem dX8_gust_15 : decode cX8_gust 15 = .ok (.ifCond .eq 35, 3) := by decide +kernel
theorem dX8_gust_18 : decode cX8_gust 18 = .ok (.iload_n 3, 1) := by decide +kernel
theorem dX8_gust_19 : decode cX8_gust 19 = .ok (.iconst 0, 1) := by decide +kernel
theorem dX8_gust_20 : decode cX8_gust 20 = .ok (.bipush 99, 2) := by decide +kernel
theorem dX8_gust_22 : decode cX8_gust 22 = .ok (.invokestatic 125, 3) := by decide +kernel
theorem dX8_gust_25 : decode cX8_gust 25 = .ok (.ifCond .eq 25, 3) := by decide +kernel
theorem dX8_gust_28 : decode cX8_gust 28 = .ok (.iload 4, 2) := by decide +kernel
theorem dX8_gust_30 : decode cX8_gust 30 = .ok (.iconst 0, 1) := by decide +kernel
theorem dX8_gust_31 : decode cX8_gust 31 = .ok (.iconst 1, 1) := by decide +kernel
theorem dX8_gust_32 : decode cX8_gust 32 = .ok (.invokestatic 125, 3) := by decide +kernel
theorem dX8_gust_35 : decode cX8_gust 35 = .ok (.ifCond .eq 15, 3) := by decide +kernel
theorem dX8_gust_38 : decode cX8_gust 38 = .ok (.aload_n 0, 1) := by decide +kernel
theorem dX8_gust_39 : decode cX8_gust 39 = .ok (.iload_n 1, 1) := by decide +kernel
theorem dX8_gust_40 : decode cX8_gust 40 = .ok (.iload_n 2, 1) := by decide +kernel
theorem dX8_gust_41 : decode cX8_gust 41 = .ok (.iload_n 3, 1) := by decide +kernel
theorem dX8_gust_42 : decode cX8_gust 42 = .ok (.iload 4, 2) := by decide +kernel
theorem dX8_gust_44 : decode cX8_gust 44 = .ok (.invokevirtual 315, 3) := by decide +kernel
theorem dX8_gust_47 : decode cX8_gust 47 = .ok (.goto 8, 3) := by decide +kernel
theorem dX8_gust_50 : decode cX8_gust 50 = .ok (.bipush (-2), 2) := by decide +kernel
theorem dX8_gust_52 : decode cX8_gust 52 = .ok (.invokestatic 319, 3) := by decide +kernel
theorem dX8_gust_55 : decode cX8_gust 55 = .ok (.lreturn, 1) := by decide +kernel
theorem dX8_bitesAll_0 : decode cX8_bitesAll 0 = .ok (.iconst 0, 1) := by decide +kernel
theorem dX8_bitesAll_1 : decode cX8_bitesAll 1 = .ok (.istore_n 1, 1) := by decide +kernel
theorem dX8_bitesAll_2 : decode cX8_bitesAll 2 = .ok (.iconst 0, 1) := by decide +kernel
theorem dX8_bitesAll_3 : decode cX8_bitesAll 3 = .ok (.istore_n 2, 1) := by decide +kernel
theorem dX8_bitesAll_4 : decode cX8_bitesAll 4 = .ok (.iload_n 2, 1) := by decide +kernel
theorem dX8_bitesAll_5 : decode cX8_bitesAll 5 = .ok (.aload_n 0, 1) := by decide +kernel
theorem dX8_bitesAll_6 : decode cX8_bitesAll 6 = .ok (.getfield 144, 3) := by decide +kernel
theorem dX8_bitesAll_9 : decode cX8_bitesAll 9 = .ok (.if_icmp .ge 18, 3) := by decide +kernel
theorem dX8_bitesAll_12 : decode cX8_bitesAll 12 = .ok (.iload_n 1, 1) := by decide +kernel
theorem dX8_bitesAll_13 : decode cX8_bitesAll 13 = .ok (.aload_n 0, 1) := by decide +kernel
theorem dX8_bitesAll_14 : decode cX8_bitesAll 14 = .ok (.getfield 68, 3) := by decide +kernel
theorem dX8_bitesAll_17 : decode cX8_bitesAll 17 = .ok (.iload_n 2, 1) := by decide +kernel
theorem dX8_bitesAll_18 : decode cX8_bitesAll 18 = .ok (.iaload, 1) := by decide +kernel
theorem dX8_bitesAll_19 : decode cX8_bitesAll 19 = .ok (.iadd, 1) := by decide +kernel
theorem dX8_bitesAll_20 : decode cX8_bitesAll 20 = .ok (.istore_n 1, 1) := by decide +kernel
theorem dX8_bitesAll_21 : decode cX8_bitesAll 21 = .ok (.iinc 2 1, 3) := by decide +kernel
theorem dX8_bitesAll_24 : decode cX8_bitesAll 24 = .ok (.goto (-20), 3) := by decide +kernel
theorem dX8_bitesAll_27 : decode cX8_bitesAll 27 = .ok (.iload_n 1, 1) := by decide +kernel
theorem dX8_bitesAll_28 : decode cX8_bitesAll 28 = .ok (.ireturn, 1) := by decide +kernel
theorem dX8_weekOf_0 : decode cX8_weekOf 0 = .ok (.aload_n 0, 1) := by decide +kernel
theorem dX8_weekOf_1 : decode cX8_weekOf 1 = .ok (.invokevirtual 242, 3) := by decide +kernel
theorem dX8_weekOf_4 : decode cX8_weekOf 4 = .ok (.iload_n 1, 1) := by decide +kernel
theorem dX8_weekOf_5 : decode cX8_weekOf 5 = .ok (.istore 4, 2) := by decide +kernel
theorem dX8_weekOf_7 : decode cX8_weekOf 7 = .ok (.aload_n 0, 1) := by decide +kernel
theorem dX8_weekOf_8 : decode cX8_weekOf 8 = .ok (.lconst 0, 1) := by decide +kernel
theorem dX8_weekOf_9 : decode cX8_weekOf 9 = .ok (.putfield 212, 3) := by decide +kernel
theorem dX8_weekOf_12 : decode cX8_weekOf 12 = .ok (.iconst 0, 1) := by decide +kernel
theorem dX8_weekOf_13 : decode cX8_weekOf 13 = .ok (.istore 5, 2) := by decide +kernel
theorem dX8_weekOf_15 : decode cX8_weekOf 15 = .ok (.iload 5, 2) := by decide +kernel
theorem dX8_weekOf_17 : decode cX8_weekOf 17 = .ok (.iload_n 2, 1) := by decide +kernel
theorem dX8_weekOf_18 : decode cX8_weekOf 18 = .ok (.if_icmp .ge 40, 3) := by decide +kernel
theorem dX8_weekOf_21 : decode cX8_weekOf 21 = .ok (.ldc_w 322, 3) := by decide +kernel
theorem dX8_weekOf_24 : decode cX8_weekOf 24 = .ok (.iload 4, 2) := by decide +kernel
theorem dX8_weekOf_26 : decode cX8_weekOf 26 = .ok (.imul, 1) := by decide +kernel
theorem dX8_weekOf_27 : decode cX8_weekOf 27 = .ok (.sipush 12345, 3) := by decide +kernel
theorem dX8_weekOf_30 : decode cX8_weekOf 30 = .ok (.iadd, 1) := by decide +kernel
theorem dX8_weekOf_31 : decode cX8_weekOf 31 = .ok (.istore 4, 2) := by decide +kernel
theorem dX8_weekOf_33 : decode cX8_weekOf 33 = .ok (.aload_n 0, 1) := by decide +kernel
theorem dX8_weekOf_34 : decode cX8_weekOf 34 = .ok (.aload_n 0, 1) := by decide +kernel
theorem dX8_weekOf_35 : decode cX8_weekOf 35 = .ok (.getfield 212, 3) := by decide +kernel
theorem dX8_weekOf_38 : decode cX8_weekOf 38 = .ok (.iload 4, 2) := by decide +kernel
theorem dX8_weekOf_40 : decode cX8_weekOf 40 = .ok (.bipush 16, 2) := by decide +kernel
theorem dX8_weekOf_42 : decode cX8_weekOf 42 = .ok (.iushr, 1) := by decide +kernel
theorem dX8_weekOf_43 : decode cX8_weekOf 43 = .ok (.bipush 40, 2) := by decide +kernel
theorem dX8_weekOf_45 : decode cX8_weekOf 45 = .ok (.irem, 1) := by decide +kernel
theorem dX8_weekOf_46 : decode cX8_weekOf 46 = .ok (.invokestatic 200, 3) := by decide +kernel
theorem dX8_weekOf_49 : decode cX8_weekOf 49 = .ok (.putfield 212, 3) := by decide +kernel
theorem dX8_weekOf_52 : decode cX8_weekOf 52 = .ok (.iinc 5 1, 3) := by decide +kernel
theorem dX8_weekOf_55 : decode cX8_weekOf 55 = .ok (.goto (-40), 3) := by decide +kernel
theorem dX8_weekOf_58 : decode cX8_weekOf 58 = .ok (.aload_n 0, 1) := by decide +kernel
theorem dX8_weekOf_59 : decode cX8_weekOf 59 = .ok (.invokevirtual 245, 3) := by decide +kernel
theorem dX8_weekOf_62 : decode cX8_weekOf 62 = .ok (.iload_n 3, 1) := by decide +kernel
theorem dX8_weekOf_63 : decode cX8_weekOf 63 = .ok (.ifCond .ne 10, 3) := by decide +kernel
theorem dX8_weekOf_66 : decode cX8_weekOf 66 = .ok (.aload_n 0, 1) := by decide +kernel
theorem dX8_weekOf_67 : decode cX8_weekOf 67 = .ok (.invokevirtual 264, 3) := by decide +kernel
theorem dX8_weekOf_70 : decode cX8_weekOf 70 = .ok (.goto 7, 3) := by decide +kernel
theorem dX8_weekOf_73 : decode cX8_weekOf 73 = .ok (.aload_n 0, 1) := by decide +kernel
theorem dX8_weekOf_74 : decode cX8_weekOf 74 = .ok (.invokevirtual 323, 3) := by decide +kernel
theorem dX8_weekOf_77 : decode cX8_weekOf 77 = .ok (.ireturn, 1) := by decide +kernel
theorem dX8_week_0 : decode cX8_week 0 = .ok (.iload_n 2, 1) := by decide +kernel
theorem dX8_week_1 : decode cX8_week 1 = .ok (.iconst 0, 1) := by decide +kernel
theorem dX8_week_2 : decode cX8_week 2 = .ok (.bipush 6, 2) := by decide +kernel
theorem dX8_week_4 : decode cX8_week 4 = .ok (.invokestatic 125, 3) := by decide +kernel
theorem dX8_week_7 : decode cX8_week 7 = .ok (.ifCond .eq 22, 3) := by decide +kernel
theorem dX8_week_10 : decode cX8_week 10 = .ok (.iload_n 3, 1) := by decide +kernel
theorem dX8_week_11 : decode cX8_week 11 = .ok (.iconst 0, 1) := by decide +kernel
theorem dX8_week_12 : decode cX8_week 12 = .ok (.iconst 1, 1) := by decide +kernel
theorem dX8_week_13 : decode cX8_week 13 = .ok (.invokestatic 125, 3) := by decide +kernel
theorem dX8_week_16 : decode cX8_week 16 = .ok (.ifCond .eq 13, 3) := by decide +kernel
theorem dX8_week_19 : decode cX8_week 19 = .ok (.aload_n 0, 1) := by decide +kernel
theorem dX8_week_20 : decode cX8_week 20 = .ok (.iload_n 1, 1) := by decide +kernel
theorem dX8_week_21 : decode cX8_week 21 = .ok (.iload_n 2, 1) := by decide +kernel
theorem dX8_week_22 : decode cX8_week 22 = .ok (.iload_n 3, 1) := by decide +kernel
theorem dX8_week_23 : decode cX8_week 23 = .ok (.invokevirtual 326, 3) := by decide +kernel
theorem dX8_week_26 : decode cX8_week 26 = .ok (.goto 5, 3) := by decide +kernel
theorem dX8_week_29 : decode cX8_week 29 = .ok (.bipush (-2), 2) := by decide +kernel
theorem dX8_week_31 : decode cX8_week 31 = .ok (.ireturn, 1) := by decide +kernel
theorem dX8_meets_0 : decode cX8_meets 0 = .ok (.aload_n 0, 1) := by decide +kernel
theorem dX8_meets_1 : decode cX8_meets 1 = .ok (.iload_n 1, 1) := by decide +kernel
theorem dX8_meets_2 : decode cX8_meets 2 = .ok (.putfield 329, 3) := by decide +kernel
theorem dX8_meets_5 : decode cX8_meets 5 = .ok (.bipush (-10), 2) := by decide +kernel
theorem dX8_meets_7 : decode cX8_meets 7 = .ok (.iload_n 1, 1) := by decide +kernel
theorem dX8_meets_8 : decode cX8_meets 8 = .ok (.isub, 1) := by decide +kernel
theorem dX8_meets_9 : decode cX8_meets 9 = .ok (.ireturn, 1) := by decide +kernel
theorem dX8_isSheet_0 : decode cX8_isSheet 0 = .ok (.iload_n 0, 1) := by decide +kernel
theorem dX8_isSheet_1 : decode cX8_isSheet 1 = .ok (.iconst 0, 1) := by decide +kernel
theorem dX8_isSheet_2 : decode cX8_isSheet 2 = .ok (.iconst 3, 1) := by decide +kernel
theorem dX8_isSheet_3 : decode cX8_isSheet 3 = .ok (.invokestatic 125, 3) := by decide +kernel
theorem dX8_isSheet_6 : decode cX8_isSheet 6 = .ok (.ireturn, 1) := by decide +kernel
theorem dX8_sheet_0 : decode cX8_sheet 0 = .ok (.iload_n 1, 1) := by decide +kernel
theorem dX8_sheet_1 : decode cX8_sheet 1 = .ok (.invokestatic 187, 3) := by decide +kernel
theorem dX8_sheet_4 : decode cX8_sheet 4 = .ok (.ifCond .eq 18, 3) := by decide +kernel
theorem dX8_sheet_7 : decode cX8_sheet 7 = .ok (.iload_n 2, 1) := by decide +kernel
theorem dX8_sheet_8 : decode cX8_sheet 8 = .ok (.iconst 0, 1) := by decide +kernel
theorem dX8_sheet_9 : decode cX8_sheet 9 = .ok (.iconst 2, 1) := by decide +kernel
theorem dX8_sheet_10 : decode cX8_sheet 10 = .ok (.invokestatic 125, 3) := by decide +kernel
theorem dX8_sheet_13 : decode cX8_sheet 13 = .ok (.ifCond .eq 9, 3) := by decide +kernel
theorem dX8_sheet_16 : decode cX8_sheet 16 = .ok (.iload_n 3, 1) := by decide +kernel
theorem dX8_sheet_17 : decode cX8_sheet 17 = .ok (.bipush 60, 2) := by decide +kernel
theorem dX8_sheet_19 : decode cX8_sheet 19 = .ok (.if_icmp .le 6, 3) := by decide +kernel
theorem dX8_sheet_22 : decode cX8_sheet 22 = .ok (.bipush (-2), 2) := by decide +kernel
theorem dX8_sheet_24 : decode cX8_sheet 24 = .ok (.ireturn, 1) := by decide +kernel
theorem dX8_sheet_25 : decode cX8_sheet 25 = .ok (.iload_n 3, 1) := by decide +kernel
theorem dX8_sheet_26 : decode cX8_sheet 26 = .ok (.ifCond .ge 9, 3) := by decide +kernel
theorem dX8_sheet_29 : decode cX8_sheet 29 = .ok (.aload_n 0, 1) := by decide +kernel
theorem dX8_sheet_30 : decode cX8_sheet 30 = .ok (.iconst 5, 1) := by decide +kernel
theorem dX8_sheet_31 : decode cX8_sheet 31 = .ok (.invokevirtual 190, 3) := by decide +kernel
theorem dX8_sheet_34 : decode cX8_sheet 34 = .ok (.ireturn, 1) := by decide +kernel
theorem dX8_sheet_35 : decode cX8_sheet 35 = .ok (.aload_n 0, 1) := by decide +kernel
theorem dX8_sheet_36 : decode cX8_sheet 36 = .ok (.getfield 101, 3) := by decide +kernel
theorem dX8_sheet_39 : decode cX8_sheet 39 = .ok (.iload_n 1, 1) := by decide +kernel
theorem dX8_sheet_40 : decode cX8_sheet 40 = .ok (.iconst 1, 1) := by decide +kernel
theorem dX8_sheet_41 : decode cX8_sheet 41 = .ok (.bastore, 1) := by decide +kernel
theorem dX8_sheet_42 : decode cX8_sheet 42 = .ok (.aload_n 0, 1) := by decide +kernel
theorem dX8_sheet_43 : decode cX8_sheet 43 = .ok (.getfield 104, 3) := by decide +kernel
theorem dX8_sheet_46 : decode cX8_sheet 46 = .ok (.iload_n 1, 1) := by decide +kernel
theorem dX8_sheet_47 : decode cX8_sheet 47 = .ok (.iload_n 2, 1) := by decide +kernel
theorem dX8_sheet_48 : decode cX8_sheet 48 = .ok (.iastore, 1) := by decide +kernel
theorem dX8_sheet_49 : decode cX8_sheet 49 = .ok (.aload_n 0, 1) := by decide +kernel
theorem dX8_sheet_50 : decode cX8_sheet 50 = .ok (.getfield 107, 3) := by decide +kernel
theorem dX8_sheet_53 : decode cX8_sheet 53 = .ok (.iload_n 1, 1) := by decide +kernel
theorem dX8_sheet_54 : decode cX8_sheet 54 = .ok (.iload_n 3, 1) := by decide +kernel
theorem dX8_sheet_55 : decode cX8_sheet 55 = .ok (.iastore, 1) := by decide +kernel
theorem dX8_sheet_56 : decode cX8_sheet 56 = .ok (.iconst 0, 1) := by decide +kernel
theorem dX8_sheet_57 : decode cX8_sheet 57 = .ok (.istore 4, 2) := by decide +kernel
theorem dX8_sheet_59 : decode cX8_sheet 59 = .ok (.iload 4, 2) := by decide +kernel
theorem dX8_sheet_61 : decode cX8_sheet 61 = .ok (.bipush 60, 2) := by decide +kernel
theorem dX8_sheet_63 : decode cX8_sheet 63 = .ok (.if_icmp .ge 22, 3) := by decide +kernel
theorem dX8_sheet_66 : decode cX8_sheet 66 = .ok (.aload_n 0, 1) := by decide +kernel
theorem dX8_sheet_67 : decode cX8_sheet 67 = .ok (.getfield 110, 3) := by decide +kernel
theorem dX8_sheet_70 : decode cX8_sheet 70 = .ok (.bipush 60, 2) := by decide +kernel
theorem dX8_sheet_72 : decode cX8_sheet 72 = .ok (.iload_n 1, 1) := by decide +kernel
theorem dX8_sheet_73 : decode cX8_sheet 73 = .ok (.imul, 1) := by decide +kernel
theorem dX8_sheet_74 : decode cX8_sheet 74 = .ok (.iload 4, 2) := by decide +kernel
theorem dX8_sheet_76 : decode cX8_sheet 76 = .ok (.iadd, 1) := by decide +kernel
theorem dX8_sheet_77 : decode cX8_sheet 77 = .ok (.iconst 0, 1) := by decide +kernel
theorem dX8_sheet_78 : decode cX8_sheet 78 = .ok (.iastore, 1) := by decide +kernel
theorem dX8_sheet_79 : decode cX8_sheet 79 = .ok (.iinc 4 1, 3) := by decide +kernel
theorem dX8_sheet_82 : decode cX8_sheet 82 = .ok (.goto (-23), 3) := by decide +kernel
theorem dX8_sheet_85 : decode cX8_sheet 85 = .ok (.iload_n 3, 1) := by decide +kernel
theorem dX8_sheet_86 : decode cX8_sheet 86 = .ok (.ireturn, 1) := by decide +kernel
theorem dX8_lose_0 : decode cX8_lose 0 = .ok (.iload_n 1, 1) := by decide +kernel
theorem dX8_lose_1 : decode cX8_lose 1 = .ok (.invokestatic 187, 3) := by decide +kernel
theorem dX8_lose_4 : decode cX8_lose 4 = .ok (.ifCond .ne 6, 3) := by decide +kernel
theorem dX8_lose_7 : decode cX8_lose 7 = .ok (.bipush (-2), 2) := by decide +kernel
theorem dX8_lose_9 : decode cX8_lose 9 = .ok (.ireturn, 1) := by decide +kernel
theorem dX8_lose_10 : decode cX8_lose 10 = .ok (.aload_n 0, 1) := by decide +kernel
theorem dX8_lose_11 : decode cX8_lose 11 = .ok (.getfield 101, 3) := by decide +kernel
theorem dX8_lose_14 : decode cX8_lose 14 = .ok (.iload_n 1, 1) := by decide +kernel
theorem dX8_lose_15 : decode cX8_lose 15 = .ok (.baload, 1) := by decide +kernel
theorem dX8_lose_16 : decode cX8_lose 16 = .ok (.ifCond .ne 9, 3) := by decide +kernel
theorem dX8_lose_19 : decode cX8_lose 19 = .ok (.aload_n 0, 1) := by decide +kernel
theorem dX8_lose_20 : decode cX8_lose 20 = .ok (.iconst 1, 1) := by decide +kernel
theorem dX8_lose_21 : decode cX8_lose 21 = .ok (.invokevirtual 190, 3) := by decide +kernel
theorem dX8_lose_24 : decode cX8_lose 24 = .ok (.ireturn, 1) := by decide +kernel
theorem dX8_lose_25 : decode cX8_lose 25 = .ok (.aload_n 0, 1) := by decide +kernel
theorem dX8_lose_26 : decode cX8_lose 26 = .ok (.getfield 101, 3) := by decide +kernel
theorem dX8_lose_29 : decode cX8_lose 29 = .ok (.iload_n 1, 1) := by decide +kernel
theorem dX8_lose_30 : decode cX8_lose 30 = .ok (.iconst 0, 1) := by decide +kernel
theorem dX8_lose_31 : decode cX8_lose 31 = .ok (.bastore, 1) := by decide +kernel
theorem dX8_lose_32 : decode cX8_lose 32 = .ok (.aload_n 0, 1) := by decide +kernel
theorem dX8_lose_33 : decode cX8_lose 33 = .ok (.getfield 107, 3) := by decide +kernel
theorem dX8_lose_36 : decode cX8_lose 36 = .ok (.iload_n 1, 1) := by decide +kernel
theorem dX8_lose_37 : decode cX8_lose 37 = .ok (.iaload, 1) := by decide +kernel
theorem dX8_lose_38 : decode cX8_lose 38 = .ok (.ireturn, 1) := by decide +kernel
theorem dX8_lacks_0 : decode cX8_lacks 0 = .ok (.aload_n 0, 1) := by decide +kernel
theorem dX8_lacks_1 : decode cX8_lacks 1 = .ok (.getfield 101, 3) := by decide +kernel
theorem dX8_lacks_4 : decode cX8_lacks 4 = .ok (.iload_n 1, 1) := by decide +kernel
theorem dX8_lacks_5 : decode cX8_lacks 5 = .ok (.baload, 1) := by decide +kernel
theorem dX8_lacks_6 : decode cX8_lacks 6 = .ok (.ifCond .ne 7, 3) := by decide +kernel
theorem dX8_lacks_9 : decode cX8_lacks 9 = .ok (.iconst 1, 1) := by decide +kernel
theorem dX8_lacks_10 : decode cX8_lacks 10 = .ok (.goto 38, 3) := by decide +kernel
theorem dX8_lacks_13 : decode cX8_lacks 13 = .ok (.aload_n 0, 1) := by decide +kernel
theorem dX8_lacks_14 : decode cX8_lacks 14 = .ok (.getfield 104, 3) := by decide +kernel
theorem dX8_lacks_17 : decode cX8_lacks 17 = .ok (.iload_n 1, 1) := by decide +kernel
theorem dX8_lacks_18 : decode cX8_lacks 18 = .ok (.iaload, 1) := by decide +kernel
theorem dX8_lacks_19 : decode cX8_lacks 19 = .ok (.iload_n 2, 1) := by decide +kernel
theorem dX8_lacks_20 : decode cX8_lacks 20 = .ok (.if_icmp .eq 7, 3) := by decide +kernel
theorem dX8_lacks_23 : decode cX8_lacks 23 = .ok (.iconst 3, 1) := by decide +kernel
theorem dX8_lacks_24 : decode cX8_lacks 24 = .ok (.goto 24, 3) := by decide +kernel
theorem dX8_lacks_27 : decode cX8_lacks 27 = .ok (.iload_n 3, 1) := by decide +kernel
theorem dX8_lacks_28 : decode cX8_lacks 28 = .ok (.iconst 0, 1) := by decide +kernel
theorem dX8_lacks_29 : decode cX8_lacks 29 = .ok (.aload_n 0, 1) := by decide +kernel
theorem dX8_lacks_30 : decode cX8_lacks 30 = .ok (.getfield 107, 3) := by decide +kernel
theorem dX8_lacks_33 : decode cX8_lacks 33 = .ok (.iload_n 1, 1) := by decide +kernel
theorem dX8_lacks_34 : decode cX8_lacks 34 = .ok (.iaload, 1) := by decide +kernel
theorem dX8_lacks_35 : decode cX8_lacks 35 = .ok (.iconst 1, 1) := by decide +kernel
theorem dX8_lacks_36 : decode cX8_lacks 36 = .ok (.isub, 1) := by decide +kernel
theorem dX8_lacks_37 : decode cX8_lacks 37 = .ok (.invokestatic 125, 3) := by decide +kernel
theorem dX8_lacks_40 : decode cX8_lacks 40 = .ok (.ifCond .eq 7, 3) := by decide +kernel
theorem dX8_lacks_43 : decode cX8_lacks 43 = .ok (.iconst 0, 1) := by decide +kernel
theorem dX8_lacks_44 : decode cX8_lacks 44 = .ok (.goto 4, 3) := by decide +kernel
theorem dX8_lacks_47 : decode cX8_lacks 47 = .ok (.iconst 2, 1) := by decide +kernel
theorem dX8_lacks_48 : decode cX8_lacks 48 = .ok (.ireturn, 1) := by decide +kernel
theorem dX8_keep_0 : decode cX8_keep 0 = .ok (.aload_n 0, 1) := by decide +kernel
theorem dX8_keep_1 : decode cX8_keep 1 = .ok (.getfield 110, 3) := by decide +kernel
theorem dX8_keep_4 : decode cX8_keep 4 = .ok (.bipush 60, 2) := by decide +kernel
theorem dX8_keep_6 : decode cX8_keep 6 = .ok (.iload_n 1, 1) := by decide +kernel
theorem dX8_keep_7 : decode cX8_keep 7 = .ok (.imul, 1) := by decide +kernel
theorem dX8_keep_8 : decode cX8_keep 8 = .ok (.iload_n 2, 1) := by decide +kernel
theorem dX8_keep_9 : decode cX8_keep 9 = .ok (.iadd, 1) := by decide +kernel
theorem dX8_keep_10 : decode cX8_keep 10 = .ok (.aload_n 0, 1) := by decide +kernel
theorem dX8_keep_11 : decode cX8_keep 11 = .ok (.getfield 104, 3) := by decide +kernel
theorem dX8_keep_14 : decode cX8_keep 14 = .ok (.iload_n 1, 1) := by decide +kernel
theorem dX8_keep_15 : decode cX8_keep 15 = .ok (.iaload, 1) := by decide +kernel
theorem dX8_keep_16 : decode cX8_keep 16 = .ok (.ifCond .ne 8, 3) := by decide +kernel
theorem dX8_keep_19 : decode cX8_keep 19 = .ok (.iload_n 3, 1) := by decide +kernel
theorem dX8_keep_20 : decode cX8_keep 20 = .ok (.i2b, 1) := by decide +kernel
theorem dX8_keep_21 : decode cX8_keep 21 = .ok (.goto 19, 3) := by decide +kernel
theorem dX8_keep_24 : decode cX8_keep 24 = .ok (.aload_n 0, 1) := by decide +kernel
theorem dX8_keep_25 : decode cX8_keep 25 = .ok (.getfield 104, 3) := by decide +kernel
theorem dX8_keep_28 : decode cX8_keep 28 = .ok (.iload_n 1, 1) := by decide +kernel
theorem dX8_keep_29 : decode cX8_keep 29 = .ok (.iaload, 1) := by decide +kernel
theorem dX8_keep_30 : decode cX8_keep 30 = .ok (.iconst 1, 1) := by decide +kernel
theorem dX8_keep_31 : decode cX8_keep 31 = .ok (.if_icmp .ne 8, 3) := by decide +kernel
theorem dX8_keep_34 : decode cX8_keep 34 = .ok (.iload_n 3, 1) := by decide +kernel
theorem dX8_keep_35 : decode cX8_keep 35 = .ok (.i2s, 1) := by decide +kernel
theorem dX8_keep_36 : decode cX8_keep 36 = .ok (.goto 4, 3) := by decide +kernel
theorem dX8_keep_39 : decode cX8_keep 39 = .ok (.iload_n 3, 1) := by decide +kernel
theorem dX8_keep_40 : decode cX8_keep 40 = .ok (.iastore, 1) := by decide +kernel
theorem dX8_keep_41 : decode cX8_keep 41 = .ok (.return_, 1) := by decide +kernel
theorem dX8_put_0 : decode cX8_put 0 = .ok (.iload_n 1, 1) := by decide +kernel
theorem dX8_put_1 : decode cX8_put 1 = .ok (.invokestatic 187, 3) := by decide +kernel
theorem dX8_put_4 : decode cX8_put 4 = .ok (.ifCond .eq 12, 3) := by decide +kernel
theorem dX8_put_7 : decode cX8_put 7 = .ok (.iload_n 2, 1) := by decide +kernel
theorem dX8_put_8 : decode cX8_put 8 = .ok (.iconst 0, 1) := by decide +kernel
theorem dX8_put_9 : decode cX8_put 9 = .ok (.iconst 2, 1) := by decide +kernel
theorem dX8_put_10 : decode cX8_put 10 = .ok (.invokestatic 125, 3) := by decide +kernel
theorem dX8_put_13 : decode cX8_put 13 = .ok (.ifCond .ne 6, 3) := by decide +kernel
theorem dX8_put_16 : decode cX8_put 16 = .ok (.bipush (-2), 2) := by decide +kernel
theorem dX8_put_18 : decode cX8_put 18 = .ok (.ireturn, 1) := by decide +kernel
theorem dX8_put_19 : decode cX8_put 19 = .ok (.aload_n 0, 1) := by decide +kernel
theorem dX8_put_20 : decode cX8_put 20 = .ok (.iload_n 1, 1) := by decide +kernel
theorem dX8_put_21 : decode cX8_put 21 = .ok (.iload_n 2, 1) := by decide +kernel
theorem dX8_put_22 : decode cX8_put 22 = .ok (.iload_n 3, 1) := by decide +kernel
theorem dX8_put_23 : decode cX8_put 23 = .ok (.invokevirtual 332, 3) := by decide +kernel
theorem dX8_put_26 : decode cX8_put 26 = .ok (.istore 5, 2) := by decide +kernel
theorem dX8_put_28 : decode cX8_put 28 = .ok (.iload 5, 2) := by decide +kernel
theorem dX8_put_30 : decode cX8_put 30 = .ok (.ifCond .le 10, 3) := by decide +kernel
theorem dX8_put_33 : decode cX8_put 33 = .ok (.aload_n 0, 1) := by decide +kernel
theorem dX8_put_34 : decode cX8_put 34 = .ok (.iload 5, 2) := by decide +kernel
theorem dX8_put_36 : decode cX8_put 36 = .ok (.invokevirtual 190, 3) := by decide +kernel
theorem dX8_put_39 : decode cX8_put 39 = .ok (.ireturn, 1) := by decide +kernel
theorem dX8_put_40 : decode cX8_put 40 = .ok (.aload_n 0, 1) := by decide +kernel
theorem dX8_put_41 : decode cX8_put 41 = .ok (.iload_n 1, 1) := by decide +kernel
theorem dX8_put_42 : decode cX8_put 42 = .ok (.iload_n 3, 1) := by decide +kernel
theorem dX8_put_43 : decode cX8_put 43 = .ok (.iload 4, 2) := by decide +kernel
theorem dX8_put_45 : decode cX8_put 45 = .ok (.invokevirtual 335, 3) := by decide +kernel
theorem dX8_put_48 : decode cX8_put 48 = .ok (.iconst 1, 1) := by decide +kernel
theorem dX8_put_49 : decode cX8_put 49 = .ok (.ireturn, 1) := by decide +kernel
theorem dX8_get_0 : decode cX8_get 0 = .ok (.iload_n 1, 1) := by decide +kernel
theorem dX8_get_1 : decode cX8_get 1 = .ok (.invokestatic 187, 3) := by decide +kernel
theorem dX8_get_4 : decode cX8_get 4 = .ok (.ifCond .eq 12, 3) := by decide +kernel
theorem dX8_get_7 : decode cX8_get 7 = .ok (.iload_n 2, 1) := by decide +kernel
theorem dX8_get_8 : decode cX8_get 8 = .ok (.iconst 0, 1) := by decide +kernel
theorem dX8_get_9 : decode cX8_get 9 = .ok (.iconst 2, 1) := by decide +kernel
theorem dX8_get_10 : decode cX8_get 10 = .ok (.invokestatic 125, 3) := by decide +kernel
theorem dX8_get_13 : decode cX8_get 13 = .ok (.ifCond .ne 7, 3) := by decide +kernel
theorem dX8_get_16 : decode cX8_get 16 = .ok (.ldc_w 338, 3) := by decide +kernel
theorem dX8_get_19 : decode cX8_get 19 = .ok (.ireturn, 1) := by decide +kernel
theorem dX8_get_20 : decode cX8_get 20 = .ok (.aload_n 0, 1) := by decide +kernel
theorem dX8_get_21 : decode cX8_get 21 = .ok (.iload_n 1, 1) := by decide +kernel
theorem dX8_get_22 : decode cX8_get 22 = .ok (.iload_n 2, 1) := by decide +kernel
theorem dX8_get_23 : decode cX8_get 23 = .ok (.iload_n 3, 1) := by decide +kernel
theorem dX8_get_24 : decode cX8_get 24 = .ok (.invokevirtual 332, 3) := by decide +kernel
theorem dX8_get_27 : decode cX8_get 27 = .ok (.istore 4, 2) := by decide +kernel
theorem dX8_get_29 : decode cX8_get 29 = .ok (.iload 4, 2) := by decide +kernel
theorem dX8_get_31 : decode cX8_get 31 = .ok (.ifCond .le 13, 3) := by decide +kernel
theorem dX8_get_34 : decode cX8_get 34 = .ok (.aload_n 0, 1) := by decide +kernel
theorem dX8_get_35 : decode cX8_get 35 = .ok (.iload 4, 2) := by decide +kernel
theorem dX8_get_37 : decode cX8_get 37 = .ok (.putfield 329, 3) := by decide +kernel
theorem dX8_get_40 : decode cX8_get 40 = .ok (.ldc_w 338, 3) := by decide +kernel
theorem dX8_get_43 : decode cX8_get 43 = .ok (.ireturn, 1) := by decide +kernel
theorem dX8_get_44 : decode cX8_get 44 = .ok (.aload_n 0, 1) := by decide +kernel
theorem dX8_get_45 : decode cX8_get 45 = .ok (.getfield 110, 3) := by decide +kernel
theorem dX8_get_48 : decode cX8_get 48 = .ok (.bipush 60, 2) := by decide +kernel
theorem dX8_get_50 : decode cX8_get 50 = .ok (.iload_n 1, 1) := by decide +kernel
theorem dX8_get_51 : decode cX8_get 51 = .ok (.imul, 1) := by decide +kernel
theorem dX8_get_52 : decode cX8_get 52 = .ok (.iload_n 3, 1) := by decide +kernel
theorem dX8_get_53 : decode cX8_get 53 = .ok (.iadd, 1) := by decide +kernel
theorem dX8_get_54 : decode cX8_get 54 = .ok (.iaload, 1) := by decide +kernel
theorem dX8_get_55 : decode cX8_get 55 = .ok (.ireturn, 1) := by decide +kernel
theorem dX8_copy_0 : decode cX8_copy 0 = .ok (.iload_n 1, 1) := by decide +kernel
theorem dX8_copy_1 : decode cX8_copy 1 = .ok (.invokestatic 187, 3) := by decide +kernel
theorem dX8_copy_4 : decode cX8_copy 4 = .ok (.ifCond .eq 10, 3) := by decide +kernel
theorem dX8_copy_7 : decode cX8_copy 7 = .ok (.iload_n 3, 1) := by decide +kernel
theorem dX8_copy_8 : decode cX8_copy 8 = .ok (.invokestatic 187, 3) := by decide +kernel
theorem dX8_copy_11 : decode cX8_copy 11 = .ok (.ifCond .ne 6, 3) := by decide +kernel
theorem dX8_copy_14 : decode cX8_copy 14 = .ok (.bipush (-2), 2) := by decide +kernel
theorem dX8_copy_16 : decode cX8_copy 16 = .ok (.ireturn, 1) := by decide +kernel
theorem dX8_copy_17 : decode cX8_copy 17 = .ok (.aload_n 0, 1) := by decide +kernel
theorem dX8_copy_18 : decode cX8_copy 18 = .ok (.getfield 101, 3) := by decide +kernel
theorem dX8_copy_21 : decode cX8_copy 21 = .ok (.iload_n 1, 1) := by decide +kernel
theorem dX8_copy_22 : decode cX8_copy 22 = .ok (.baload, 1) := by decide +kernel
theorem dX8_copy_23 : decode cX8_copy 23 = .ok (.ifCond .eq 12, 3) := by decide +kernel
theorem dX8_copy_26 : decode cX8_copy 26 = .ok (.aload_n 0, 1) := by decide +kernel
theorem dX8_copy_27 : decode cX8_copy 27 = .ok (.getfield 101, 3) := by decide +kernel
theorem dX8_copy_30 : decode cX8_copy 30 = .ok (.iload_n 3, 1) := by decide +kernel
theorem dX8_copy_31 : decode cX8_copy 31 = .ok (.baload, 1) := by decide +kernel
theorem dX8_copy_32 : decode cX8_copy 32 = .ok (.ifCond .ne 9, 3) := by decide +kernel
theorem dX8_copy_35 : decode cX8_copy 35 = .ok (.aload_n 0, 1) := by decide +kernel
theorem dX8_copy_36 : decode cX8_copy 36 = .ok (.iconst 1, 1) := by decide +kernel
theorem dX8_copy_37 : decode cX8_copy 37 = .ok (.invokevirtual 190, 3) := by decide +kernel
theorem dX8_copy_40 : decode cX8_copy 40 = .ok (.ireturn, 1) := by decide +kernel
theorem dX8_copy_41 : decode cX8_copy 41 = .ok (.aload_n 0, 1) := by decide +kernel
theorem dX8_copy_42 : decode cX8_copy 42 = .ok (.getfield 104, 3) := by decide +kernel
theorem dX8_copy_45 : decode cX8_copy 45 = .ok (.iload_n 1, 1) := by decide +kernel
theorem dX8_copy_46 : decode cX8_copy 46 = .ok (.iaload, 1) := by decide +kernel
theorem dX8_copy_47 : decode cX8_copy 47 = .ok (.aload_n 0, 1) := by decide +kernel
theorem dX8_copy_48 : decode cX8_copy 48 = .ok (.getfield 104, 3) := by decide +kernel
theorem dX8_copy_51 : decode cX8_copy 51 = .ok (.iload_n 3, 1) := by decide +kernel
theorem dX8_copy_52 : decode cX8_copy 52 = .ok (.iaload, 1) := by decide +kernel
theorem dX8_copy_53 : decode cX8_copy 53 = .ok (.if_icmp .eq 9, 3) := by decide +kernel
theorem dX8_copy_56 : decode cX8_copy 56 = .ok (.aload_n 0, 1) := by decide +kernel
theorem dX8_copy_57 : decode cX8_copy 57 = .ok (.iconst 4, 1) := by decide +kernel
theorem dX8_copy_58 : decode cX8_copy 58 = .ok (.invokevirtual 190, 3) := by decide +kernel
theorem dX8_copy_61 : decode cX8_copy 61 = .ok (.ireturn, 1) := by decide +kernel
theorem dX8_copy_62 : decode cX8_copy 62 = .ok (.iload_n 2, 1) := by decide +kernel
theorem dX8_copy_63 : decode cX8_copy 63 = .ok (.ifCond .lt 48, 3) := by decide +kernel
theorem dX8_copy_66 : decode cX8_copy 66 = .ok (.iload 4, 2) := by decide +kernel
theorem dX8_copy_68 : decode cX8_copy 68 = .ok (.ifCond .lt 43, 3) := by decide +kernel
theorem dX8_copy_71 : decode cX8_copy 71 = .ok (.iload 5, 2) := by decide +kernel
theorem dX8_copy_73 : decode cX8_copy 73 = .ok (.ifCond .lt 38, 3) := by decide +kernel
theorem dX8_copy_76 : decode cX8_copy 76 = .ok (.iload_n 2, 1) := by decide +kernel
theorem dX8_copy_77 : decode cX8_copy 77 = .ok (.i2l, 1) := by decide +kernel
theorem dX8_copy_78 : decode cX8_copy 78 = .ok (.iload 5, 2) := by decide +kernel
theorem dX8_copy_80 : decode cX8_copy 80 = .ok (.i2l, 1) := by decide +kernel
theorem dX8_copy_81 : decode cX8_copy 81 = .ok (.ladd, 1) := by decide +kernel
theorem dX8_copy_82 : decode cX8_copy 82 = .ok (.aload_n 0, 1) := by decide +kernel
theorem dX8_copy_83 : decode cX8_copy 83 = .ok (.getfield 107, 3) := by decide +kernel
theorem dX8_copy_86 : decode cX8_copy 86 = .ok (.iload_n 1, 1) := by decide +kernel
theorem dX8_copy_87 : decode cX8_copy 87 = .ok (.iaload, 1) := by decide +kernel
theorem dX8_copy_88 : decode cX8_copy 88 = .ok (.i2l, 1) := by decide +kernel
theorem dX8_copy_89 : decode cX8_copy 89 = .ok (.lcmp, 1) := by decide +kernel
theorem dX8_copy_90 : decode cX8_copy 90 = .ok (.ifCond .gt 21, 3) := by decide +kernel
theorem dX8_copy_93 : decode cX8_copy 93 = .ok (.iload 4, 2) := by decide +kernel
theorem dX8_copy_95 : decode cX8_copy 95 = .ok (.i2l, 1) := by decide +kernel
theorem dX8_copy_96 : decode cX8_copy 96 = .ok (.iload 5, 2) := by decide +kernel
theorem dX8_copy_98 : decode cX8_copy 98 = .ok (.i2l, 1) := by decide +kernel
theorem dX8_copy_99 : decode cX8_copy 99 = .ok (.ladd, 1) := by decide +kernel
theorem dX8_copy_100 : decode cX8_copy 100 = .ok (.aload_n 0, 1) := by decide +kernel
theorem dX8_copy_101 : decode cX8_copy 101 = .ok (.getfield 107, 3) := by decide +kernel
theorem dX8_copy_104 : decode cX8_copy 104 = .ok (.iload_n 3, 1) := by decide +kernel
theorem dX8_copy_105 : decode cX8_copy 105 = .ok (.iaload, 1) := by decide +kernel
theorem dX8_copy_106 : decode cX8_copy 106 = .ok (.i2l, 1) := by decide +kernel
theorem dX8_copy_107 : decode cX8_copy 107 = .ok (.lcmp, 1) := by decide +kernel
theorem dX8_copy_108 : decode cX8_copy 108 = .ok (.ifCond .le 9, 3) := by decide +kernel
theorem dX8_copy_111 : decode cX8_copy 111 = .ok (.aload_n 0, 1) := by decide +kernel
theorem dX8_copy_112 : decode cX8_copy 112 = .ok (.iconst 2, 1) := by decide +kernel
theorem dX8_copy_113 : decode cX8_copy 113 = .ok (.invokevirtual 190, 3) := by decide +kernel
theorem dX8_copy_116 : decode cX8_copy 116 = .ok (.ireturn, 1) := by decide +kernel
theorem dX8_copy_117 : decode cX8_copy 117 = .ok (.iconst 0, 1) := by decide +kernel
theorem dX8_copy_118 : decode cX8_copy 118 = .ok (.istore 6, 2) := by decide +kernel
theorem dX8_copy_120 : decode cX8_copy 120 = .ok (.iload 6, 2) := by decide +kernel
theorem dX8_copy_122 : decode cX8_copy 122 = .ok (.iload 5, 2) := by decide +kernel
theorem dX8_copy_124 : decode cX8_copy 124 = .ok (.if_icmp .ge 30, 3) := by decide +kernel
theorem dX8_copy_127 : decode cX8_copy 127 = .ok (.aload_n 0, 1) := by decide +kernel
theorem dX8_copy_128 : decode cX8_copy 128 = .ok (.getfield 113, 3) := by decide +kernel
theorem dX8_copy_131 : decode cX8_copy 131 = .ok (.iload 6, 2) := by decide +kernel
theorem dX8_copy_133 : decode cX8_copy 133 = .ok (.aload_n 0, 1) := by decide +kernel
theorem dX8_copy_134 : decode cX8_copy 134 = .ok (.getfield 110, 3) := by decide +kernel
theorem dX8_copy_137 : decode cX8_copy 137 = .ok (.bipush 60, 2) := by decide +kernel
theorem dX8_copy_139 : decode cX8_copy 139 = .ok (.iload_n 1, 1) := by decide +kernel
theorem dX8_copy_140 : decode cX8_copy 140 = .ok (.imul, 1) := by decide +kernel
theorem dX8_copy_141 : decode cX8_copy 141 = .ok (.iload_n 2, 1) := by decide +kernel
theorem dX8_copy_142 : decode cX8_copy 142 = .ok (.iadd, 1) := by decide +kernel
theorem dX8_copy_143 : decode cX8_copy 143 = .ok (.iload 6, 2) := by decide +kernel
theorem dX8_copy_145 : decode cX8_copy 145 = .ok (.iadd, 1) := by decide +kernel
theorem dX8_copy_146 : decode cX8_copy 146 = .ok (.iaload, 1) := by decide +kernel
theorem dX8_copy_147 : decode cX8_copy 147 = .ok (.iastore, 1) := by decide +kernel
theorem dX8_copy_148 : decode cX8_copy 148 = .ok (.iinc 6 1, 3) := by decide +kernel
theorem dX8_copy_151 : decode cX8_copy 151 = .ok (.goto (-31), 3) := by decide +kernel
theorem dX8_copy_154 : decode cX8_copy 154 = .ok (.iconst 0, 1) := by decide +kernel
theorem dX8_copy_155 : decode cX8_copy 155 = .ok (.istore 6, 2) := by decide +kernel
theorem dX8_copy_157 : decode cX8_copy 157 = .ok (.iload 6, 2) := by decide +kernel
theorem dX8_copy_159 : decode cX8_copy 159 = .ok (.iload 5, 2) := by decide +kernel
theorem dX8_copy_161 : decode cX8_copy 161 = .ok (.if_icmp .ge 31, 3) := by decide +kernel
theorem dX8_copy_164 : decode cX8_copy 164 = .ok (.aload_n 0, 1) := by decide +kernel
theorem dX8_copy_165 : decode cX8_copy 165 = .ok (.getfield 110, 3) := by decide +kernel
theorem dX8_copy_168 : decode cX8_copy 168 = .ok (.bipush 60, 2) := by decide +kernel
theorem dX8_copy_170 : decode cX8_copy 170 = .ok (.iload_n 3, 1) := by decide +kernel
theorem dX8_copy_171 : decode cX8_copy 171 = .ok (.imul, 1) := by decide +kernel
theorem dX8_copy_172 : decode cX8_copy 172 = .ok (.iload 4, 2) := by decide +kernel
theorem dX8_copy_174 : decode cX8_copy 174 = .ok (.iadd, 1) := by decide +kernel
theorem dX8_copy_175 : decode cX8_copy 175 = .ok (.iload 6, 2) := by decide +kernel
theorem dX8_copy_177 : decode cX8_copy 177 = .ok (.iadd, 1) := by decide +kernel
theorem dX8_copy_178 : decode cX8_copy 178 = .ok (.aload_n 0, 1) := by decide +kernel
theorem dX8_copy_179 : decode cX8_copy 179 = .ok (.getfield 113, 3) := by decide +kernel
theorem dX8_copy_182 : decode cX8_copy 182 = .ok (.iload 6, 2) := by decide +kernel
theorem dX8_copy_184 : decode cX8_copy 184 = .ok (.iaload, 1) := by decide +kernel
theorem dX8_copy_185 : decode cX8_copy 185 = .ok (.iastore, 1) := by decide +kernel
theorem dX8_copy_186 : decode cX8_copy 186 = .ok (.iinc 6 1, 3) := by decide +kernel
theorem dX8_copy_189 : decode cX8_copy 189 = .ok (.goto (-32), 3) := by decide +kernel
theorem dX8_copy_192 : decode cX8_copy 192 = .ok (.iconst 1, 1) := by decide +kernel
theorem dX8_copy_193 : decode cX8_copy 193 = .ok (.ireturn, 1) := by decide +kernel
theorem dX8_write_0 : decode cX8_write 0 = .ok (.aload_n 0, 1) := by decide +kernel
theorem dX8_write_1 : decode cX8_write 1 = .ok (.iload_n 1, 1) := by decide +kernel
theorem dX8_write_2 : decode cX8_write 2 = .ok (.invokevirtual 172, 3) := by decide +kernel
theorem dX8_write_5 : decode cX8_write 5 = .ok (.ifCond .eq 10, 3) := by decide +kernel
theorem dX8_write_8 : decode cX8_write 8 = .ok (.iload_n 2, 1) := by decide +kernel
theorem dX8_write_9 : decode cX8_write 9 = .ok (.invokestatic 187, 3) := by decide +kernel
theorem dX8_write_12 : decode cX8_write 12 = .ok (.ifCond .ne 6, 3) := by decide +kernel
theorem dX8_write_15 : decode cX8_write 15 = .ok (.bipush (-2), 2) := by decide +kernel
theorem dX8_write_17 : decode cX8_write 17 = .ok (.ireturn, 1) := by decide +kernel
theorem dX8_write_18 : decode cX8_write 18 = .ok (.aload_n 0, 1) := by decide +kernel
theorem dX8_write_19 : decode cX8_write 19 = .ok (.getfield 101, 3) := by decide +kernel
theorem dX8_write_22 : decode cX8_write 22 = .ok (.iload_n 2, 1) := by decide +kernel
theorem dX8_write_23 : decode cX8_write 23 = .ok (.baload, 1) := by decide +kernel
theorem dX8_write_24 : decode cX8_write 24 = .ok (.ifCond .ne 9, 3) := by decide +kernel
theorem dX8_write_27 : decode cX8_write 27 = .ok (.aload_n 0, 1) := by decide +kernel
theorem dX8_write_28 : decode cX8_write 28 = .ok (.iconst 1, 1) := by decide +kernel
theorem dX8_write_29 : decode cX8_write 29 = .ok (.invokevirtual 190, 3) := by decide +kernel
theorem dX8_write_32 : decode cX8_write 32 = .ok (.ireturn, 1) := by decide +kernel
theorem dX8_write_33 : decode cX8_write 33 = .ok (.aload_n 0, 1) := by decide +kernel
theorem dX8_write_34 : decode cX8_write 34 = .ok (.invokevirtual 248, 3) := by decide +kernel
theorem dX8_write_37 : decode cX8_write 37 = .ok (.iconst 0, 1) := by decide +kernel
theorem dX8_write_38 : decode cX8_write 38 = .ok (.istore_n 3, 1) := by decide +kernel
theorem dX8_write_39 : decode cX8_write 39 = .ok (.iload_n 3, 1) := by decide +kernel
theorem dX8_write_40 : decode cX8_write 40 = .ok (.aload_n 0, 1) := by decide +kernel
theorem dX8_write_41 : decode cX8_write 41 = .ok (.getfield 107, 3) := by decide +kernel
theorem dX8_write_44 : decode cX8_write 44 = .ok (.iload_n 2, 1) := by decide +kernel
theorem dX8_write_45 : decode cX8_write 45 = .ok (.iaload, 1) := by decide +kernel
theorem dX8_write_46 : decode cX8_write 46 = .ok (.if_icmp .ge 36, 3) := by decide +kernel
theorem dX8_write_49 : decode cX8_write 49 = .ok (.iload_n 3, 1) := by decide +kernel
theorem dX8_write_50 : decode cX8_write 50 = .ok (.aload_n 0, 1) := by decide +kernel
theorem dX8_write_51 : decode cX8_write 51 = .ok (.getfield 49, 3) := by decide +kernel
theorem dX8_write_54 : decode cX8_write 54 = .ok (.iload_n 1, 1) := by decide +kernel
theorem dX8_write_55 : decode cX8_write 55 = .ok (.iaload, 1) := by decide +kernel
theorem dX8_write_56 : decode cX8_write 56 = .ok (.if_icmp .ge 26, 3) := by decide +kernel
theorem dX8_write_59 : decode cX8_write 59 = .ok (.aload_n 0, 1) := by decide +kernel
theorem dX8_write_60 : decode cX8_write 60 = .ok (.iload_n 2, 1) := by decide +kernel
theorem dX8_write_61 : decode cX8_write 61 = .ok (.iload_n 3, 1) := by decide +kernel
theorem dX8_write_62 : decode cX8_write 62 = .ok (.aload_n 0, 1) := by decide +kernel
theorem dX8_write_63 : decode cX8_write 63 = .ok (.getfield 52, 3) := by decide +kernel
theorem dX8_write_66 : decode cX8_write 66 = .ok (.bipush 24, 2) := by decide +kernel
theorem dX8_write_68 : decode cX8_write 68 = .ok (.iload_n 1, 1) := by decide +kernel
theorem dX8_write_69 : decode cX8_write 69 = .ok (.imul, 1) := by decide +kernel
theorem dX8_write_70 : decode cX8_write 70 = .ok (.iload_n 3, 1) := by decide +kernel
theorem dX8_write_71 : decode cX8_write 71 = .ok (.iadd, 1) := by decide +kernel
theorem dX8_write_72 : decode cX8_write 72 = .ok (.iaload, 1) := by decide +kernel
theorem dX8_write_73 : decode cX8_write 73 = .ok (.invokevirtual 335, 3) := by decide +kernel
theorem dX8_write_76 : decode cX8_write 76 = .ok (.iinc 3 1, 3) := by decide +kernel
theorem dX8_write_79 : decode cX8_write 79 = .ok (.goto (-40), 3) := by decide +kernel
theorem dX8_write_82 : decode cX8_write 82 = .ok (.iload_n 3, 1) := by decide +kernel
theorem dX8_write_83 : decode cX8_write 83 = .ok (.ireturn, 1) := by decide +kernel
theorem dX8_sumOf_0 : decode cX8_sumOf 0 = .ok (.aload_n 0, 1) := by decide +kernel
theorem dX8_sumOf_1 : decode cX8_sumOf 1 = .ok (.invokevirtual 248, 3) := by decide +kernel
theorem dX8_sumOf_4 : decode cX8_sumOf 4 = .ok (.iload_n 1, 1) := by decide +kernel
theorem dX8_sumOf_5 : decode cX8_sumOf 5 = .ok (.ifCond .ne 10, 3) := by decide +kernel
theorem dX8_sumOf_8 : decode cX8_sumOf 8 = .ok (.aload_n 0, 1) := by decide +kernel
theorem dX8_sumOf_9 : decode cX8_sumOf 9 = .ok (.getfield 144, 3) := by decide +kernel
theorem dX8_sumOf_12 : decode cX8_sumOf 12 = .ok (.goto 19, 3) := by decide +kernel
theorem dX8_sumOf_15 : decode cX8_sumOf 15 = .ok (.iload_n 1, 1) := by decide +kernel
theorem dX8_sumOf_16 : decode cX8_sumOf 16 = .ok (.iconst 1, 1) := by decide +kernel
theorem dX8_sumOf_17 : decode cX8_sumOf 17 = .ok (.if_icmp .ne 10, 3) := by decide +kernel
theorem dX8_sumOf_20 : decode cX8_sumOf 20 = .ok (.aload_n 0, 1) := by decide +kernel
theorem dX8_sumOf_21 : decode cX8_sumOf 21 = .ok (.getfield 147, 3) := by decide +kernel
theorem dX8_sumOf_24 : decode cX8_sumOf 24 = .ok (.goto 7, 3) := by decide +kernel
theorem dX8_sumOf_27 : decode cX8_sumOf 27 = .ok (.aload_n 0, 1) := by decide +kernel
theorem dX8_sumOf_28 : decode cX8_sumOf 28 = .ok (.invokevirtual 323, 3) := by decide +kernel
theorem dX8_sumOf_31 : decode cX8_sumOf 31 = .ok (.ireturn, 1) := by decide +kernel
theorem dX8_count_0 : decode cX8_count 0 = .ok (.iload_n 1, 1) := by decide +kernel
theorem dX8_count_1 : decode cX8_count 1 = .ok (.tableswitch 86 0 8 #[51, 51, 57, 57, 66, 71, 51, 76, 81], 51) := by decide +kernel
theorem dX8_count_52 : decode cX8_count 52 = .ok (.aload_n 0, 1) := by decide +kernel
theorem dX8_count_53 : decode cX8_count 53 = .ok (.iload_n 1, 1) := by decide +kernel
theorem dX8_count_54 : decode cX8_count 54 = .ok (.invokevirtual 339, 3) := by decide +kernel
theorem dX8_count_57 : decode cX8_count 57 = .ok (.ireturn, 1) := by decide +kernel
theorem dX8_count_58 : decode cX8_count 58 = .ok (.aload_n 0, 1) := by decide +kernel
theorem dX8_count_59 : decode cX8_count 59 = .ok (.getfield 7, 3) := by decide +kernel
theorem dX8_count_62 : decode cX8_count 62 = .ok (.iload_n 1, 1) := by decide +kernel
theorem dX8_count_63 : decode cX8_count 63 = .ok (.iconst 2, 1) := by decide +kernel
theorem dX8_count_64 : decode cX8_count 64 = .ok (.isub, 1) := by decide +kernel
theorem dX8_count_65 : decode cX8_count 65 = .ok (.iaload, 1) := by decide +kernel
theorem dX8_count_66 : decode cX8_count 66 = .ok (.ireturn, 1) := by decide +kernel
theorem dX8_count_67 : decode cX8_count 67 = .ok (.aload_n 0, 1) := by decide +kernel
theorem dX8_count_68 : decode cX8_count 68 = .ok (.getfield 181, 3) := by decide +kernel
theorem dX8_count_71 : decode cX8_count 71 = .ok (.ireturn, 1) := by decide +kernel
theorem dX8_count_72 : decode cX8_count 72 = .ok (.aload_n 0, 1) := by decide +kernel
theorem dX8_count_73 : decode cX8_count 73 = .ok (.getfield 184, 3) := by decide +kernel
theorem dX8_count_76 : decode cX8_count 76 = .ok (.ireturn, 1) := by decide +kernel
theorem dX8_count_77 : decode cX8_count 77 = .ok (.aload_n 0, 1) := by decide +kernel
theorem dX8_count_78 : decode cX8_count 78 = .ok (.getfield 295, 3) := by decide +kernel
theorem dX8_count_81 : decode cX8_count 81 = .ok (.ireturn, 1) := by decide +kernel
theorem dX8_count_82 : decode cX8_count 82 = .ok (.aload_n 0, 1) := by decide +kernel
theorem dX8_count_83 : decode cX8_count 83 = .ok (.getfield 329, 3) := by decide +kernel
theorem dX8_count_86 : decode cX8_count 86 = .ok (.ireturn, 1) := by decide +kernel
theorem dX8_count_87 : decode cX8_count 87 = .ok (.bipush (-2), 2) := by decide +kernel
theorem dX8_count_89 : decode cX8_count 89 = .ok (.ireturn, 1) := by decide +kernel
theorem dX8_floorDigest_0 : decode cX8_floorDigest 0 = .ok (.lload_n 1, 1) := by decide +kernel
theorem dX8_floorDigest_1 : decode cX8_floorDigest 1 = .ok (.lstore 4, 2) := by decide +kernel
theorem dX8_floorDigest_3 : decode cX8_floorDigest 3 = .ok (.iconst 0, 1) := by decide +kernel
theorem dX8_floorDigest_4 : decode cX8_floorDigest 4 = .ok (.istore 6, 2) := by decide +kernel
theorem dX8_floorDigest_6 : decode cX8_floorDigest 6 = .ok (.iload 6, 2) := by decide +kernel
theorem dX8_floorDigest_8 : decode cX8_floorDigest 8 = .ok (.iconst 3, 1) := by decide +kernel
theorem dX8_floorDigest_9 : decode cX8_floorDigest 9 = .ok (.if_icmp .ge 26, 3) := by decide +kernel
theorem dX8_floorDigest_12 : decode cX8_floorDigest 12 = .ok (.ldc2_w 342, 3) := by decide +kernel
theorem dX8_floorDigest_15 : decode cX8_floorDigest 15 = .ok (.lload 4, 2) := by decide +kernel
theorem dX8_floorDigest_17 : decode cX8_floorDigest 17 = .ok (.lmul, 1) := by decide +kernel
theorem dX8_floorDigest_18 : decode cX8_floorDigest 18 = .ok (.aload_n 0, 1) := by decide +kernel
theorem dX8_floorDigest_19 : decode cX8_floorDigest 19 = .ok (.iload_n 3, 1) := by decide +kernel
theorem dX8_floorDigest_20 : decode cX8_floorDigest 20 = .ok (.iload 6, 2) := by decide +kernel
theorem dX8_floorDigest_22 : decode cX8_floorDigest 22 = .ok (.invokevirtual 169, 3) := by decide +kernel
theorem dX8_floorDigest_25 : decode cX8_floorDigest 25 = .ok (.i2l, 1) := by decide +kernel
theorem dX8_floorDigest_26 : decode cX8_floorDigest 26 = .ok (.ladd, 1) := by decide +kernel
theorem dX8_floorDigest_27 : decode cX8_floorDigest 27 = .ok (.lstore 4, 2) := by decide +kernel
theorem dX8_floorDigest_29 : decode cX8_floorDigest 29 = .ok (.iinc 6 1, 3) := by decide +kernel
theorem dX8_floorDigest_32 : decode cX8_floorDigest 32 = .ok (.goto (-26), 3) := by decide +kernel
theorem dX8_floorDigest_35 : decode cX8_floorDigest 35 = .ok (.ldc2_w 342, 3) := by decide +kernel
theorem dX8_floorDigest_38 : decode cX8_floorDigest 38 = .ok (.lload 4, 2) := by decide +kernel
theorem dX8_floorDigest_40 : decode cX8_floorDigest 40 = .ok (.lmul, 1) := by decide +kernel
theorem dX8_floorDigest_41 : decode cX8_floorDigest 41 = .ok (.aload_n 0, 1) := by decide +kernel
theorem dX8_floorDigest_42 : decode cX8_floorDigest 42 = .ok (.iload_n 3, 1) := by decide +kernel
theorem dX8_floorDigest_43 : decode cX8_floorDigest 43 = .ok (.iconst 0, 1) := by decide +kernel
theorem dX8_floorDigest_44 : decode cX8_floorDigest 44 = .ok (.invokevirtual 261, 3) := by decide +kernel
theorem dX8_floorDigest_47 : decode cX8_floorDigest 47 = .ok (.i2l, 1) := by decide +kernel
theorem dX8_floorDigest_48 : decode cX8_floorDigest 48 = .ok (.ladd, 1) := by decide +kernel
theorem dX8_floorDigest_49 : decode cX8_floorDigest 49 = .ok (.lstore 4, 2) := by decide +kernel
theorem dX8_floorDigest_51 : decode cX8_floorDigest 51 = .ok (.ldc2_w 342, 3) := by decide +kernel
theorem dX8_floorDigest_54 : decode cX8_floorDigest 54 = .ok (.lload 4, 2) := by decide +kernel
theorem dX8_floorDigest_56 : decode cX8_floorDigest 56 = .ok (.lmul, 1) := by decide +kernel
theorem dX8_floorDigest_57 : decode cX8_floorDigest 57 = .ok (.aload_n 0, 1) := by decide +kernel
theorem dX8_floorDigest_58 : decode cX8_floorDigest 58 = .ok (.iload_n 3, 1) := by decide +kernel
theorem dX8_floorDigest_59 : decode cX8_floorDigest 59 = .ok (.iconst 1, 1) := by decide +kernel
theorem dX8_floorDigest_60 : decode cX8_floorDigest 60 = .ok (.invokevirtual 261, 3) := by decide +kernel
theorem dX8_floorDigest_63 : decode cX8_floorDigest 63 = .ok (.i2l, 1) := by decide +kernel
theorem dX8_floorDigest_64 : decode cX8_floorDigest 64 = .ok (.ladd, 1) := by decide +kernel
theorem dX8_floorDigest_65 : decode cX8_floorDigest 65 = .ok (.lstore 4, 2) := by decide +kernel
theorem dX8_floorDigest_67 : decode cX8_floorDigest 67 = .ok (.ldc2_w 342, 3) := by decide +kernel
theorem dX8_floorDigest_70 : decode cX8_floorDigest 70 = .ok (.lload 4, 2) := by decide +kernel
theorem dX8_floorDigest_72 : decode cX8_floorDigest 72 = .ok (.lmul, 1) := by decide +kernel
theorem dX8_floorDigest_73 : decode cX8_floorDigest 73 = .ok (.aload_n 0, 1) := by decide +kernel
theorem dX8_floorDigest_74 : decode cX8_floorDigest 74 = .ok (.iload_n 3, 1) := by decide +kernel
theorem dX8_floorDigest_75 : decode cX8_floorDigest 75 = .ok (.iconst 0, 1) := by decide +kernel
theorem dX8_floorDigest_76 : decode cX8_floorDigest 76 = .ok (.invokevirtual 305, 3) := by decide +kernel
theorem dX8_floorDigest_79 : decode cX8_floorDigest 79 = .ok (.i2l, 1) := by decide +kernel
theorem dX8_floorDigest_80 : decode cX8_floorDigest 80 = .ok (.ladd, 1) := by decide +kernel
theorem dX8_floorDigest_81 : decode cX8_floorDigest 81 = .ok (.lstore 4, 2) := by decide +kernel
theorem dX8_floorDigest_83 : decode cX8_floorDigest 83 = .ok (.ldc2_w 342, 3) := by decide +kernel
theorem dX8_floorDigest_86 : decode cX8_floorDigest 86 = .ok (.lload 4, 2) := by decide +kernel
theorem dX8_floorDigest_88 : decode cX8_floorDigest 88 = .ok (.lmul, 1) := by decide +kernel
theorem dX8_floorDigest_89 : decode cX8_floorDigest 89 = .ok (.aload_n 0, 1) := by decide +kernel
theorem dX8_floorDigest_90 : decode cX8_floorDigest 90 = .ok (.iload_n 3, 1) := by decide +kernel
theorem dX8_floorDigest_91 : decode cX8_floorDigest 91 = .ok (.iconst 1, 1) := by decide +kernel
theorem dX8_floorDigest_92 : decode cX8_floorDigest 92 = .ok (.invokevirtual 305, 3) := by decide +kernel
theorem dX8_floorDigest_95 : decode cX8_floorDigest 95 = .ok (.i2l, 1) := by decide +kernel
theorem dX8_floorDigest_96 : decode cX8_floorDigest 96 = .ok (.ladd, 1) := by decide +kernel
theorem dX8_floorDigest_97 : decode cX8_floorDigest 97 = .ok (.lstore 4, 2) := by decide +kernel
theorem dX8_floorDigest_99 : decode cX8_floorDigest 99 = .ok (.ldc2_w 342, 3) := by decide +kernel
theorem dX8_floorDigest_102 : decode cX8_floorDigest 102 = .ok (.lload 4, 2) := by decide +kernel
theorem dX8_floorDigest_104 : decode cX8_floorDigest 104 = .ok (.lmul, 1) := by decide +kernel
theorem dX8_floorDigest_105 : decode cX8_floorDigest 105 = .ok (.aload_n 0, 1) := by decide +kernel
theorem dX8_floorDigest_106 : decode cX8_floorDigest 106 = .ok (.iload_n 3, 1) := by decide +kernel
theorem dX8_floorDigest_107 : decode cX8_floorDigest 107 = .ok (.invokevirtual 308, 3) := by decide +kernel
theorem dX8_floorDigest_110 : decode cX8_floorDigest 110 = .ok (.i2l, 1) := by decide +kernel
theorem dX8_floorDigest_111 : decode cX8_floorDigest 111 = .ok (.ladd, 1) := by decide +kernel
theorem dX8_floorDigest_112 : decode cX8_floorDigest 112 = .ok (.lreturn, 1) := by decide +kernel
theorem dX8_hourDigest_0 : decode cX8_hourDigest 0 = .ok (.lload_n 1, 1) := by decide +kernel
theorem dX8_hourDigest_1 : decode cX8_hourDigest 1 = .ok (.lstore 5, 2) := by decide +kernel
theorem dX8_hourDigest_3 : decode cX8_hourDigest 3 = .ok (.iconst 0, 1) := by decide +kernel
theorem dX8_hourDigest_4 : decode cX8_hourDigest 4 = .ok (.istore 7, 2) := by decide +kernel
theorem dX8_hourDigest_6 : decode cX8_hourDigest 6 = .ok (.iload 7, 2) := by decide +kernel
theorem dX8_hourDigest_8 : decode cX8_hourDigest 8 = .ok (.iconst 4, 1) := by decide +kernel
theorem dX8_hourDigest_9 : decode cX8_hourDigest 9 = .ok (.if_icmp .ge 28, 3) := by decide +kernel
theorem dX8_hourDigest_12 : decode cX8_hourDigest 12 = .ok (.ldc2_w 342, 3) := by decide +kernel
theorem dX8_hourDigest_15 : decode cX8_hourDigest 15 = .ok (.lload 5, 2) := by decide +kernel
theorem dX8_hourDigest_17 : decode cX8_hourDigest 17 = .ok (.lmul, 1) := by decide +kernel
theorem dX8_hourDigest_18 : decode cX8_hourDigest 18 = .ok (.aload_n 0, 1) := by decide +kernel
theorem dX8_hourDigest_19 : decode cX8_hourDigest 19 = .ok (.iload_n 3, 1) := by decide +kernel
theorem dX8_hourDigest_20 : decode cX8_hourDigest 20 = .ok (.iload 4, 2) := by decide +kernel
theorem dX8_hourDigest_22 : decode cX8_hourDigest 22 = .ok (.iload 7, 2) := by decide +kernel
theorem dX8_hourDigest_24 : decode cX8_hourDigest 24 = .ok (.invokevirtual 251, 3) := by decide +kernel
theorem dX8_hourDigest_27 : decode cX8_hourDigest 27 = .ok (.i2l, 1) := by decide +kernel
theorem dX8_hourDigest_28 : decode cX8_hourDigest 28 = .ok (.ladd, 1) := by decide +kernel
theorem dX8_hourDigest_29 : decode cX8_hourDigest 29 = .ok (.lstore 5, 2) := by decide +kernel
theorem dX8_hourDigest_31 : decode cX8_hourDigest 31 = .ok (.iinc 7 1, 3) := by decide +kernel
theorem dX8_hourDigest_34 : decode cX8_hourDigest 34 = .ok (.goto (-28), 3) := by decide +kernel
theorem dX8_hourDigest_37 : decode cX8_hourDigest 37 = .ok (.lload 5, 2) := by decide +kernel
theorem dX8_hourDigest_39 : decode cX8_hourDigest 39 = .ok (.lreturn, 1) := by decide +kernel
theorem dX8_basketDigest_0 : decode cX8_basketDigest 0 = .ok (.lload_n 1, 1) := by decide +kernel
theorem dX8_basketDigest_1 : decode cX8_basketDigest 1 = .ok (.lstore 4, 2) := by decide +kernel
theorem dX8_basketDigest_3 : decode cX8_basketDigest 3 = .ok (.iconst 0, 1) := by decide +kernel
theorem dX8_basketDigest_4 : decode cX8_basketDigest 4 = .ok (.istore 6, 2) := by decide +kernel
theorem dX8_basketDigest_6 : decode cX8_basketDigest 6 = .ok (.iload 6, 2) := by decide +kernel
theorem dX8_basketDigest_8 : decode cX8_basketDigest 8 = .ok (.bipush 6, 2) := by decide +kernel
theorem dX8_basketDigest_10 : decode cX8_basketDigest 10 = .ok (.if_icmp .ge 26, 3) := by decide +kernel
theorem dX8_basketDigest_13 : decode cX8_basketDigest 13 = .ok (.ldc2_w 342, 3) := by decide +kernel
theorem dX8_basketDigest_16 : decode cX8_basketDigest 16 = .ok (.lload 4, 2) := by decide +kernel
theorem dX8_basketDigest_18 : decode cX8_basketDigest 18 = .ok (.lmul, 1) := by decide +kernel
theorem dX8_basketDigest_19 : decode cX8_basketDigest 19 = .ok (.aload_n 0, 1) := by decide +kernel
theorem dX8_basketDigest_20 : decode cX8_basketDigest 20 = .ok (.iload_n 3, 1) := by decide +kernel
theorem dX8_basketDigest_21 : decode cX8_basketDigest 21 = .ok (.iload 6, 2) := by decide +kernel
theorem dX8_basketDigest_23 : decode cX8_basketDigest 23 = .ok (.invokevirtual 175, 3) := by decide +kernel
theorem dX8_basketDigest_26 : decode cX8_basketDigest 26 = .ok (.i2l, 1) := by decide +kernel
theorem dX8_basketDigest_27 : decode cX8_basketDigest 27 = .ok (.ladd, 1) := by decide +kernel
theorem dX8_basketDigest_28 : decode cX8_basketDigest 28 = .ok (.lstore 4, 2) := by decide +kernel
theorem dX8_basketDigest_30 : decode cX8_basketDigest 30 = .ok (.iinc 6 1, 3) := by decide +kernel
theorem dX8_basketDigest_33 : decode cX8_basketDigest 33 = .ok (.goto (-27), 3) := by decide +kernel
theorem dX8_basketDigest_36 : decode cX8_basketDigest 36 = .ok (.aload_n 0, 1) := by decide +kernel
theorem dX8_basketDigest_37 : decode cX8_basketDigest 37 = .ok (.lload 4, 2) := by decide +kernel
theorem dX8_basketDigest_39 : decode cX8_basketDigest 39 = .ok (.iconst 0, 1) := by decide +kernel
theorem dX8_basketDigest_40 : decode cX8_basketDigest 40 = .ok (.iload_n 3, 1) := by decide +kernel
theorem dX8_basketDigest_41 : decode cX8_basketDigest 41 = .ok (.invokevirtual 344, 3) := by decide +kernel
theorem dX8_basketDigest_44 : decode cX8_basketDigest 44 = .ok (.lstore 4, 2) := by decide +kernel
theorem dX8_basketDigest_46 : decode cX8_basketDigest 46 = .ok (.aload_n 0, 1) := by decide +kernel
theorem dX8_basketDigest_47 : decode cX8_basketDigest 47 = .ok (.lload 4, 2) := by decide +kernel
theorem dX8_basketDigest_49 : decode cX8_basketDigest 49 = .ok (.iconst 5, 1) := by decide +kernel
theorem dX8_basketDigest_50 : decode cX8_basketDigest 50 = .ok (.iload_n 3, 1) := by decide +kernel
theorem dX8_basketDigest_51 : decode cX8_basketDigest 51 = .ok (.invokevirtual 344, 3) := by decide +kernel
theorem dX8_basketDigest_54 : decode cX8_basketDigest 54 = .ok (.lstore 4, 2) := by decide +kernel
theorem dX8_basketDigest_56 : decode cX8_basketDigest 56 = .ok (.aload_n 0, 1) := by decide +kernel
theorem dX8_basketDigest_57 : decode cX8_basketDigest 57 = .ok (.lload 4, 2) := by decide +kernel
theorem dX8_basketDigest_59 : decode cX8_basketDigest 59 = .ok (.bipush 12, 2) := by decide +kernel
theorem dX8_basketDigest_61 : decode cX8_basketDigest 61 = .ok (.iload_n 3, 1) := by decide +kernel
theorem dX8_basketDigest_62 : decode cX8_basketDigest 62 = .ok (.invokevirtual 344, 3) := by decide +kernel
theorem dX8_basketDigest_65 : decode cX8_basketDigest 65 = .ok (.lstore 4, 2) := by decide +kernel
theorem dX8_basketDigest_67 : decode cX8_basketDigest 67 = .ok (.aload_n 0, 1) := by decide +kernel
theorem dX8_basketDigest_68 : decode cX8_basketDigest 68 = .ok (.lload 4, 2) := by decide +kernel
theorem dX8_basketDigest_70 : decode cX8_basketDigest 70 = .ok (.bipush 39, 2) := by decide +kernel
theorem dX8_basketDigest_72 : decode cX8_basketDigest 72 = .ok (.iload_n 3, 1) := by decide +kernel
theorem dX8_basketDigest_73 : decode cX8_basketDigest 73 = .ok (.invokevirtual 344, 3) := by decide +kernel
theorem dX8_basketDigest_76 : decode cX8_basketDigest 76 = .ok (.lstore 4, 2) := by decide +kernel
theorem dX8_basketDigest_78 : decode cX8_basketDigest 78 = .ok (.ldc2_w 342, 3) := by decide +kernel
theorem dX8_basketDigest_81 : decode cX8_basketDigest 81 = .ok (.lload 4, 2) := by decide +kernel
theorem dX8_basketDigest_83 : decode cX8_basketDigest 83 = .ok (.lmul, 1) := by decide +kernel
theorem dX8_basketDigest_84 : decode cX8_basketDigest 84 = .ok (.aload_n 0, 1) := by decide +kernel
theorem dX8_basketDigest_85 : decode cX8_basketDigest 85 = .ok (.iload_n 3, 1) := by decide +kernel
theorem dX8_basketDigest_86 : decode cX8_basketDigest 86 = .ok (.invokevirtual 258, 3) := by decide +kernel
theorem dX8_basketDigest_89 : decode cX8_basketDigest 89 = .ok (.i2l, 1) := by decide +kernel
theorem dX8_basketDigest_90 : decode cX8_basketDigest 90 = .ok (.ladd, 1) := by decide +kernel
theorem dX8_basketDigest_91 : decode cX8_basketDigest 91 = .ok (.lstore 4, 2) := by decide +kernel
theorem dX8_basketDigest_93 : decode cX8_basketDigest 93 = .ok (.iconst 0, 1) := by decide +kernel
theorem dX8_basketDigest_94 : decode cX8_basketDigest 94 = .ok (.istore 6, 2) := by decide +kernel
theorem dX8_basketDigest_96 : decode cX8_basketDigest 96 = .ok (.iload 6, 2) := by decide +kernel
theorem dX8_basketDigest_98 : decode cX8_basketDigest 98 = .ok (.iconst 4, 1) := by decide +kernel
theorem dX8_basketDigest_99 : decode cX8_basketDigest 99 = .ok (.if_icmp .ge 26, 3) := by decide +kernel
theorem dX8_basketDigest_102 : decode cX8_basketDigest 102 = .ok (.ldc2_w 342, 3) := by decide +kernel
theorem dX8_basketDigest_105 : decode cX8_basketDigest 105 = .ok (.lload 4, 2) := by decide +kernel
theorem dX8_basketDigest_107 : decode cX8_basketDigest 107 = .ok (.lmul, 1) := by decide +kernel
theorem dX8_basketDigest_108 : decode cX8_basketDigest 108 = .ok (.aload_n 0, 1) := by decide +kernel
theorem dX8_basketDigest_109 : decode cX8_basketDigest 109 = .ok (.iload_n 3, 1) := by decide +kernel
theorem dX8_basketDigest_110 : decode cX8_basketDigest 110 = .ok (.iload 6, 2) := by decide +kernel
theorem dX8_basketDigest_112 : decode cX8_basketDigest 112 = .ok (.invokevirtual 255, 3) := by decide +kernel
theorem dX8_basketDigest_115 : decode cX8_basketDigest 115 = .ok (.i2l, 1) := by decide +kernel
theorem dX8_basketDigest_116 : decode cX8_basketDigest 116 = .ok (.ladd, 1) := by decide +kernel
theorem dX8_basketDigest_117 : decode cX8_basketDigest 117 = .ok (.lstore 4, 2) := by decide +kernel
theorem dX8_basketDigest_119 : decode cX8_basketDigest 119 = .ok (.iinc 6 1, 3) := by decide +kernel
theorem dX8_basketDigest_122 : decode cX8_basketDigest 122 = .ok (.goto (-26), 3) := by decide +kernel
theorem dX8_basketDigest_125 : decode cX8_basketDigest 125 = .ok (.ldc2_w 342, 3) := by decide +kernel
theorem dX8_basketDigest_128 : decode cX8_basketDigest 128 = .ok (.lload 4, 2) := by decide +kernel
theorem dX8_basketDigest_130 : decode cX8_basketDigest 130 = .ok (.lmul, 1) := by decide +kernel
theorem dX8_basketDigest_131 : decode cX8_basketDigest 131 = .ok (.aload_n 0, 1) := by decide +kernel
theorem dX8_basketDigest_132 : decode cX8_basketDigest 132 = .ok (.iload_n 3, 1) := by decide +kernel
theorem dX8_basketDigest_133 : decode cX8_basketDigest 133 = .ok (.iconst 0, 1) := by decide +kernel
theorem dX8_basketDigest_134 : decode cX8_basketDigest 134 = .ok (.invokevirtual 277, 3) := by decide +kernel
theorem dX8_basketDigest_137 : decode cX8_basketDigest 137 = .ok (.i2l, 1) := by decide +kernel
theorem dX8_basketDigest_138 : decode cX8_basketDigest 138 = .ok (.ladd, 1) := by decide +kernel
theorem dX8_basketDigest_139 : decode cX8_basketDigest 139 = .ok (.lstore 4, 2) := by decide +kernel
theorem dX8_basketDigest_141 : decode cX8_basketDigest 141 = .ok (.ldc2_w 342, 3) := by decide +kernel
theorem dX8_basketDigest_144 : decode cX8_basketDigest 144 = .ok (.lload 4, 2) := by decide +kernel
theorem dX8_basketDigest_146 : decode cX8_basketDigest 146 = .ok (.lmul, 1) := by decide +kernel
theorem dX8_basketDigest_147 : decode cX8_basketDigest 147 = .ok (.aload_n 0, 1) := by decide +kernel
theorem dX8_basketDigest_148 : decode cX8_basketDigest 148 = .ok (.iload_n 3, 1) := by decide +kernel
theorem dX8_basketDigest_149 : decode cX8_basketDigest 149 = .ok (.iconst 1, 1) := by decide +kernel
theorem dX8_basketDigest_150 : decode cX8_basketDigest 150 = .ok (.invokevirtual 277, 3) := by decide +kernel
theorem dX8_basketDigest_153 : decode cX8_basketDigest 153 = .ok (.i2l, 1) := by decide +kernel
theorem dX8_basketDigest_154 : decode cX8_basketDigest 154 = .ok (.ladd, 1) := by decide +kernel
theorem dX8_basketDigest_155 : decode cX8_basketDigest 155 = .ok (.lstore 4, 2) := by decide +kernel
theorem dX8_basketDigest_157 : decode cX8_basketDigest 157 = .ok (.ldc2_w 342, 3) := by decide +kernel
theorem dX8_basketDigest_160 : decode cX8_basketDigest 160 = .ok (.lload 4, 2) := by decide +kernel
theorem dX8_basketDigest_162 : decode cX8_basketDigest 162 = .ok (.lmul, 1) := by decide +kernel
theorem dX8_basketDigest_163 : decode cX8_basketDigest 163 = .ok (.aload_n 0, 1) := by decide +kernel
theorem dX8_basketDigest_164 : decode cX8_basketDigest 164 = .ok (.iload_n 3, 1) := by decide +kernel
theorem dX8_basketDigest_165 : decode cX8_basketDigest 165 = .ok (.iconst 5, 1) := by decide +kernel
theorem dX8_basketDigest_166 : decode cX8_basketDigest 166 = .ok (.invokevirtual 280, 3) := by decide +kernel
theorem dX8_basketDigest_169 : decode cX8_basketDigest 169 = .ok (.i2l, 1) := by decide +kernel
theorem dX8_basketDigest_170 : decode cX8_basketDigest 170 = .ok (.ladd, 1) := by decide +kernel
theorem dX8_basketDigest_171 : decode cX8_basketDigest 171 = .ok (.lstore 4, 2) := by decide +kernel
theorem dX8_basketDigest_173 : decode cX8_basketDigest 173 = .ok (.aload_n 0, 1) := by decide +kernel
theorem dX8_basketDigest_174 : decode cX8_basketDigest 174 = .ok (.iload_n 3, 1) := by decide +kernel
theorem dX8_basketDigest_175 : decode cX8_basketDigest 175 = .ok (.invokevirtual 286, 3) := by decide +kernel
theorem dX8_basketDigest_178 : decode cX8_basketDigest 178 = .ok (.istore 6, 2) := by decide +kernel
theorem dX8_basketDigest_180 : decode cX8_basketDigest 180 = .ok (.ldc2_w 342, 3) := by decide +kernel
theorem dX8_basketDigest_183 : decode cX8_basketDigest 183 = .ok (.lload 4, 2) := by decide +kernel
theorem dX8_basketDigest_185 : decode cX8_basketDigest 185 = .ok (.lmul, 1) := by decide +kernel
theorem dX8_basketDigest_186 : decode cX8_basketDigest 186 = .ok (.iload 6, 2) := by decide +kernel
theorem dX8_basketDigest_188 : decode cX8_basketDigest 188 = .ok (.i2l, 1) := by decide +kernel
theorem dX8_basketDigest_189 : decode cX8_basketDigest 189 = .ok (.ladd, 1) := by decide +kernel
theorem dX8_basketDigest_190 : decode cX8_basketDigest 190 = .ok (.lstore 4, 2) := by decide +kernel
theorem dX8_basketDigest_192 : decode cX8_basketDigest 192 = .ok (.ldc2_w 342, 3) := by decide +kernel
theorem dX8_basketDigest_195 : decode cX8_basketDigest 195 = .ok (.lload 4, 2) := by decide +kernel
theorem dX8_basketDigest_197 : decode cX8_basketDigest 197 = .ok (.lmul, 1) := by decide +kernel
theorem dX8_basketDigest_198 : decode cX8_basketDigest 198 = .ok (.aload_n 0, 1) := by decide +kernel
theorem dX8_basketDigest_199 : decode cX8_basketDigest 199 = .ok (.iload 6, 2) := by decide +kernel
theorem dX8_basketDigest_201 : decode cX8_basketDigest 201 = .ok (.iconst 0, 1) := by decide +kernel
theorem dX8_basketDigest_202 : decode cX8_basketDigest 202 = .ok (.invokevirtual 289, 3) := by decide +kernel
theorem dX8_basketDigest_205 : decode cX8_basketDigest 205 = .ok (.i2l, 1) := by decide +kernel
theorem dX8_basketDigest_206 : decode cX8_basketDigest 206 = .ok (.ladd, 1) := by decide +kernel
theorem dX8_basketDigest_207 : decode cX8_basketDigest 207 = .ok (.lstore 4, 2) := by decide +kernel
theorem dX8_basketDigest_209 : decode cX8_basketDigest 209 = .ok (.ldc2_w 342, 3) := by decide +kernel
theorem dX8_basketDigest_212 : decode cX8_basketDigest 212 = .ok (.lload 4, 2) := by decide +kernel
theorem dX8_basketDigest_214 : decode cX8_basketDigest 214 = .ok (.lmul, 1) := by decide +kernel
theorem dX8_basketDigest_215 : decode cX8_basketDigest 215 = .ok (.aload_n 0, 1) := by decide +kernel
theorem dX8_basketDigest_216 : decode cX8_basketDigest 216 = .ok (.iconst 5, 1) := by decide +kernel
theorem dX8_basketDigest_217 : decode cX8_basketDigest 217 = .ok (.iload_n 3, 1) := by decide +kernel
theorem dX8_basketDigest_218 : decode cX8_basketDigest 218 = .ok (.iconst 3, 1) := by decide +kernel
theorem dX8_basketDigest_219 : decode cX8_basketDigest 219 = .ok (.iconst 0, 1) := by decide +kernel
theorem dX8_basketDigest_220 : decode cX8_basketDigest 220 = .ok (.invokevirtual 315, 3) := by decide +kernel
theorem dX8_basketDigest_223 : decode cX8_basketDigest 223 = .ok (.ladd, 1) := by decide +kernel
theorem dX8_basketDigest_224 : decode cX8_basketDigest 224 = .ok (.lstore 4, 2) := by decide +kernel
theorem dX8_basketDigest_226 : decode cX8_basketDigest 226 = .ok (.ldc2_w 342, 3) := by decide +kernel
theorem dX8_basketDigest_229 : decode cX8_basketDigest 229 = .ok (.lload 4, 2) := by decide +kernel
theorem dX8_basketDigest_231 : decode cX8_basketDigest 231 = .ok (.lmul, 1) := by decide +kernel
theorem dX8_basketDigest_232 : decode cX8_basketDigest 232 = .ok (.aload_n 0, 1) := by decide +kernel
theorem dX8_basketDigest_233 : decode cX8_basketDigest 233 = .ok (.iconst 5, 1) := by decide +kernel
theorem dX8_basketDigest_234 : decode cX8_basketDigest 234 = .ok (.iload_n 3, 1) := by decide +kernel
theorem dX8_basketDigest_235 : decode cX8_basketDigest 235 = .ok (.iconst 3, 1) := by decide +kernel
theorem dX8_basketDigest_236 : decode cX8_basketDigest 236 = .ok (.iconst 1, 1) := by decide +kernel
theorem dX8_basketDigest_237 : decode cX8_basketDigest 237 = .ok (.invokevirtual 315, 3) := by decide +kernel
theorem dX8_basketDigest_240 : decode cX8_basketDigest 240 = .ok (.ladd, 1) := by decide +kernel
theorem dX8_basketDigest_241 : decode cX8_basketDigest 241 = .ok (.lreturn, 1) := by decide +kernel
theorem dX8_digest_0 : decode cX8_digest 0 = .ok (.ldc2_w 348, 3) := by decide +kernel
theorem dX8_digest_3 : decode cX8_digest 3 = .ok (.lstore_n 1, 1) := by decide +kernel
theorem dX8_digest_4 : decode cX8_digest 4 = .ok (.iconst 0, 1) := by decide +kernel
theorem dX8_digest_5 : decode cX8_digest 5 = .ok (.istore_n 3, 1) := by decide +kernel
theorem dX8_digest_6 : decode cX8_digest 6 = .ok (.iload_n 3, 1) := by decide +kernel
theorem dX8_digest_7 : decode cX8_digest 7 = .ok (.bipush 8, 2) := by decide +kernel
theorem dX8_digest_9 : decode cX8_digest 9 = .ok (.if_icmp .ge 22, 3) := by decide +kernel
theorem dX8_digest_12 : decode cX8_digest 12 = .ok (.ldc2_w 342, 3) := by decide +kernel
theorem dX8_digest_15 : decode cX8_digest 15 = .ok (.lload_n 1, 1) := by decide +kernel
theorem dX8_digest_16 : decode cX8_digest 16 = .ok (.lmul, 1) := by decide +kernel
theorem dX8_digest_17 : decode cX8_digest 17 = .ok (.aload_n 0, 1) := by decide +kernel
theorem dX8_digest_18 : decode cX8_digest 18 = .ok (.iload_n 3, 1) := by decide +kernel
theorem dX8_digest_19 : decode cX8_digest 19 = .ok (.invokevirtual 350, 3) := by decide +kernel
theorem dX8_digest_22 : decode cX8_digest 22 = .ok (.i2l, 1) := by decide +kernel
theorem dX8_digest_23 : decode cX8_digest 23 = .ok (.ladd, 1) := by decide +kernel
theorem dX8_digest_24 : decode cX8_digest 24 = .ok (.lstore_n 1, 1) := by decide +kernel
theorem dX8_digest_25 : decode cX8_digest 25 = .ok (.iinc 3 1, 3) := by decide +kernel
theorem dX8_digest_28 : decode cX8_digest 28 = .ok (.goto (-22), 3) := by decide +kernel
theorem dX8_digest_31 : decode cX8_digest 31 = .ok (.ldc2_w 342, 3) := by decide +kernel
theorem dX8_digest_34 : decode cX8_digest 34 = .ok (.lload_n 1, 1) := by decide +kernel
theorem dX8_digest_35 : decode cX8_digest 35 = .ok (.lmul, 1) := by decide +kernel
theorem dX8_digest_36 : decode cX8_digest 36 = .ok (.aload_n 0, 1) := by decide +kernel
theorem dX8_digest_37 : decode cX8_digest 37 = .ok (.iconst 0, 1) := by decide +kernel
theorem dX8_digest_38 : decode cX8_digest 38 = .ok (.invokevirtual 160, 3) := by decide +kernel
theorem dX8_digest_41 : decode cX8_digest 41 = .ok (.i2l, 1) := by decide +kernel
theorem dX8_digest_42 : decode cX8_digest 42 = .ok (.ladd, 1) := by decide +kernel
theorem dX8_digest_43 : decode cX8_digest 43 = .ok (.lstore_n 1, 1) := by decide +kernel
theorem dX8_digest_44 : decode cX8_digest 44 = .ok (.ldc2_w 342, 3) := by decide +kernel
theorem dX8_digest_47 : decode cX8_digest 47 = .ok (.lload_n 1, 1) := by decide +kernel
theorem dX8_digest_48 : decode cX8_digest 48 = .ok (.lmul, 1) := by decide +kernel
theorem dX8_digest_49 : decode cX8_digest 49 = .ok (.aload_n 0, 1) := by decide +kernel
theorem dX8_digest_50 : decode cX8_digest 50 = .ok (.iconst 1, 1) := by decide +kernel
theorem dX8_digest_51 : decode cX8_digest 51 = .ok (.invokevirtual 160, 3) := by decide +kernel
theorem dX8_digest_54 : decode cX8_digest 54 = .ok (.i2l, 1) := by decide +kernel
theorem dX8_digest_55 : decode cX8_digest 55 = .ok (.ladd, 1) := by decide +kernel
theorem dX8_digest_56 : decode cX8_digest 56 = .ok (.lstore_n 1, 1) := by decide +kernel
theorem dX8_digest_57 : decode cX8_digest 57 = .ok (.iconst 0, 1) := by decide +kernel
theorem dX8_digest_58 : decode cX8_digest 58 = .ok (.istore_n 3, 1) := by decide +kernel
theorem dX8_digest_59 : decode cX8_digest 59 = .ok (.iload_n 3, 1) := by decide +kernel
theorem dX8_digest_60 : decode cX8_digest 60 = .ok (.aload_n 0, 1) := by decide +kernel
theorem dX8_digest_61 : decode cX8_digest 61 = .ok (.getfield 144, 3) := by decide +kernel
theorem dX8_digest_64 : decode cX8_digest 64 = .ok (.if_icmp .ge 16, 3) := by decide +kernel
theorem dX8_digest_67 : decode cX8_digest 67 = .ok (.aload_n 0, 1) := by decide +kernel
theorem dX8_digest_68 : decode cX8_digest 68 = .ok (.lload_n 1, 1) := by decide +kernel
theorem dX8_digest_69 : decode cX8_digest 69 = .ok (.iload_n 3, 1) := by decide +kernel
theorem dX8_digest_70 : decode cX8_digest 70 = .ok (.invokevirtual 353, 3) := by decide +kernel
theorem dX8_digest_73 : decode cX8_digest 73 = .ok (.lstore_n 1, 1) := by decide +kernel
theorem dX8_digest_74 : decode cX8_digest 74 = .ok (.iinc 3 1, 3) := by decide +kernel
theorem dX8_digest_77 : decode cX8_digest 77 = .ok (.goto (-18), 3) := by decide +kernel
theorem dX8_digest_80 : decode cX8_digest 80 = .ok (.iconst 0, 1) := by decide +kernel
theorem dX8_digest_81 : decode cX8_digest 81 = .ok (.istore_n 3, 1) := by decide +kernel
theorem dX8_digest_82 : decode cX8_digest 82 = .ok (.iload_n 3, 1) := by decide +kernel
theorem dX8_digest_83 : decode cX8_digest 83 = .ok (.aload_n 0, 1) := by decide +kernel
theorem dX8_digest_84 : decode cX8_digest 84 = .ok (.getfield 147, 3) := by decide +kernel
theorem dX8_digest_87 : decode cX8_digest 87 = .ok (.if_icmp .ge 16, 3) := by decide +kernel
theorem dX8_digest_90 : decode cX8_digest 90 = .ok (.aload_n 0, 1) := by decide +kernel
theorem dX8_digest_91 : decode cX8_digest 91 = .ok (.lload_n 1, 1) := by decide +kernel
theorem dX8_digest_92 : decode cX8_digest 92 = .ok (.iload_n 3, 1) := by decide +kernel
theorem dX8_digest_93 : decode cX8_digest 93 = .ok (.invokevirtual 356, 3) := by decide +kernel
theorem dX8_digest_96 : decode cX8_digest 96 = .ok (.lstore_n 1, 1) := by decide +kernel
theorem dX8_digest_97 : decode cX8_digest 97 = .ok (.iinc 3 1, 3) := by decide +kernel
theorem dX8_digest_100 : decode cX8_digest 100 = .ok (.goto (-18), 3) := by decide +kernel
theorem dX8_digest_103 : decode cX8_digest 103 = .ok (.ldc2_w 342, 3) := by decide +kernel
theorem dX8_digest_106 : decode cX8_digest 106 = .ok (.lload_n 1, 1) := by decide +kernel
theorem dX8_digest_107 : decode cX8_digest 107 = .ok (.lmul, 1) := by decide +kernel
theorem dX8_digest_108 : decode cX8_digest 108 = .ok (.aload_n 0, 1) := by decide +kernel
theorem dX8_digest_109 : decode cX8_digest 109 = .ok (.invokevirtual 268, 3) := by decide +kernel
theorem dX8_digest_112 : decode cX8_digest 112 = .ok (.i2l, 1) := by decide +kernel
theorem dX8_digest_113 : decode cX8_digest 113 = .ok (.ladd, 1) := by decide +kernel
theorem dX8_digest_114 : decode cX8_digest 114 = .ok (.lstore_n 1, 1) := by decide +kernel
theorem dX8_digest_115 : decode cX8_digest 115 = .ok (.ldc2_w 342, 3) := by decide +kernel
theorem dX8_digest_118 : decode cX8_digest 118 = .ok (.lload_n 1, 1) := by decide +kernel
theorem dX8_digest_119 : decode cX8_digest 119 = .ok (.lmul, 1) := by decide +kernel
theorem dX8_digest_120 : decode cX8_digest 120 = .ok (.aload_n 0, 1) := by decide +kernel
theorem dX8_digest_121 : decode cX8_digest 121 = .ok (.iconst 0, 1) := by decide +kernel
theorem dX8_digest_122 : decode cX8_digest 122 = .ok (.invokevirtual 271, 3) := by decide +kernel
theorem dX8_digest_125 : decode cX8_digest 125 = .ok (.i2l, 1) := by decide +kernel
theorem dX8_digest_126 : decode cX8_digest 126 = .ok (.ladd, 1) := by decide +kernel
theorem dX8_digest_127 : decode cX8_digest 127 = .ok (.lstore_n 1, 1) := by decide +kernel
theorem dX8_digest_128 : decode cX8_digest 128 = .ok (.ldc2_w 342, 3) := by decide +kernel
theorem dX8_digest_131 : decode cX8_digest 131 = .ok (.lload_n 1, 1) := by decide +kernel
theorem dX8_digest_132 : decode cX8_digest 132 = .ok (.lmul, 1) := by decide +kernel
theorem dX8_digest_133 : decode cX8_digest 133 = .ok (.aload_n 0, 1) := by decide +kernel
theorem dX8_digest_134 : decode cX8_digest 134 = .ok (.iconst 1, 1) := by decide +kernel
theorem dX8_digest_135 : decode cX8_digest 135 = .ok (.invokevirtual 271, 3) := by decide +kernel
theorem dX8_digest_138 : decode cX8_digest 138 = .ok (.i2l, 1) := by decide +kernel
theorem dX8_digest_139 : decode cX8_digest 139 = .ok (.ladd, 1) := by decide +kernel
theorem dX8_digest_140 : decode cX8_digest 140 = .ok (.lstore_n 1, 1) := by decide +kernel
theorem dX8_digest_141 : decode cX8_digest 141 = .ok (.ldc2_w 342, 3) := by decide +kernel
theorem dX8_digest_144 : decode cX8_digest 144 = .ok (.lload_n 1, 1) := by decide +kernel
theorem dX8_digest_145 : decode cX8_digest 145 = .ok (.lmul, 1) := by decide +kernel
theorem dX8_digest_146 : decode cX8_digest 146 = .ok (.aload_n 0, 1) := by decide +kernel
theorem dX8_digest_147 : decode cX8_digest 147 = .ok (.invokevirtual 274, 3) := by decide +kernel
theorem dX8_digest_150 : decode cX8_digest 150 = .ok (.i2l, 1) := by decide +kernel
theorem dX8_digest_151 : decode cX8_digest 151 = .ok (.ladd, 1) := by decide +kernel
theorem dX8_digest_152 : decode cX8_digest 152 = .ok (.lstore_n 1, 1) := by decide +kernel
theorem dX8_digest_153 : decode cX8_digest 153 = .ok (.ldc2_w 342, 3) := by decide +kernel
theorem dX8_digest_156 : decode cX8_digest 156 = .ok (.lload_n 1, 1) := by decide +kernel
theorem dX8_digest_157 : decode cX8_digest 157 = .ok (.lmul, 1) := by decide +kernel
theorem dX8_digest_158 : decode cX8_digest 158 = .ok (.aload_n 0, 1) := by decide +kernel
theorem dX8_digest_159 : decode cX8_digest 159 = .ok (.iconst 0, 1) := by decide +kernel
theorem dX8_digest_160 : decode cX8_digest 160 = .ok (.invokevirtual 292, 3) := by decide +kernel
theorem dX8_digest_163 : decode cX8_digest 163 = .ok (.i2l, 1) := by decide +kernel
theorem dX8_digest_164 : decode cX8_digest 164 = .ok (.ladd, 1) := by decide +kernel
theorem dX8_digest_165 : decode cX8_digest 165 = .ok (.lstore_n 1, 1) := by decide +kernel
theorem dX8_digest_166 : decode cX8_digest 166 = .ok (.ldc2_w 342, 3) := by decide +kernel
theorem dX8_digest_169 : decode cX8_digest 169 = .ok (.lload_n 1, 1) := by decide +kernel
theorem dX8_digest_170 : decode cX8_digest 170 = .ok (.lmul, 1) := by decide +kernel
theorem dX8_digest_171 : decode cX8_digest 171 = .ok (.aload_n 0, 1) := by decide +kernel
theorem dX8_digest_172 : decode cX8_digest 172 = .ok (.iconst 1, 1) := by decide +kernel
theorem dX8_digest_173 : decode cX8_digest 173 = .ok (.invokevirtual 292, 3) := by decide +kernel
theorem dX8_digest_176 : decode cX8_digest 176 = .ok (.i2l, 1) := by decide +kernel
theorem dX8_digest_177 : decode cX8_digest 177 = .ok (.ladd, 1) := by decide +kernel
theorem dX8_digest_178 : decode cX8_digest 178 = .ok (.lstore_n 1, 1) := by decide +kernel
theorem dX8_digest_179 : decode cX8_digest 179 = .ok (.ldc2_w 342, 3) := by decide +kernel
theorem dX8_digest_182 : decode cX8_digest 182 = .ok (.lload_n 1, 1) := by decide +kernel
theorem dX8_digest_183 : decode cX8_digest 183 = .ok (.lmul, 1) := by decide +kernel
theorem dX8_digest_184 : decode cX8_digest 184 = .ok (.aload_n 0, 1) := by decide +kernel
theorem dX8_digest_185 : decode cX8_digest 185 = .ok (.invokevirtual 302, 3) := by decide +kernel
theorem dX8_digest_188 : decode cX8_digest 188 = .ok (.i2l, 1) := by decide +kernel
theorem dX8_digest_189 : decode cX8_digest 189 = .ok (.ladd, 1) := by decide +kernel
theorem dX8_digest_190 : decode cX8_digest 190 = .ok (.lstore_n 1, 1) := by decide +kernel
theorem dX8_digest_191 : decode cX8_digest 191 = .ok (.ldc2_w 342, 3) := by decide +kernel
theorem dX8_digest_194 : decode cX8_digest 194 = .ok (.lload_n 1, 1) := by decide +kernel
theorem dX8_digest_195 : decode cX8_digest 195 = .ok (.lmul, 1) := by decide +kernel
theorem dX8_digest_196 : decode cX8_digest 196 = .ok (.aload_n 0, 1) := by decide +kernel
theorem dX8_digest_197 : decode cX8_digest 197 = .ok (.bipush 7, 2) := by decide +kernel
theorem dX8_digest_199 : decode cX8_digest 199 = .ok (.iconst 5, 1) := by decide +kernel
theorem dX8_digest_200 : decode cX8_digest 200 = .ok (.iconst 0, 1) := by decide +kernel
theorem dX8_digest_201 : decode cX8_digest 201 = .ok (.invokevirtual 326, 3) := by decide +kernel
theorem dX8_digest_204 : decode cX8_digest 204 = .ok (.i2l, 1) := by decide +kernel
theorem dX8_digest_205 : decode cX8_digest 205 = .ok (.ladd, 1) := by decide +kernel
theorem dX8_digest_206 : decode cX8_digest 206 = .ok (.lstore_n 1, 1) := by decide +kernel
theorem dX8_digest_207 : decode cX8_digest 207 = .ok (.ldc2_w 342, 3) := by decide +kernel
theorem dX8_digest_210 : decode cX8_digest 210 = .ok (.lload_n 1, 1) := by decide +kernel
theorem dX8_digest_211 : decode cX8_digest 211 = .ok (.lmul, 1) := by decide +kernel
theorem dX8_digest_212 : decode cX8_digest 212 = .ok (.aload_n 0, 1) := by decide +kernel
theorem dX8_digest_213 : decode cX8_digest 213 = .ok (.bipush 7, 2) := by decide +kernel
theorem dX8_digest_215 : decode cX8_digest 215 = .ok (.iconst 5, 1) := by decide +kernel
theorem dX8_digest_216 : decode cX8_digest 216 = .ok (.iconst 1, 1) := by decide +kernel
theorem dX8_digest_217 : decode cX8_digest 217 = .ok (.invokevirtual 326, 3) := by decide +kernel
theorem dX8_digest_220 : decode cX8_digest 220 = .ok (.i2l, 1) := by decide +kernel
theorem dX8_digest_221 : decode cX8_digest 221 = .ok (.ladd, 1) := by decide +kernel
theorem dX8_digest_222 : decode cX8_digest 222 = .ok (.lreturn, 1) := by decide +kernel
