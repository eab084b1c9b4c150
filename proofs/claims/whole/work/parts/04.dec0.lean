theorem dX0_clear_0 : decode cX0_clear 0 = .ok (.aload_n 0, 1) := by decide +kernel
theorem dX0_clear_1 : decode cX0_clear 1 = .ok (.iconst (-1), 1) := by decide +kernel
theorem dX0_clear_2 : decode cX0_clear 2 = .ok (.putfield 9, 3) := by decide +kernel
theorem dX0_clear_5 : decode cX0_clear 5 = .ok (.aload_n 0, 1) := by decide +kernel
theorem dX0_clear_6 : decode cX0_clear 6 = .ok (.iconst (-1), 1) := by decide +kernel
theorem dX0_clear_7 : decode cX0_clear 7 = .ok (.putfield 15, 3) := by decide +kernel
theorem dX0_clear_10 : decode cX0_clear 10 = .ok (.return_, 1) := by decide +kernel
theorem dX0_offer_0 : decode cX0_offer 0 = .ok (.iload_n 2, 1) := by decide +kernel
theorem dX0_offer_1 : decode cX0_offer 1 = .ok (.aload_n 0, 1) := by decide +kernel
theorem dX0_offer_2 : decode cX0_offer 2 = .ok (.getfield 15, 3) := by decide +kernel
theorem dX0_offer_5 : decode cX0_offer 5 = .ok (.if_icmp .le 13, 3) := by decide +kernel
theorem dX0_offer_8 : decode cX0_offer 8 = .ok (.aload_n 0, 1) := by decide +kernel
theorem dX0_offer_9 : decode cX0_offer 9 = .ok (.iload_n 1, 1) := by decide +kernel
theorem dX0_offer_10 : decode cX0_offer 10 = .ok (.putfield 9, 3) := by decide +kernel
theorem dX0_offer_13 : decode cX0_offer 13 = .ok (.aload_n 0, 1) := by decide +kernel
theorem dX0_offer_14 : decode cX0_offer 14 = .ok (.iload_n 2, 1) := by decide +kernel
theorem dX0_offer_15 : decode cX0_offer 15 = .ok (.putfield 15, 3) := by decide +kernel
theorem dX0_offer_18 : decode cX0_offer 18 = .ok (.return_, 1) := by decide +kernel
theorem dX1_add_0 : decode cX1_add 0 = .ok (.aload_n 0, 1) := by decide +kernel
theorem dX1_add_1 : decode cX1_add 1 = .ok (.getfield 15, 3) := by decide +kernel
theorem dX1_add_4 : decode cX1_add 4 = .ok (.ifCond .lt 12, 3) := by decide +kernel
theorem dX1_add_7 : decode cX1_add 7 = .ok (.aload_n 0, 1) := by decide +kernel
theorem dX1_add_8 : decode cX1_add 8 = .ok (.getfield 15, 3) := by decide +kernel
theorem dX1_add_11 : decode cX1_add 11 = .ok (.bipush 6, 2) := by decide +kernel
theorem dX1_add_13 : decode cX1_add 13 = .ok (.if_icmp .lt 5, 3) := by decide +kernel
theorem dX1_add_16 : decode cX1_add 16 = .ok (.iconst 0, 1) := by decide +kernel
theorem dX1_add_17 : decode cX1_add 17 = .ok (.ireturn, 1) := by decide +kernel
theorem dX1_add_18 : decode cX1_add 18 = .ok (.aload_n 0, 1) := by decide +kernel
theorem dX1_add_19 : decode cX1_add 19 = .ok (.getfield 9, 3) := by decide +kernel
theorem dX1_add_22 : decode cX1_add 22 = .ok (.aload_n 0, 1) := by decide +kernel
theorem dX1_add_23 : decode cX1_add 23 = .ok (.getfield 15, 3) := by decide +kernel
theorem dX1_add_26 : decode cX1_add 26 = .ok (.iload_n 1, 1) := by decide +kernel
theorem dX1_add_27 : decode cX1_add 27 = .ok (.iastore, 1) := by decide +kernel
theorem dX1_add_28 : decode cX1_add 28 = .ok (.aload_n 0, 1) := by decide +kernel
theorem dX1_add_29 : decode cX1_add 29 = .ok (.dup, 1) := by decide +kernel
theorem dX1_add_30 : decode cX1_add 30 = .ok (.getfield 15, 3) := by decide +kernel
theorem dX1_add_33 : decode cX1_add 33 = .ok (.iconst 1, 1) := by decide +kernel
theorem dX1_add_34 : decode cX1_add 34 = .ok (.iadd, 1) := by decide +kernel
theorem dX1_add_35 : decode cX1_add 35 = .ok (.putfield 15, 3) := by decide +kernel
theorem dX1_add_38 : decode cX1_add 38 = .ok (.iconst 1, 1) := by decide +kernel
theorem dX1_add_39 : decode cX1_add 39 = .ok (.ireturn, 1) := by decide +kernel
theorem dX1_all_0 : decode cX1_all 0 = .ok (.aload_n 0, 1) := by decide +kernel
theorem dX1_all_1 : decode cX1_all 1 = .ok (.iconst (-1), 1) := by decide +kernel
theorem dX1_all_2 : decode cX1_all 2 = .ok (.invokevirtual 19, 3) := by decide +kernel
theorem dX1_all_5 : decode cX1_all 5 = .ok (.lreturn, 1) := by decide +kernel
theorem dX1_allBut_0 : decode cX1_allBut 0 = .ok (.aload_n 0, 1) := by decide +kernel
theorem dX1_allBut_1 : decode cX1_allBut 1 = .ok (.iconst 1, 1) := by decide +kernel
theorem dX1_allBut_2 : decode cX1_allBut 2 = .ok (.iload_n 1, 1) := by decide +kernel
theorem dX1_allBut_3 : decode cX1_allBut 3 = .ok (.ishl, 1) := by decide +kernel
theorem dX1_allBut_4 : decode cX1_allBut 4 = .ok (.iconst (-1), 1) := by decide +kernel
theorem dX1_allBut_5 : decode cX1_allBut 5 = .ok (.ixor, 1) := by decide +kernel
theorem dX1_allBut_6 : decode cX1_allBut 6 = .ok (.invokevirtual 19, 3) := by decide +kernel
theorem dX1_allBut_9 : decode cX1_allBut 9 = .ok (.lreturn, 1) := by decide +kernel
theorem dX1_chosen_0 : decode cX1_chosen 0 = .ok (.lconst 0, 1) := by decide +kernel
theorem dX1_chosen_1 : decode cX1_chosen 1 = .ok (.lstore_n 2, 1) := by decide +kernel
theorem dX1_chosen_2 : decode cX1_chosen 2 = .ok (.iconst 0, 1) := by decide +kernel
theorem dX1_chosen_3 : decode cX1_chosen 3 = .ok (.istore 4, 2) := by decide +kernel
theorem dX1_chosen_5 : decode cX1_chosen 5 = .ok (.iload 4, 2) := by decide +kernel
theorem dX1_chosen_7 : decode cX1_chosen 7 = .ok (.aload_n 0, 1) := by decide +kernel
theorem dX1_chosen_8 : decode cX1_chosen 8 = .ok (.getfield 15, 3) := by decide +kernel
theorem dX1_chosen_11 : decode cX1_chosen 11 = .ok (.if_icmp .ge 31, 3) := by decide +kernel
theorem dX1_chosen_14 : decode cX1_chosen 14 = .ok (.iload_n 1, 1) := by decide +kernel
theorem dX1_chosen_15 : decode cX1_chosen 15 = .ok (.iload 4, 2) := by decide +kernel
theorem dX1_chosen_17 : decode cX1_chosen 17 = .ok (.ishr, 1) := by decide +kernel
theorem dX1_chosen_18 : decode cX1_chosen 18 = .ok (.iconst 1, 1) := by decide +kernel
theorem dX1_chosen_19 : decode cX1_chosen 19 = .ok (.iand, 1) := by decide +kernel
theorem dX1_chosen_20 : decode cX1_chosen 20 = .ok (.iconst 1, 1) := by decide +kernel
theorem dX1_chosen_21 : decode cX1_chosen 21 = .ok (.if_icmp .ne 15, 3) := by decide +kernel
theorem dX1_chosen_24 : decode cX1_chosen 24 = .ok (.lload_n 2, 1) := by decide +kernel
theorem dX1_chosen_25 : decode cX1_chosen 25 = .ok (.lconst 1, 1) := by decide +kernel
theorem dX1_chosen_26 : decode cX1_chosen 26 = .ok (.aload_n 0, 1) := by decide +kernel
theorem dX1_chosen_27 : decode cX1_chosen 27 = .ok (.getfield 9, 3) := by decide +kernel
theorem dX1_chosen_30 : decode cX1_chosen 30 = .ok (.iload 4, 2) := by decide +kernel
theorem dX1_chosen_32 : decode cX1_chosen 32 = .ok (.iaload, 1) := by decide +kernel
theorem dX1_chosen_33 : decode cX1_chosen 33 = .ok (.lshl, 1) := by decide +kernel
theorem dX1_chosen_34 : decode cX1_chosen 34 = .ok (.lor, 1) := by decide +kernel
theorem dX1_chosen_35 : decode cX1_chosen 35 = .ok (.lstore_n 2, 1) := by decide +kernel
theorem dX1_chosen_36 : decode cX1_chosen 36 = .ok (.iinc 4 1, 3) := by decide +kernel
theorem dX1_chosen_39 : decode cX1_chosen 39 = .ok (.goto (-34), 3) := by decide +kernel
theorem dX1_chosen_42 : decode cX1_chosen 42 = .ok (.lload_n 2, 1) := by decide +kernel
theorem dX1_chosen_43 : decode cX1_chosen 43 = .ok (.lreturn, 1) := by decide +kernel
theorem dX2_isLost_0 : decode cX2_isLost 0 = .ok (.aload_n 0, 1) := by decide +kernel
theorem dX2_isLost_1 : decode cX2_isLost 1 = .ok (.getfield 15, 3) := by decide +kernel
theorem dX2_isLost_4 : decode cX2_isLost 4 = .ok (.iload_n 1, 1) := by decide +kernel
theorem dX2_isLost_5 : decode cX2_isLost 5 = .ok (.iaload, 1) := by decide +kernel
theorem dX2_isLost_6 : decode cX2_isLost 6 = .ok (.iconst (-1), 1) := by decide +kernel
theorem dX2_isLost_7 : decode cX2_isLost 7 = .ok (.if_icmp .ne 7, 3) := by decide +kernel
theorem dX2_isLost_10 : decode cX2_isLost 10 = .ok (.iconst 1, 1) := by decide +kernel
theorem dX2_isLost_11 : decode cX2_isLost 11 = .ok (.goto 4, 3) := by decide +kernel
theorem dX2_isLost_14 : decode cX2_isLost 14 = .ok (.iconst 0, 1) := by decide +kernel
theorem dX2_isLost_15 : decode cX2_isLost 15 = .ok (.ireturn, 1) := by decide +kernel
theorem dX2_make_0 : decode cX2_make 0 = .ok (.aload_n 0, 1) := by decide +kernel
theorem dX2_make_1 : decode cX2_make 1 = .ok (.getfield 9, 3) := by decide +kernel
theorem dX2_make_4 : decode cX2_make 4 = .ok (.iload_n 1, 1) := by decide +kernel
theorem dX2_make_5 : decode cX2_make 5 = .ok (.iload_n 2, 1) := by decide +kernel
theorem dX2_make_6 : decode cX2_make 6 = .ok (.iastore, 1) := by decide +kernel
theorem dX2_make_7 : decode cX2_make 7 = .ok (.aload_n 0, 1) := by decide +kernel
theorem dX2_make_8 : decode cX2_make 8 = .ok (.getfield 15, 3) := by decide +kernel
theorem dX2_make_11 : decode cX2_make 11 = .ok (.iload_n 1, 1) := by decide +kernel
theorem dX2_make_12 : decode cX2_make 12 = .ok (.iload_n 3, 1) := by decide +kernel
theorem dX2_make_13 : decode cX2_make 13 = .ok (.iastore, 1) := by decide +kernel
theorem dX2_make_14 : decode cX2_make 14 = .ok (.iconst 0, 1) := by decide +kernel
theorem dX2_make_15 : decode cX2_make 15 = .ok (.istore 4, 2) := by decide +kernel
theorem dX2_make_17 : decode cX2_make 17 = .ok (.iload 4, 2) := by decide +kernel
theorem dX2_make_19 : decode cX2_make 19 = .ok (.iload_n 3, 1) := by decide +kernel
theorem dX2_make_20 : decode cX2_make 20 = .ok (.if_icmp .ge 22, 3) := by decide +kernel
theorem dX2_make_23 : decode cX2_make 23 = .ok (.aload_n 0, 1) := by decide +kernel
theorem dX2_make_24 : decode cX2_make 24 = .ok (.getfield 18, 3) := by decide +kernel
theorem dX2_make_27 : decode cX2_make 27 = .ok (.iload_n 1, 1) := by decide +kernel
theorem dX2_make_28 : decode cX2_make 28 = .ok (.bipush 60, 2) := by decide +kernel
theorem dX2_make_30 : decode cX2_make 30 = .ok (.imul, 1) := by decide +kernel
theorem dX2_make_31 : decode cX2_make 31 = .ok (.iload 4, 2) := by decide +kernel
theorem dX2_make_33 : decode cX2_make 33 = .ok (.iadd, 1) := by decide +kernel
theorem dX2_make_34 : decode cX2_make 34 = .ok (.iconst 0, 1) := by decide +kernel
theorem dX2_make_35 : decode cX2_make 35 = .ok (.iastore, 1) := by decide +kernel
theorem dX2_make_36 : decode cX2_make 36 = .ok (.iinc 4 1, 3) := by decide +kernel
theorem dX2_make_39 : decode cX2_make 39 = .ok (.goto (-22), 3) := by decide +kernel
theorem dX2_make_42 : decode cX2_make 42 = .ok (.return_, 1) := by decide +kernel
theorem dX2_wrongWith_0 : decode cX2_wrongWith 0 = .ok (.aload_n 0, 1) := by decide +kernel
theorem dX2_wrongWith_1 : decode cX2_wrongWith 1 = .ok (.iload_n 1, 1) := by decide +kernel
theorem dX2_wrongWith_2 : decode cX2_wrongWith 2 = .ok (.invokevirtual 21, 3) := by decide +kernel
theorem dX2_wrongWith_5 : decode cX2_wrongWith 5 = .ok (.ifCond .eq 5, 3) := by decide +kernel
theorem dX2_wrongWith_8 : decode cX2_wrongWith 8 = .ok (.iconst 1, 1) := by decide +kernel
theorem dX2_wrongWith_9 : decode cX2_wrongWith 9 = .ok (.ireturn, 1) := by decide +kernel
theorem dX2_wrongWith_10 : decode cX2_wrongWith 10 = .ok (.aload_n 0, 1) := by decide +kernel
theorem dX2_wrongWith_11 : decode cX2_wrongWith 11 = .ok (.getfield 9, 3) := by decide +kernel
theorem dX2_wrongWith_14 : decode cX2_wrongWith 14 = .ok (.iload_n 1, 1) := by decide +kernel
theorem dX2_wrongWith_15 : decode cX2_wrongWith 15 = .ok (.iaload, 1) := by decide +kernel
theorem dX2_wrongWith_16 : decode cX2_wrongWith 16 = .ok (.iload_n 2, 1) := by decide +kernel
theorem dX2_wrongWith_17 : decode cX2_wrongWith 17 = .ok (.if_icmp .eq 5, 3) := by decide +kernel
theorem dX2_wrongWith_20 : decode cX2_wrongWith 20 = .ok (.iconst 3, 1) := by decide +kernel
theorem dX2_wrongWith_21 : decode cX2_wrongWith 21 = .ok (.ireturn, 1) := by decide +kernel
theorem dX2_wrongWith_22 : decode cX2_wrongWith 22 = .ok (.aload_n 0, 1) := by decide +kernel
theorem dX2_wrongWith_23 : decode cX2_wrongWith 23 = .ok (.iload_n 1, 1) := by decide +kernel
theorem dX2_wrongWith_24 : decode cX2_wrongWith 24 = .ok (.iload_n 3, 1) := by decide +kernel
theorem dX2_wrongWith_25 : decode cX2_wrongWith 25 = .ok (.iconst 1, 1) := by decide +kernel
theorem dX2_wrongWith_26 : decode cX2_wrongWith 26 = .ok (.invokevirtual 25, 3) := by decide +kernel
theorem dX2_wrongWith_29 : decode cX2_wrongWith 29 = .ok (.ifCond .eq 7, 3) := by decide +kernel
theorem dX2_wrongWith_32 : decode cX2_wrongWith 32 = .ok (.iconst 0, 1) := by decide +kernel
theorem dX2_wrongWith_33 : decode cX2_wrongWith 33 = .ok (.goto 4, 3) := by decide +kernel
theorem dX2_wrongWith_36 : decode cX2_wrongWith 36 = .ok (.iconst 2, 1) := by decide +kernel
theorem dX2_wrongWith_37 : decode cX2_wrongWith 37 = .ok (.ireturn, 1) := by decide +kernel
theorem dX2_hasItems_0 : decode cX2_hasItems 0 = .ok (.iload_n 2, 1) := by decide +kernel
theorem dX2_hasItems_1 : decode cX2_hasItems 1 = .ok (.ifCond .lt 33, 3) := by decide +kernel
theorem dX2_hasItems_4 : decode cX2_hasItems 4 = .ok (.iload_n 3, 1) := by decide +kernel
theorem dX2_hasItems_5 : decode cX2_hasItems 5 = .ok (.ifCond .lt 29, 3) := by decide +kernel
theorem dX2_hasItems_8 : decode cX2_hasItems 8 = .ok (.iload_n 3, 1) := by decide +kernel
theorem dX2_hasItems_9 : decode cX2_hasItems 9 = .ok (.aload_n 0, 1) := by decide +kernel
theorem dX2_hasItems_10 : decode cX2_hasItems 10 = .ok (.getfield 15, 3) := by decide +kernel
theorem dX2_hasItems_13 : decode cX2_hasItems 13 = .ok (.iload_n 1, 1) := by decide +kernel
theorem dX2_hasItems_14 : decode cX2_hasItems 14 = .ok (.iaload, 1) := by decide +kernel
theorem dX2_hasItems_15 : decode cX2_hasItems 15 = .ok (.if_icmp .gt 19, 3) := by decide +kernel
theorem dX2_hasItems_18 : decode cX2_hasItems 18 = .ok (.iload_n 2, 1) := by decide +kernel
theorem dX2_hasItems_19 : decode cX2_hasItems 19 = .ok (.aload_n 0, 1) := by decide +kernel
theorem dX2_hasItems_20 : decode cX2_hasItems 20 = .ok (.getfield 15, 3) := by decide +kernel
theorem dX2_hasItems_23 : decode cX2_hasItems 23 = .ok (.iload_n 1, 1) := by decide +kernel
theorem dX2_hasItems_24 : decode cX2_hasItems 24 = .ok (.iaload, 1) := by decide +kernel
theorem dX2_hasItems_25 : decode cX2_hasItems 25 = .ok (.iload_n 3, 1) := by decide +kernel
theorem dX2_hasItems_26 : decode cX2_hasItems 26 = .ok (.isub, 1) := by decide +kernel
theorem dX2_hasItems_27 : decode cX2_hasItems 27 = .ok (.if_icmp .gt 7, 3) := by decide +kernel
theorem dX2_hasItems_30 : decode cX2_hasItems 30 = .ok (.iconst 1, 1) := by decide +kernel
theorem dX2_hasItems_31 : decode cX2_hasItems 31 = .ok (.goto 4, 3) := by decide +kernel
theorem dX2_hasItems_34 : decode cX2_hasItems 34 = .ok (.iconst 0, 1) := by decide +kernel
theorem dX2_hasItems_35 : decode cX2_hasItems 35 = .ok (.ireturn, 1) := by decide +kernel
theorem dX2_item_0 : decode cX2_item 0 = .ok (.aload_n 0, 1) := by decide +kernel
theorem dX2_item_1 : decode cX2_item 1 = .ok (.getfield 18, 3) := by decide +kernel
theorem dX2_item_4 : decode cX2_item 4 = .ok (.iload_n 1, 1) := by decide +kernel
theorem dX2_item_5 : decode cX2_item 5 = .ok (.bipush 60, 2) := by decide +kernel
theorem dX2_item_7 : decode cX2_item 7 = .ok (.imul, 1) := by decide +kernel
theorem dX2_item_8 : decode cX2_item 8 = .ok (.iload_n 2, 1) := by decide +kernel
theorem dX2_item_9 : decode cX2_item 9 = .ok (.iadd, 1) := by decide +kernel
theorem dX2_item_10 : decode cX2_item 10 = .ok (.iaload, 1) := by decide +kernel
theorem dX2_item_11 : decode cX2_item 11 = .ok (.ireturn, 1) := by decide +kernel
theorem dX2_store_0 : decode cX2_store 0 = .ok (.aload_n 0, 1) := by decide +kernel
theorem dX2_store_1 : decode cX2_store 1 = .ok (.getfield 9, 3) := by decide +kernel
theorem dX2_store_4 : decode cX2_store 4 = .ok (.iload_n 1, 1) := by decide +kernel
theorem dX2_store_5 : decode cX2_store 5 = .ok (.iaload, 1) := by decide +kernel
theorem dX2_store_6 : decode cX2_store 6 = .ok (.ifCond .ne 8, 3) := by decide +kernel
theorem dX2_store_9 : decode cX2_store 9 = .ok (.iload_n 3, 1) := by decide +kernel
theorem dX2_store_10 : decode cX2_store 10 = .ok (.i2b, 1) := by decide +kernel
theorem dX2_store_11 : decode cX2_store 11 = .ok (.goto 19, 3) := by decide +kernel
theorem dX2_store_14 : decode cX2_store 14 = .ok (.aload_n 0, 1) := by decide +kernel
theorem dX2_store_15 : decode cX2_store 15 = .ok (.getfield 9, 3) := by decide +kernel
theorem dX2_store_18 : decode cX2_store 18 = .ok (.iload_n 1, 1) := by decide +kernel
theorem dX2_store_19 : decode cX2_store 19 = .ok (.iaload, 1) := by decide +kernel
theorem dX2_store_20 : decode cX2_store 20 = .ok (.iconst 1, 1) := by decide +kernel
theorem dX2_store_21 : decode cX2_store 21 = .ok (.if_icmp .ne 8, 3) := by decide +kernel
theorem dX2_store_24 : decode cX2_store 24 = .ok (.iload_n 3, 1) := by decide +kernel
theorem dX2_store_25 : decode cX2_store 25 = .ok (.i2s, 1) := by decide +kernel
theorem dX2_store_26 : decode cX2_store 26 = .ok (.goto 4, 3) := by decide +kernel
theorem dX2_store_29 : decode cX2_store 29 = .ok (.iload_n 3, 1) := by decide +kernel
theorem dX2_store_30 : decode cX2_store 30 = .ok (.istore 4, 2) := by decide +kernel
theorem dX2_store_32 : decode cX2_store 32 = .ok (.aload_n 0, 1) := by decide +kernel
theorem dX2_store_33 : decode cX2_store 33 = .ok (.getfield 18, 3) := by decide +kernel
theorem dX2_store_36 : decode cX2_store 36 = .ok (.iload_n 1, 1) := by decide +kernel
theorem dX2_store_37 : decode cX2_store 37 = .ok (.bipush 60, 2) := by decide +kernel
theorem dX2_store_39 : decode cX2_store 39 = .ok (.imul, 1) := by decide +kernel
theorem dX2_store_40 : decode cX2_store 40 = .ok (.iload_n 2, 1) := by decide +kernel
theorem dX2_store_41 : decode cX2_store 41 = .ok (.iadd, 1) := by decide +kernel
theorem dX2_store_42 : decode cX2_store 42 = .ok (.iload 4, 2) := by decide +kernel
theorem dX2_store_44 : decode cX2_store 44 = .ok (.iastore, 1) := by decide +kernel
theorem dX2_store_45 : decode cX2_store 45 = .ok (.return_, 1) := by decide +kernel
theorem dX3_add_0 : decode cX3_add 0 = .ok (.aload_n 0, 1) := by decide +kernel
theorem dX3_add_1 : decode cX3_add 1 = .ok (.getfield 21, 3) := by decide +kernel
theorem dX3_add_4 : decode cX3_add 4 = .ok (.ifCond .lt 12, 3) := by decide +kernel
theorem dX3_add_7 : decode cX3_add 7 = .ok (.aload_n 0, 1) := by decide +kernel
theorem dX3_add_8 : decode cX3_add 8 = .ok (.getfield 21, 3) := by decide +kernel
theorem dX3_add_11 : decode cX3_add 11 = .ok (.bipush 8, 2) := by decide +kernel
theorem dX3_add_13 : decode cX3_add 13 = .ok (.if_icmp .lt 5, 3) := by decide +kernel
theorem dX3_add_16 : decode cX3_add 16 = .ok (.iconst 0, 1) := by decide +kernel
theorem dX3_add_17 : decode cX3_add 17 = .ok (.ireturn, 1) := by decide +kernel
theorem dX3_add_18 : decode cX3_add 18 = .ok (.aload_n 0, 1) := by decide +kernel
theorem dX3_add_19 : decode cX3_add 19 = .ok (.getfield 9, 3) := by decide +kernel
theorem dX3_add_22 : decode cX3_add 22 = .ok (.aload_n 0, 1) := by decide +kernel
theorem dX3_add_23 : decode cX3_add 23 = .ok (.getfield 21, 3) := by decide +kernel
theorem dX3_add_26 : decode cX3_add 26 = .ok (.iload_n 1, 1) := by decide +kernel
theorem dX3_add_27 : decode cX3_add 27 = .ok (.iastore, 1) := by decide +kernel
theorem dX3_add_28 : decode cX3_add 28 = .ok (.aload_n 0, 1) := by decide +kernel
theorem dX3_add_29 : decode cX3_add 29 = .ok (.getfield 15, 3) := by decide +kernel
theorem dX3_add_32 : decode cX3_add 32 = .ok (.aload_n 0, 1) := by decide +kernel
theorem dX3_add_33 : decode cX3_add 33 = .ok (.getfield 21, 3) := by decide +kernel
theorem dX3_add_36 : decode cX3_add 36 = .ok (.iload_n 2, 1) := by decide +kernel
theorem dX3_add_37 : decode cX3_add 37 = .ok (.iastore, 1) := by decide +kernel
theorem dX3_add_38 : decode cX3_add 38 = .ok (.aload_n 0, 1) := by decide +kernel
theorem dX3_add_39 : decode cX3_add 39 = .ok (.getfield 18, 3) := by decide +kernel
theorem dX3_add_42 : decode cX3_add 42 = .ok (.aload_n 0, 1) := by decide +kernel
theorem dX3_add_43 : decode cX3_add 43 = .ok (.getfield 21, 3) := by decide +kernel
theorem dX3_add_46 : decode cX3_add 46 = .ok (.iload_n 3, 1) := by decide +kernel
theorem dX3_add_47 : decode cX3_add 47 = .ok (.bipush 8, 2) := by decide +kernel
theorem dX3_add_49 : decode cX3_add 49 = .ok (.if_icmp .ne 7, 3) := by decide +kernel
theorem dX3_add_52 : decode cX3_add 52 = .ok (.iconst (-1), 1) := by decide +kernel
theorem dX3_add_53 : decode cX3_add 53 = .ok (.goto 4, 3) := by decide +kernel
theorem dX3_add_56 : decode cX3_add 56 = .ok (.iload_n 3, 1) := by decide +kernel
theorem dX3_add_57 : decode cX3_add 57 = .ok (.iastore, 1) := by decide +kernel
theorem dX3_add_58 : decode cX3_add 58 = .ok (.aload_n 0, 1) := by decide +kernel
theorem dX3_add_59 : decode cX3_add 59 = .ok (.dup, 1) := by decide +kernel
theorem dX3_add_60 : decode cX3_add 60 = .ok (.getfield 21, 3) := by decide +kernel
theorem dX3_add_63 : decode cX3_add 63 = .ok (.iconst 1, 1) := by decide +kernel
theorem dX3_add_64 : decode cX3_add 64 = .ok (.iadd, 1) := by decide +kernel
theorem dX3_add_65 : decode cX3_add 65 = .ok (.putfield 21, 3) := by decide +kernel
theorem dX3_add_68 : decode cX3_add 68 = .ok (.iconst 1, 1) := by decide +kernel
theorem dX3_add_69 : decode cX3_add 69 = .ok (.ireturn, 1) := by decide +kernel
theorem dX3_agree_0 : decode cX3_agree 0 = .ok (.iconst 0, 1) := by decide +kernel
theorem dX3_agree_1 : decode cX3_agree 1 = .ok (.istore_n 2, 1) := by decide +kernel
theorem dX3_agree_2 : decode cX3_agree 2 = .ok (.iload_n 2, 1) := by decide +kernel
theorem dX3_agree_3 : decode cX3_agree 3 = .ok (.aload_n 0, 1) := by decide +kernel
theorem dX3_agree_4 : decode cX3_agree 4 = .ok (.getfield 21, 3) := by decide +kernel
theorem dX3_agree_7 : decode cX3_agree 7 = .ok (.if_icmp .ge 52, 3) := by decide +kernel
theorem dX3_agree_10 : decode cX3_agree 10 = .ok (.aload_n 0, 1) := by decide +kernel
theorem dX3_agree_11 : decode cX3_agree 11 = .ok (.getfield 9, 3) := by decide +kernel
theorem dX3_agree_14 : decode cX3_agree 14 = .ok (.iload_n 2, 1) := by decide +kernel
theorem dX3_agree_15 : decode cX3_agree 15 = .ok (.iaload, 1) := by decide +kernel
theorem dX3_agree_16 : decode cX3_agree 16 = .ok (.aload_n 1, 1) := by decide +kernel
theorem dX3_agree_17 : decode cX3_agree 17 = .ok (.getfield 25, 3) := by decide +kernel
theorem dX3_agree_20 : decode cX3_agree 20 = .ok (.getfield 31, 3) := by decide +kernel
theorem dX3_agree_23 : decode cX3_agree 23 = .ok (.if_icmp .ge 28, 3) := by decide +kernel
theorem dX3_agree_26 : decode cX3_agree 26 = .ok (.aload_n 1, 1) := by decide +kernel
theorem dX3_agree_27 : decode cX3_agree 27 = .ok (.aload_n 0, 1) := by decide +kernel
theorem dX3_agree_28 : decode cX3_agree 28 = .ok (.getfield 9, 3) := by decide +kernel
theorem dX3_agree_31 : decode cX3_agree 31 = .ok (.iload_n 2, 1) := by decide +kernel
theorem dX3_agree_32 : decode cX3_agree 32 = .ok (.iaload, 1) := by decide +kernel
theorem dX3_agree_33 : decode cX3_agree 33 = .ok (.aload_n 0, 1) := by decide +kernel
theorem dX3_agree_34 : decode cX3_agree 34 = .ok (.getfield 15, 3) := by decide +kernel
theorem dX3_agree_37 : decode cX3_agree 37 = .ok (.iload_n 2, 1) := by decide +kernel
theorem dX3_agree_38 : decode cX3_agree 38 = .ok (.iaload, 1) := by decide +kernel
theorem dX3_agree_39 : decode cX3_agree 39 = .ok (.invokevirtual 36, 3) := by decide +kernel
theorem dX3_agree_42 : decode cX3_agree 42 = .ok (.aload_n 0, 1) := by decide +kernel
theorem dX3_agree_43 : decode cX3_agree 43 = .ok (.getfield 18, 3) := by decide +kernel
theorem dX3_agree_46 : decode cX3_agree 46 = .ok (.iload_n 2, 1) := by decide +kernel
theorem dX3_agree_47 : decode cX3_agree 47 = .ok (.iaload, 1) := by decide +kernel
theorem dX3_agree_48 : decode cX3_agree 48 = .ok (.if_icmp .eq 5, 3) := by decide +kernel
theorem dX3_agree_51 : decode cX3_agree 51 = .ok (.iconst 0, 1) := by decide +kernel
theorem dX3_agree_52 : decode cX3_agree 52 = .ok (.ireturn, 1) := by decide +kernel
theorem dX3_agree_53 : decode cX3_agree 53 = .ok (.iinc 2 1, 3) := by decide +kernel
theorem dX3_agree_56 : decode cX3_agree 56 = .ok (.goto (-54), 3) := by decide +kernel
theorem dX3_agree_59 : decode cX3_agree 59 = .ok (.iconst 1, 1) := by decide +kernel
theorem dX3_agree_60 : decode cX3_agree 60 = .ok (.ireturn, 1) := by decide +kernel
theorem dX4_append_0 : decode cX4_append 0 = .ok (.aload_n 0, 1) := by decide +kernel
theorem dX4_append_1 : decode cX4_append 1 = .ok (.getfield 7, 3) := by decide +kernel
theorem dX4_append_4 : decode cX4_append 4 = .ok (.ifCond .lt 15, 3) := by decide +kernel
theorem dX4_append_7 : decode cX4_append 7 = .ok (.aload_n 0, 1) := by decide +kernel
theorem dX4_append_8 : decode cX4_append 8 = .ok (.getfield 7, 3) := by decide +kernel
theorem dX4_append_11 : decode cX4_append 11 = .ok (.aload_n 0, 1) := by decide +kernel
theorem dX4_append_12 : decode cX4_append 12 = .ok (.getfield 13, 3) := by decide +kernel
theorem dX4_append_15 : decode cX4_append 15 = .ok (.arraylength, 1) := by decide +kernel
theorem dX4_append_16 : decode cX4_append 16 = .ok (.if_icmp .lt 5, 3) := by decide +kernel
theorem dX4_append_19 : decode cX4_append 19 = .ok (.iconst 0, 1) := by decide +kernel
theorem dX4_append_20 : decode cX4_append 20 = .ok (.ireturn, 1) := by decide +kernel
theorem dX4_append_21 : decode cX4_append 21 = .ok (.aload_n 0, 1) := by decide +kernel
theorem dX4_append_22 : decode cX4_append 22 = .ok (.getfield 13, 3) := by decide +kernel
theorem dX4_append_25 : decode cX4_append 25 = .ok (.aload_n 0, 1) := by decide +kernel
theorem dX4_append_26 : decode cX4_append 26 = .ok (.getfield 7, 3) := by decide +kernel
theorem dX4_append_29 : decode cX4_append 29 = .ok (.iload_n 1, 1) := by decide +kernel
theorem dX4_append_30 : decode cX4_append 30 = .ok (.iastore, 1) := by decide +kernel
theorem dX4_append_31 : decode cX4_append 31 = .ok (.aload_n 0, 1) := by decide +kernel
theorem dX4_append_32 : decode cX4_append 32 = .ok (.dup, 1) := by decide +kernel
theorem dX4_append_33 : decode cX4_append 33 = .ok (.getfield 7, 3) := by decide +kernel
theorem dX4_append_36 : decode cX4_append 36 = .ok (.iconst 1, 1) := by decide +kernel
theorem dX4_append_37 : decode cX4_append 37 = .ok (.iadd, 1) := by decide +kernel
theorem dX4_append_38 : decode cX4_append 38 = .ok (.putfield 7, 3) := by decide +kernel
theorem dX4_append_41 : decode cX4_append 41 = .ok (.iconst 1, 1) := by decide +kernel
theorem dX4_append_42 : decode cX4_append 42 = .ok (.ireturn, 1) := by decide +kernel
theorem dX5_readFloors_0 : decode cX5_readFloors 0 = .ok (.aload_n 0, 1) := by decide +kernel
theorem dX5_readFloors_1 : decode cX5_readFloors 1 = .ok (.aload_n 0, 1) := by decide +kernel
theorem dX5_readFloors_2 : decode cX5_readFloors 2 = .ok (.aload_n 1, 1) := by decide +kernel
theorem dX5_readFloors_3 : decode cX5_readFloors 3 = .ok (.invokevirtual 52, 3) := by decide +kernel
theorem dX5_readFloors_6 : decode cX5_readFloors 6 = .ok (.putfield 15, 3) := by decide +kernel
theorem dX5_readFloors_9 : decode cX5_readFloors 9 = .ok (.aload_n 0, 1) := by decide +kernel
theorem dX5_readFloors_10 : decode cX5_readFloors 10 = .ok (.aload_n 0, 1) := by decide +kernel
theorem dX5_readFloors_11 : decode cX5_readFloors 11 = .ok (.getfield 15, 3) := by decide +kernel
theorem dX5_readFloors_14 : decode cX5_readFloors 14 = .ok (.iconst (-1), 1) := by decide +kernel
theorem dX5_readFloors_15 : decode cX5_readFloors 15 = .ok (.if_icmp .ne 14, 3) := by decide +kernel
theorem dX5_readFloors_18 : decode cX5_readFloors 18 = .ok (.aload_n 1, 1) := by decide +kernel
theorem dX5_readFloors_19 : decode cX5_readFloors 19 = .ok (.getfield 56, 3) := by decide +kernel
theorem dX5_readFloors_22 : decode cX5_readFloors 22 = .ok (.iconst 1, 1) := by decide +kernel
theorem dX5_readFloors_23 : decode cX5_readFloors 23 = .ok (.iadd, 1) := by decide +kernel
theorem dX5_readFloors_24 : decode cX5_readFloors 24 = .ok (.iconst 4, 1) := by decide +kernel
theorem dX5_readFloors_25 : decode cX5_readFloors 25 = .ok (.idiv, 1) := by decide +kernel
theorem dX5_readFloors_26 : decode cX5_readFloors 26 = .ok (.goto 4, 3) := by decide +kernel
theorem dX5_readFloors_29 : decode cX5_readFloors 29 = .ok (.iconst 0, 1) := by decide +kernel
theorem dX5_readFloors_30 : decode cX5_readFloors 30 = .ok (.putfield 9, 3) := by decide +kernel
theorem dX5_readFloors_33 : decode cX5_readFloors 33 = .ok (.return_, 1) := by decide +kernel
theorem dX5_takeFloors_0 : decode cX5_takeFloors 0 = .ok (.iconst 0, 1) := by decide +kernel
theorem dX5_takeFloors_1 : decode cX5_takeFloors 1 = .ok (.istore_n 2, 1) := by decide +kernel
theorem dX5_takeFloors_2 : decode cX5_takeFloors 2 = .ok (.iload_n 2, 1) := by decide +kernel
theorem dX5_takeFloors_3 : decode cX5_takeFloors 3 = .ok (.aload_n 1, 1) := by decide +kernel
theorem dX5_takeFloors_4 : decode cX5_takeFloors 4 = .ok (.getfield 56, 3) := by decide +kernel
theorem dX5_takeFloors_7 : decode cX5_takeFloors 7 = .ok (.if_icmp .ge 130, 3) := by decide +kernel
theorem dX5_takeFloors_10 : decode cX5_takeFloors 10 = .ok (.aload_n 1, 1) := by decide +kernel
theorem dX5_takeFloors_11 : decode cX5_takeFloors 11 = .ok (.getfield 61, 3) := by decide +kernel
theorem dX5_takeFloors_14 : decode cX5_takeFloors 14 = .ok (.iload_n 2, 1) := by decide +kernel
theorem dX5_takeFloors_15 : decode cX5_takeFloors 15 = .ok (.iaload, 1) := by decide +kernel
theorem dX5_takeFloors_16 : decode cX5_takeFloors 16 = .ok (.istore_n 3, 1) := by decide +kernel
theorem dX5_takeFloors_17 : decode cX5_takeFloors 17 = .ok (.iload_n 2, 1) := by decide +kernel
theorem dX5_takeFloors_18 : decode cX5_takeFloors 18 = .ok (.iconst 4, 1) := by decide +kernel
theorem dX5_takeFloors_19 : decode cX5_takeFloors 19 = .ok (.idiv, 1) := by decide +kernel
theorem dX5_takeFloors_20 : decode cX5_takeFloors 20 = .ok (.istore 4, 2) := by decide +kernel
theorem dX5_takeFloors_22 : decode cX5_takeFloors 22 = .ok (.iload_n 2, 1) := by decide +kernel
theorem dX5_takeFloors_23 : decode cX5_takeFloors 23 = .ok (.iconst 4, 1) := by decide +kernel
theorem dX5_takeFloors_24 : decode cX5_takeFloors 24 = .ok (.irem, 1) := by decide +kernel
theorem dX5_takeFloors_25 : decode cX5_takeFloors 25 = .ok (.istore 5, 2) := by decide +kernel
theorem dX5_takeFloors_27 : decode cX5_takeFloors 27 = .ok (.iload 4, 2) := by decide +kernel
theorem dX5_takeFloors_29 : decode cX5_takeFloors 29 = .ok (.bipush 9, 2) := by decide +kernel
theorem dX5_takeFloors_31 : decode cX5_takeFloors 31 = .ok (.if_icmp .lt 5, 3) := by decide +kernel
theorem dX5_takeFloors_34 : decode cX5_takeFloors 34 = .ok (.iload_n 2, 1) := by decide +kernel
theorem dX5_takeFloors_35 : decode cX5_takeFloors 35 = .ok (.ireturn, 1) := by decide +kernel
theorem dX5_takeFloors_36 : decode cX5_takeFloors 36 = .ok (.iload 5, 2) := by decide +kernel
theorem dX5_takeFloors_38 : decode cX5_takeFloors 38 = .ok (.ifCond .ne 25, 3) := by decide +kernel
theorem dX5_takeFloors_41 : decode cX5_takeFloors 41 = .ok (.iload_n 3, 1) := by decide +kernel
theorem dX5_takeFloors_42 : decode cX5_takeFloors 42 = .ok (.invokestatic 64, 3) := by decide +kernel
theorem dX5_takeFloors_45 : decode cX5_takeFloors 45 = .ok (.iconst (-1), 1) := by decide +kernel
theorem dX5_takeFloors_46 : decode cX5_takeFloors 46 = .ok (.if_icmp .eq 17, 3) := by decide +kernel
theorem dX5_takeFloors_49 : decode cX5_takeFloors 49 = .ok (.aload_n 0, 1) := by decide +kernel
theorem dX5_takeFloors_50 : decode cX5_takeFloors 50 = .ok (.getfield 18, 3) := by decide +kernel
theorem dX5_takeFloors_53 : decode cX5_takeFloors 53 = .ok (.iload 4, 2) := by decide +kernel
theorem dX5_takeFloors_55 : decode cX5_takeFloors 55 = .ok (.iload_n 3, 1) := by decide +kernel
theorem dX5_takeFloors_56 : decode cX5_takeFloors 56 = .ok (.invokestatic 64, 3) := by decide +kernel
theorem dX5_takeFloors_59 : decode cX5_takeFloors 59 = .ok (.iastore, 1) := by decide +kernel
theorem dX5_takeFloors_60 : decode cX5_takeFloors 60 = .ok (.goto 71, 3) := by decide +kernel
theorem dX5_takeFloors_63 : decode cX5_takeFloors 63 = .ok (.iload 5, 2) := by decide +kernel
theorem dX5_takeFloors_65 : decode cX5_takeFloors 65 = .ok (.iconst 1, 1) := by decide +kernel
theorem dX5_takeFloors_66 : decode cX5_takeFloors 66 = .ok (.if_icmp .ne 24, 3) := by decide +kernel
theorem dX5_takeFloors_69 : decode cX5_takeFloors 69 = .ok (.iload_n 3, 1) := by decide +kernel
theorem dX5_takeFloors_70 : decode cX5_takeFloors 70 = .ok (.invokestatic 68, 3) := by decide +kernel
theorem dX5_takeFloors_73 : decode cX5_takeFloors 73 = .ok (.ifCond .eq 17, 3) := by decide +kernel
theorem dX5_takeFloors_76 : decode cX5_takeFloors 76 = .ok (.aload_n 0, 1) := by decide +kernel
theorem dX5_takeFloors_77 : decode cX5_takeFloors 77 = .ok (.getfield 22, 3) := by decide +kernel
theorem dX5_takeFloors_80 : decode cX5_takeFloors 80 = .ok (.iload 4, 2) := by decide +kernel
theorem dX5_takeFloors_82 : decode cX5_takeFloors 82 = .ok (.iload_n 3, 1) := by decide +kernel
theorem dX5_takeFloors_83 : decode cX5_takeFloors 83 = .ok (.bipush 48, 2) := by decide +kernel
theorem dX5_takeFloors_85 : decode cX5_takeFloors 85 = .ok (.isub, 1) := by decide +kernel
theorem dX5_takeFloors_86 : decode cX5_takeFloors 86 = .ok (.iastore, 1) := by decide +kernel
theorem dX5_takeFloors_87 : decode cX5_takeFloors 87 = .ok (.goto 44, 3) := by decide +kernel
theorem dX5_takeFloors_90 : decode cX5_takeFloors 90 = .ok (.iload 5, 2) := by decide +kernel
theorem dX5_takeFloors_92 : decode cX5_takeFloors 92 = .ok (.iconst 2, 1) := by decide +kernel
theorem dX5_takeFloors_93 : decode cX5_takeFloors 93 = .ok (.if_icmp .ne 24, 3) := by decide +kernel
theorem dX5_takeFloors_96 : decode cX5_takeFloors 96 = .ok (.iload_n 3, 1) := by decide +kernel
theorem dX5_takeFloors_97 : decode cX5_takeFloors 97 = .ok (.invokestatic 72, 3) := by decide +kernel
theorem dX5_takeFloors_100 : decode cX5_takeFloors 100 = .ok (.ifCond .eq 17, 3) := by decide +kernel
theorem dX5_takeFloors_103 : decode cX5_takeFloors 103 = .ok (.aload_n 0, 1) := by decide +kernel
theorem dX5_takeFloors_104 : decode cX5_takeFloors 104 = .ok (.getfield 25, 3) := by decide +kernel
theorem dX5_takeFloors_107 : decode cX5_takeFloors 107 = .ok (.iload 4, 2) := by decide +kernel
theorem dX5_takeFloors_109 : decode cX5_takeFloors 109 = .ok (.iload_n 3, 1) := by decide +kernel
theorem dX5_takeFloors_110 : decode cX5_takeFloors 110 = .ok (.bipush 97, 2) := by decide +kernel
theorem dX5_takeFloors_112 : decode cX5_takeFloors 112 = .ok (.isub, 1) := by decide +kernel
theorem dX5_takeFloors_113 : decode cX5_takeFloors 113 = .ok (.iastore, 1) := by decide +kernel
theorem dX5_takeFloors_114 : decode cX5_takeFloors 114 = .ok (.goto 17, 3) := by decide +kernel
theorem dX5_takeFloors_117 : decode cX5_takeFloors 117 = .ok (.iload 5, 2) := by decide +kernel
theorem dX5_takeFloors_119 : decode cX5_takeFloors 119 = .ok (.iconst 3, 1) := by decide +kernel
theorem dX5_takeFloors_120 : decode cX5_takeFloors 120 = .ok (.if_icmp .ne 9, 3) := by decide +kernel
theorem dX5_takeFloors_123 : decode cX5_takeFloors 123 = .ok (.iload_n 3, 1) := by decide +kernel
theorem dX5_takeFloors_124 : decode cX5_takeFloors 124 = .ok (.bipush 59, 2) := by decide +kernel
theorem dX5_takeFloors_126 : decode cX5_takeFloors 126 = .ok (.if_icmp .eq 5, 3) := by decide +kernel
theorem dX5_takeFloors_129 : decode cX5_takeFloors 129 = .ok (.iload_n 2, 1) := by decide +kernel
theorem dX5_takeFloors_130 : decode cX5_takeFloors 130 = .ok (.ireturn, 1) := by decide +kernel
theorem dX5_takeFloors_131 : decode cX5_takeFloors 131 = .ok (.iinc 2 1, 3) := by decide +kernel
theorem dX5_takeFloors_134 : decode cX5_takeFloors 134 = .ok (.goto (-132), 3) := by decide +kernel
theorem dX5_takeFloors_137 : decode cX5_takeFloors 137 = .ok (.aload_n 1, 1) := by decide +kernel
theorem dX5_takeFloors_138 : decode cX5_takeFloors 138 = .ok (.getfield 56, 3) := by decide +kernel
theorem dX5_takeFloors_141 : decode cX5_takeFloors 141 = .ok (.ifCond .eq 13, 3) := by decide +kernel
theorem dX5_takeFloors_144 : decode cX5_takeFloors 144 = .ok (.aload_n 1, 1) := by decide +kernel
theorem dX5_takeFloors_145 : decode cX5_takeFloors 145 = .ok (.getfield 56, 3) := by decide +kernel
theorem dX5_takeFloors_148 : decode cX5_takeFloors 148 = .ok (.iconst 4, 1) := by decide +kernel
theorem dX5_takeFloors_149 : decode cX5_takeFloors 149 = .ok (.irem, 1) := by decide +kernel
theorem dX5_takeFloors_150 : decode cX5_takeFloors 150 = .ok (.iconst 3, 1) := by decide +kernel
theorem dX5_takeFloors_151 : decode cX5_takeFloors 151 = .ok (.if_icmp .ne 7, 3) := by decide +kernel
theorem dX5_takeFloors_154 : decode cX5_takeFloors 154 = .ok (.iconst (-1), 1) := by decide +kernel
theorem dX5_takeFloors_155 : decode cX5_takeFloors 155 = .ok (.goto 7, 3) := by decide +kernel
theorem dX5_takeFloors_158 : decode cX5_takeFloors 158 = .ok (.aload_n 1, 1) := by decide +kernel
theorem dX5_takeFloors_159 : decode cX5_takeFloors 159 = .ok (.getfield 56, 3) := by decide +kernel
theorem dX5_takeFloors_162 : decode cX5_takeFloors 162 = .ok (.ireturn, 1) := by decide +kernel
theorem dX5_readBaskets_0 : decode cX5_readBaskets 0 = .ok (.aload_n 0, 1) := by decide +kernel
theorem dX5_readBaskets_1 : decode cX5_readBaskets 1 = .ok (.iconst 0, 1) := by decide +kernel
theorem dX5_readBaskets_2 : decode cX5_readBaskets 2 = .ok (.putfield 28, 3) := by decide +kernel
theorem dX5_readBaskets_5 : decode cX5_readBaskets 5 = .ok (.aload_n 0, 1) := by decide +kernel
theorem dX5_readBaskets_6 : decode cX5_readBaskets 6 = .ok (.aload_n 0, 1) := by decide +kernel
theorem dX5_readBaskets_7 : decode cX5_readBaskets 7 = .ok (.aload_n 1, 1) := by decide +kernel
theorem dX5_readBaskets_8 : decode cX5_readBaskets 8 = .ok (.invokevirtual 75, 3) := by decide +kernel
theorem dX5_readBaskets_11 : decode cX5_readBaskets 11 = .ok (.putfield 31, 3) := by decide +kernel
theorem dX5_readBaskets_14 : decode cX5_readBaskets 14 = .ok (.aload_n 0, 1) := by decide +kernel
theorem dX5_readBaskets_15 : decode cX5_readBaskets 15 = .ok (.getfield 31, 3) := by decide +kernel
theorem dX5_readBaskets_18 : decode cX5_readBaskets 18 = .ok (.iconst (-1), 1) := by decide +kernel
theorem dX5_readBaskets_19 : decode cX5_readBaskets 19 = .ok (.if_icmp .eq 8, 3) := by decide +kernel
theorem dX5_readBaskets_22 : decode cX5_readBaskets 22 = .ok (.aload_n 0, 1) := by decide +kernel
theorem dX5_readBaskets_23 : decode cX5_readBaskets 23 = .ok (.iconst 0, 1) := by decide +kernel
theorem dX5_readBaskets_24 : decode cX5_readBaskets 24 = .ok (.putfield 28, 3) := by decide +kernel
theorem dX5_readBaskets_27 : decode cX5_readBaskets 27 = .ok (.return_, 1) := by decide +kernel
theorem dX5_takeBaskets_0 : decode cX5_takeBaskets 0 = .ok (.iconst 0, 1) := by decide +kernel
theorem dX5_takeBaskets_1 : decode cX5_takeBaskets 1 = .ok (.istore_n 2, 1) := by decide +kernel
theorem dX5_takeBaskets_2 : decode cX5_takeBaskets 2 = .ok (.iconst 0, 1) := by decide +kernel
theorem dX5_takeBaskets_3 : decode cX5_takeBaskets 3 = .ok (.istore_n 3, 1) := by decide +kernel
theorem dX5_takeBaskets_4 : decode cX5_takeBaskets 4 = .ok (.iload_n 3, 1) := by decide +kernel
theorem dX5_takeBaskets_5 : decode cX5_takeBaskets 5 = .ok (.aload_n 1, 1) := by decide +kernel
theorem dX5_takeBaskets_6 : decode cX5_takeBaskets 6 = .ok (.getfield 56, 3) := by decide +kernel
theorem dX5_takeBaskets_9 : decode cX5_takeBaskets 9 = .ok (.if_icmp .ge 59, 3) := by decide +kernel
theorem dX5_takeBaskets_12 : decode cX5_takeBaskets 12 = .ok (.aload_n 1, 1) := by decide +kernel
theorem dX5_takeBaskets_13 : decode cX5_takeBaskets 13 = .ok (.getfield 61, 3) := by decide +kernel
theorem dX5_takeBaskets_16 : decode cX5_takeBaskets 16 = .ok (.iload_n 3, 1) := by decide +kernel
theorem dX5_takeBaskets_17 : decode cX5_takeBaskets 17 = .ok (.iaload, 1) := by decide +kernel
theorem dX5_takeBaskets_18 : decode cX5_takeBaskets 18 = .ok (.istore 4, 2) := by decide +kernel
theorem dX5_takeBaskets_20 : decode cX5_takeBaskets 20 = .ok (.iload_n 2, 1) := by decide +kernel
theorem dX5_takeBaskets_21 : decode cX5_takeBaskets 21 = .ok (.iconst 4, 1) := by decide +kernel
theorem dX5_takeBaskets_22 : decode cX5_takeBaskets 22 = .ok (.if_icmp .le 15, 3) := by decide +kernel
theorem dX5_takeBaskets_25 : decode cX5_takeBaskets 25 = .ok (.iload 4, 2) := by decide +kernel
theorem dX5_takeBaskets_27 : decode cX5_takeBaskets 27 = .ok (.bipush 59, 2) := by decide +kernel
theorem dX5_takeBaskets_29 : decode cX5_takeBaskets 29 = .ok (.if_icmp .ne 8, 3) := by decide +kernel
theorem dX5_takeBaskets_32 : decode cX5_takeBaskets 32 = .ok (.iconst 0, 1) := by decide +kernel
theorem dX5_takeBaskets_33 : decode cX5_takeBaskets 33 = .ok (.istore_n 2, 1) := by decide +kernel
theorem dX5_takeBaskets_34 : decode cX5_takeBaskets 34 = .ok (.goto 28, 3) := by decide +kernel
theorem dX5_takeBaskets_37 : decode cX5_takeBaskets 37 = .ok (.aload_n 0, 1) := by decide +kernel
theorem dX5_takeBaskets_38 : decode cX5_takeBaskets 38 = .ok (.iload_n 2, 1) := by decide +kernel
theorem dX5_takeBaskets_39 : decode cX5_takeBaskets 39 = .ok (.iload 4, 2) := by decide +kernel
theorem dX5_takeBaskets_41 : decode cX5_takeBaskets 41 = .ok (.invokevirtual 78, 3) := by decide +kernel
theorem dX5_takeBaskets_44 : decode cX5_takeBaskets 44 = .ok (.ifCond .eq 16, 3) := by decide +kernel
theorem dX5_takeBaskets_47 : decode cX5_takeBaskets 47 = .ok (.aload_n 0, 1) := by decide +kernel
theorem dX5_takeBaskets_48 : decode cX5_takeBaskets 48 = .ok (.iload_n 2, 1) := by decide +kernel
theorem dX5_takeBaskets_49 : decode cX5_takeBaskets 49 = .ok (.iload 4, 2) := by decide +kernel
theorem dX5_takeBaskets_51 : decode cX5_takeBaskets 51 = .ok (.invokevirtual 82, 3) := by decide +kernel
theorem dX5_takeBaskets_54 : decode cX5_takeBaskets 54 = .ok (.iinc 2 1, 3) := by decide +kernel
theorem dX5_takeBaskets_57 : decode cX5_takeBaskets 57 = .ok (.goto 5, 3) := by decide +kernel
theorem dX5_takeBaskets_60 : decode cX5_takeBaskets 60 = .ok (.iload_n 3, 1) := by decide +kernel
theorem dX5_takeBaskets_61 : decode cX5_takeBaskets 61 = .ok (.ireturn, 1) := by decide +kernel
theorem dX5_takeBaskets_62 : decode cX5_takeBaskets 62 = .ok (.iinc 3 1, 3) := by decide +kernel
theorem dX5_takeBaskets_65 : decode cX5_takeBaskets 65 = .ok (.goto (-61), 3) := by decide +kernel
theorem dX5_takeBaskets_68 : decode cX5_takeBaskets 68 = .ok (.aload_n 1, 1) := by decide +kernel
theorem dX5_takeBaskets_69 : decode cX5_takeBaskets 69 = .ok (.getfield 56, 3) := by decide +kernel
theorem dX5_takeBaskets_72 : decode cX5_takeBaskets 72 = .ok (.ifCond .eq 8, 3) := by decide +kernel
theorem dX5_takeBaskets_75 : decode cX5_takeBaskets 75 = .ok (.iload_n 2, 1) := by decide +kernel
theorem dX5_takeBaskets_76 : decode cX5_takeBaskets 76 = .ok (.iconst 4, 1) := by decide +kernel
theorem dX5_takeBaskets_77 : decode cX5_takeBaskets 77 = .ok (.if_icmp .le 7, 3) := by decide +kernel
theorem dX5_takeBaskets_80 : decode cX5_takeBaskets 80 = .ok (.iconst (-1), 1) := by decide +kernel
theorem dX5_takeBaskets_81 : decode cX5_takeBaskets 81 = .ok (.goto 7, 3) := by decide +kernel
theorem dX5_takeBaskets_84 : decode cX5_takeBaskets 84 = .ok (.aload_n 1, 1) := by decide +kernel
theorem dX5_takeBaskets_85 : decode cX5_takeBaskets 85 = .ok (.getfield 56, 3) := by decide +kernel
theorem dX5_takeBaskets_88 : decode cX5_takeBaskets 88 = .ok (.ireturn, 1) := by decide +kernel
theorem dX5_basketTakes_0 : decode cX5_basketTakes 0 = .ok (.iload_n 1, 1) := by decide +kernel
theorem dX5_basketTakes_1 : decode cX5_basketTakes 1 = .ok (.ifCond .ne 30, 3) := by decide +kernel
theorem dX5_basketTakes_4 : decode cX5_basketTakes 4 = .ok (.aload_n 0, 1) := by decide +kernel
theorem dX5_basketTakes_5 : decode cX5_basketTakes 5 = .ok (.getfield 28, 3) := by decide +kernel
theorem dX5_basketTakes_8 : decode cX5_basketTakes 8 = .ok (.bipush 8, 2) := by decide +kernel
theorem dX5_basketTakes_10 : decode cX5_basketTakes 10 = .ok (.if_icmp .ge 19, 3) := by decide +kernel
theorem dX5_basketTakes_13 : decode cX5_basketTakes 13 = .ok (.iload_n 2, 1) := by decide +kernel
theorem dX5_basketTakes_14 : decode cX5_basketTakes 14 = .ok (.bipush 48, 2) := by decide +kernel
theorem dX5_basketTakes_16 : decode cX5_basketTakes 16 = .ok (.if_icmp .lt 13, 3) := by decide +kernel
theorem dX5_basketTakes_19 : decode cX5_basketTakes 19 = .ok (.iload_n 2, 1) := by decide +kernel
theorem dX5_basketTakes_20 : decode cX5_basketTakes 20 = .ok (.bipush 50, 2) := by decide +kernel
theorem dX5_basketTakes_22 : decode cX5_basketTakes 22 = .ok (.if_icmp .gt 7, 3) := by decide +kernel
theorem dX5_basketTakes_25 : decode cX5_basketTakes 25 = .ok (.iconst 1, 1) := by decide +kernel
theorem dX5_basketTakes_26 : decode cX5_basketTakes 26 = .ok (.goto 4, 3) := by decide +kernel
theorem dX5_basketTakes_29 : decode cX5_basketTakes 29 = .ok (.iconst 0, 1) := by decide +kernel
theorem dX5_basketTakes_30 : decode cX5_basketTakes 30 = .ok (.ireturn, 1) := by decide +kernel
theorem dX5_basketTakes_31 : decode cX5_basketTakes 31 = .ok (.iload_n 1, 1) := by decide +kernel
theorem dX5_basketTakes_32 : decode cX5_basketTakes 32 = .ok (.iconst 4, 1) := by decide +kernel
theorem dX5_basketTakes_33 : decode cX5_basketTakes 33 = .ok (.if_icmp .ge 10, 3) := by decide +kernel
theorem dX5_basketTakes_36 : decode cX5_basketTakes 36 = .ok (.iload_n 2, 1) := by decide +kernel
theorem dX5_basketTakes_37 : decode cX5_basketTakes 37 = .ok (.invokestatic 68, 3) := by decide +kernel
theorem dX5_basketTakes_40 : decode cX5_basketTakes 40 = .ok (.goto 21, 3) := by decide +kernel
theorem dX5_basketTakes_43 : decode cX5_basketTakes 43 = .ok (.iload_n 1, 1) := by decide +kernel
theorem dX5_basketTakes_44 : decode cX5_basketTakes 44 = .ok (.bipush 7, 2) := by decide +kernel
theorem dX5_basketTakes_46 : decode cX5_basketTakes 46 = .ok (.if_icmp .ge 14, 3) := by decide +kernel
theorem dX5_basketTakes_49 : decode cX5_basketTakes 49 = .ok (.iload_n 2, 1) := by decide +kernel
theorem dX5_basketTakes_50 : decode cX5_basketTakes 50 = .ok (.invokestatic 72, 3) := by decide +kernel
theorem dX5_basketTakes_53 : decode cX5_basketTakes 53 = .ok (.ifCond .eq 7, 3) := by decide +kernel
theorem dX5_basketTakes_56 : decode cX5_basketTakes 56 = .ok (.iconst 1, 1) := by decide +kernel
theorem dX5_basketTakes_57 : decode cX5_basketTakes 57 = .ok (.goto 4, 3) := by decide +kernel
theorem dX5_basketTakes_60 : decode cX5_basketTakes 60 = .ok (.iconst 0, 1) := by decide +kernel
theorem dX5_basketTakes_61 : decode cX5_basketTakes 61 = .ok (.ireturn, 1) := by decide +kernel
theorem dX5_keepBasketByte_0 : decode cX5_keepBasketByte 0 = .ok (.iload_n 1, 1) := by decide +kernel
theorem dX5_keepBasketByte_1 : decode cX5_keepBasketByte 1 = .ok (.ifCond .ne 13, 3) := by decide +kernel
theorem dX5_keepBasketByte_4 : decode cX5_keepBasketByte 4 = .ok (.aload_n 0, 1) := by decide +kernel
theorem dX5_keepBasketByte_5 : decode cX5_keepBasketByte 5 = .ok (.dup, 1) := by decide +kernel
theorem dX5_keepBasketByte_6 : decode cX5_keepBasketByte 6 = .ok (.getfield 28, 3) := by decide +kernel
theorem dX5_keepBasketByte_9 : decode cX5_keepBasketByte 9 = .ok (.iconst 1, 1) := by decide +kernel
theorem dX5_keepBasketByte_10 : decode cX5_keepBasketByte 10 = .ok (.iadd, 1) := by decide +kernel
theorem dX5_keepBasketByte_11 : decode cX5_keepBasketByte 11 = .ok (.putfield 28, 3) := by decide +kernel
theorem dX5_keepBasketByte_14 : decode cX5_keepBasketByte 14 = .ok (.aload_n 0, 1) := by decide +kernel
theorem dX5_keepBasketByte_15 : decode cX5_keepBasketByte 15 = .ok (.getfield 28, 3) := by decide +kernel
theorem dX5_keepBasketByte_18 : decode cX5_keepBasketByte 18 = .ok (.iconst 1, 1) := by decide +kernel
theorem dX5_keepBasketByte_19 : decode cX5_keepBasketByte 19 = .ok (.isub, 1) := by decide +kernel
theorem dX5_keepBasketByte_20 : decode cX5_keepBasketByte 20 = .ok (.istore_n 3, 1) := by decide +kernel
theorem dX5_keepBasketByte_21 : decode cX5_keepBasketByte 21 = .ok (.iload_n 3, 1) := by decide +kernel
theorem dX5_keepBasketByte_22 : decode cX5_keepBasketByte 22 = .ok (.ifCond .lt 9, 3) := by decide +kernel
theorem dX5_keepBasketByte_25 : decode cX5_keepBasketByte 25 = .ok (.iload_n 3, 1) := by decide +kernel
theorem dX5_keepBasketByte_26 : decode cX5_keepBasketByte 26 = .ok (.bipush 8, 2) := by decide +kernel
theorem dX5_keepBasketByte_28 : decode cX5_keepBasketByte 28 = .ok (.if_icmp .lt 4, 3) := by decide +kernel
theorem dX5_keepBasketByte_31 : decode cX5_keepBasketByte 31 = .ok (.return_, 1) := by decide +kernel
theorem dX5_keepBasketByte_32 : decode cX5_keepBasketByte 32 = .ok (.iload_n 1, 1) := by decide +kernel
theorem dX5_keepBasketByte_33 : decode cX5_keepBasketByte 33 = .ok (.tableswitch 95 0 3 #[31, 47, 63, 79], 31) := by decide +kernel
theorem dX5_keepBasketByte_64 : decode cX5_keepBasketByte 64 = .ok (.aload_n 0, 1) := by decide +kernel
theorem dX5_keepBasketByte_65 : decode cX5_keepBasketByte 65 = .ok (.getfield 34, 3) := by decide +kernel
theorem dX5_keepBasketByte_68 : decode cX5_keepBasketByte 68 = .ok (.iload_n 3, 1) := by decide +kernel
theorem dX5_keepBasketByte_69 : decode cX5_keepBasketByte 69 = .ok (.bipush 10, 2) := by decide +kernel
theorem dX5_keepBasketByte_71 : decode cX5_keepBasketByte 71 = .ok (.iload_n 2, 1) := by decide +kernel
theorem dX5_keepBasketByte_72 : decode cX5_keepBasketByte 72 = .ok (.bipush 48, 2) := by decide +kernel
theorem dX5_keepBasketByte_74 : decode cX5_keepBasketByte 74 = .ok (.isub, 1) := by decide +kernel
theorem dX5_keepBasketByte_75 : decode cX5_keepBasketByte 75 = .ok (.imul, 1) := by decide +kernel
theorem dX5_keepBasketByte_76 : decode cX5_keepBasketByte 76 = .ok (.iastore, 1) := by decide +kernel
theorem dX5_keepBasketByte_77 : decode cX5_keepBasketByte 77 = .ok (.goto 76, 3) := by decide +kernel
theorem dX5_keepBasketByte_80 : decode cX5_keepBasketByte 80 = .ok (.aload_n 0, 1) := by decide +kernel
theorem dX5_keepBasketByte_81 : decode cX5_keepBasketByte 81 = .ok (.getfield 34, 3) := by decide +kernel
theorem dX5_keepBasketByte_84 : decode cX5_keepBasketByte 84 = .ok (.iload_n 3, 1) := by decide +kernel
theorem dX5_keepBasketByte_85 : decode cX5_keepBasketByte 85 = .ok (.dup2, 1) := by decide +kernel
theorem dX5_keepBasketByte_86 : decode cX5_keepBasketByte 86 = .ok (.iaload, 1) := by decide +kernel
theorem dX5_keepBasketByte_87 : decode cX5_keepBasketByte 87 = .ok (.iload_n 2, 1) := by decide +kernel
theorem dX5_keepBasketByte_88 : decode cX5_keepBasketByte 88 = .ok (.bipush 48, 2) := by decide +kernel
theorem dX5_keepBasketByte_90 : decode cX5_keepBasketByte 90 = .ok (.isub, 1) := by decide +kernel
theorem dX5_keepBasketByte_91 : decode cX5_keepBasketByte 91 = .ok (.iadd, 1) := by decide +kernel
theorem dX5_keepBasketByte_92 : decode cX5_keepBasketByte 92 = .ok (.iastore, 1) := by decide +kernel
theorem dX5_keepBasketByte_93 : decode cX5_keepBasketByte 93 = .ok (.goto 60, 3) := by decide +kernel
theorem dX5_keepBasketByte_96 : decode cX5_keepBasketByte 96 = .ok (.aload_n 0, 1) := by decide +kernel
theorem dX5_keepBasketByte_97 : decode cX5_keepBasketByte 97 = .ok (.getfield 37, 3) := by decide +kernel
theorem dX5_keepBasketByte_100 : decode cX5_keepBasketByte 100 = .ok (.iload_n 3, 1) := by decide +kernel
theorem dX5_keepBasketByte_101 : decode cX5_keepBasketByte 101 = .ok (.bipush 10, 2) := by decide +kernel
theorem dX5_keepBasketByte_103 : decode cX5_keepBasketByte 103 = .ok (.iload_n 2, 1) := by decide +kernel
theorem dX5_keepBasketByte_104 : decode cX5_keepBasketByte 104 = .ok (.bipush 48, 2) := by decide +kernel
theorem dX5_keepBasketByte_106 : decode cX5_keepBasketByte 106 = .ok (.isub, 1) := by decide +kernel
theorem dX5_keepBasketByte_107 : decode cX5_keepBasketByte 107 = .ok (.imul, 1) := by decide +kernel
theorem dX5_keepBasketByte_108 : decode cX5_keepBasketByte 108 = .ok (.iastore, 1) := by decide +kernel
theorem dX5_keepBasketByte_109 : decode cX5_keepBasketByte 109 = .ok (.goto 44, 3) := by decide +kernel
theorem dX5_keepBasketByte_112 : decode cX5_keepBasketByte 112 = .ok (.aload_n 0, 1) := by decide +kernel
theorem dX5_keepBasketByte_113 : decode cX5_keepBasketByte 113 = .ok (.getfield 37, 3) := by decide +kernel
theorem dX5_keepBasketByte_116 : decode cX5_keepBasketByte 116 = .ok (.iload_n 3, 1) := by decide +kernel
theorem dX5_keepBasketByte_117 : decode cX5_keepBasketByte 117 = .ok (.dup2, 1) := by decide +kernel
theorem dX5_keepBasketByte_118 : decode cX5_keepBasketByte 118 = .ok (.iaload, 1) := by decide +kernel
theorem dX5_keepBasketByte_119 : decode cX5_keepBasketByte 119 = .ok (.iload_n 2, 1) := by decide +kernel
theorem dX5_keepBasketByte_120 : decode cX5_keepBasketByte 120 = .ok (.bipush 48, 2) := by decide +kernel
theorem dX5_keepBasketByte_122 : decode cX5_keepBasketByte 122 = .ok (.isub, 1) := by decide +kernel
theorem dX5_keepBasketByte_123 : decode cX5_keepBasketByte 123 = .ok (.iadd, 1) := by decide +kernel
theorem dX5_keepBasketByte_124 : decode cX5_keepBasketByte 124 = .ok (.iastore, 1) := by decide +kernel
theorem dX5_keepBasketByte_125 : decode cX5_keepBasketByte 125 = .ok (.goto 28, 3) := by decide +kernel
theorem dX5_keepBasketByte_128 : decode cX5_keepBasketByte 128 = .ok (.aload_n 0, 1) := by decide +kernel
theorem dX5_keepBasketByte_129 : decode cX5_keepBasketByte 129 = .ok (.getfield 40, 3) := by decide +kernel
theorem dX5_keepBasketByte_132 : decode cX5_keepBasketByte 132 = .ok (.iload_n 3, 1) := by decide +kernel
theorem dX5_keepBasketByte_133 : decode cX5_keepBasketByte 133 = .ok (.iload_n 1, 1) := by decide +kernel
theorem dX5_keepBasketByte_134 : decode cX5_keepBasketByte 134 = .ok (.iconst 3, 1) := by decide +kernel
theorem dX5_keepBasketByte_135 : decode cX5_keepBasketByte 135 = .ok (.isub, 1) := by decide +kernel
theorem dX5_keepBasketByte_136 : decode cX5_keepBasketByte 136 = .ok (.iastore, 1) := by decide +kernel
theorem dX5_keepBasketByte_137 : decode cX5_keepBasketByte 137 = .ok (.aload_n 0, 1) := by decide +kernel
theorem dX5_keepBasketByte_138 : decode cX5_keepBasketByte 138 = .ok (.getfield 43, 3) := by decide +kernel
theorem dX5_keepBasketByte_141 : decode cX5_keepBasketByte 141 = .ok (.iload_n 3, 1) := by decide +kernel
theorem dX5_keepBasketByte_142 : decode cX5_keepBasketByte 142 = .ok (.iconst 3, 1) := by decide +kernel
theorem dX5_keepBasketByte_143 : decode cX5_keepBasketByte 143 = .ok (.imul, 1) := by decide +kernel
theorem dX5_keepBasketByte_144 : decode cX5_keepBasketByte 144 = .ok (.iload_n 1, 1) := by decide +kernel
theorem dX5_keepBasketByte_145 : decode cX5_keepBasketByte 145 = .ok (.iadd, 1) := by decide +kernel
theorem dX5_keepBasketByte_146 : decode cX5_keepBasketByte 146 = .ok (.iconst 4, 1) := by decide +kernel
theorem dX5_keepBasketByte_147 : decode cX5_keepBasketByte 147 = .ok (.isub, 1) := by decide +kernel
theorem dX5_keepBasketByte_148 : decode cX5_keepBasketByte 148 = .ok (.iload_n 2, 1) := by decide +kernel
theorem dX5_keepBasketByte_149 : decode cX5_keepBasketByte 149 = .ok (.bipush 97, 2) := by decide +kernel
theorem dX5_keepBasketByte_151 : decode cX5_keepBasketByte 151 = .ok (.isub, 1) := by decide +kernel
theorem dX5_keepBasketByte_152 : decode cX5_keepBasketByte 152 = .ok (.iastore, 1) := by decide +kernel
theorem dX5_keepBasketByte_153 : decode cX5_keepBasketByte 153 = .ok (.return_, 1) := by decide +kernel
theorem dX5_toldLetter_0 : decode cX5_toldLetter 0 = .ok (.iload_n 2, 1) := by decide +kernel
theorem dX5_toldLetter_1 : decode cX5_toldLetter 1 = .ok (.ifCond .lt 26, 3) := by decide +kernel
theorem dX5_toldLetter_4 : decode cX5_toldLetter 4 = .ok (.iload_n 2, 1) := by decide +kernel
theorem dX5_toldLetter_5 : decode cX5_toldLetter 5 = .ok (.aload_n 0, 1) := by decide +kernel
theorem dX5_toldLetter_6 : decode cX5_toldLetter 6 = .ok (.getfield 40, 3) := by decide +kernel
theorem dX5_toldLetter_9 : decode cX5_toldLetter 9 = .ok (.iload_n 1, 1) := by decide +kernel
theorem dX5_toldLetter_10 : decode cX5_toldLetter 10 = .ok (.iaload, 1) := by decide +kernel
theorem dX5_toldLetter_11 : decode cX5_toldLetter 11 = .ok (.if_icmp .ge 16, 3) := by decide +kernel
theorem dX5_toldLetter_14 : decode cX5_toldLetter 14 = .ok (.aload_n 0, 1) := by decide +kernel
theorem dX5_toldLetter_15 : decode cX5_toldLetter 15 = .ok (.getfield 43, 3) := by decide +kernel
theorem dX5_toldLetter_18 : decode cX5_toldLetter 18 = .ok (.iload_n 1, 1) := by decide +kernel
theorem dX5_toldLetter_19 : decode cX5_toldLetter 19 = .ok (.iconst 3, 1) := by decide +kernel
theorem dX5_toldLetter_20 : decode cX5_toldLetter 20 = .ok (.imul, 1) := by decide +kernel
theorem dX5_toldLetter_21 : decode cX5_toldLetter 21 = .ok (.iload_n 2, 1) := by decide +kernel
theorem dX5_toldLetter_22 : decode cX5_toldLetter 22 = .ok (.iadd, 1) := by decide +kernel
theorem dX5_toldLetter_23 : decode cX5_toldLetter 23 = .ok (.iaload, 1) := by decide +kernel
theorem dX5_toldLetter_24 : decode cX5_toldLetter 24 = .ok (.goto 4, 3) := by decide +kernel
theorem dX5_toldLetter_27 : decode cX5_toldLetter 27 = .ok (.iconst (-1), 1) := by decide +kernel
theorem dX5_toldLetter_28 : decode cX5_toldLetter 28 = .ok (.ireturn, 1) := by decide +kernel
theorem dX5_loadInAll_0 : decode cX5_loadInAll 0 = .ok (.iconst 0, 1) := by decide +kernel
theorem dX5_loadInAll_1 : decode cX5_loadInAll 1 = .ok (.istore_n 1, 1) := by decide +kernel
theorem dX5_loadInAll_2 : decode cX5_loadInAll 2 = .ok (.iconst 0, 1) := by decide +kernel
theorem dX5_loadInAll_3 : decode cX5_loadInAll 3 = .ok (.istore_n 2, 1) := by decide +kernel
theorem dX5_loadInAll_4 : decode cX5_loadInAll 4 = .ok (.iload_n 2, 1) := by decide +kernel
theorem dX5_loadInAll_5 : decode cX5_loadInAll 5 = .ok (.aload_n 0, 1) := by decide +kernel
theorem dX5_loadInAll_6 : decode cX5_loadInAll 6 = .ok (.getfield 28, 3) := by decide +kernel
theorem dX5_loadInAll_9 : decode cX5_loadInAll 9 = .ok (.if_icmp .ge 18, 3) := by decide +kernel
theorem dX5_loadInAll_12 : decode cX5_loadInAll 12 = .ok (.iload_n 1, 1) := by decide +kernel
theorem dX5_loadInAll_13 : decode cX5_loadInAll 13 = .ok (.aload_n 0, 1) := by decide +kernel
theorem dX5_loadInAll_14 : decode cX5_loadInAll 14 = .ok (.getfield 37, 3) := by decide +kernel
theorem dX5_loadInAll_17 : decode cX5_loadInAll 17 = .ok (.iload_n 2, 1) := by decide +kernel
theorem dX5_loadInAll_18 : decode cX5_loadInAll 18 = .ok (.iaload, 1) := by decide +kernel
theorem dX5_loadInAll_19 : decode cX5_loadInAll 19 = .ok (.iadd, 1) := by decide +kernel
theorem dX5_loadInAll_20 : decode cX5_loadInAll 20 = .ok (.istore_n 1, 1) := by decide +kernel
theorem dX5_loadInAll_21 : decode cX5_loadInAll 21 = .ok (.iinc 2 1, 3) := by decide +kernel
theorem dX5_loadInAll_24 : decode cX5_loadInAll 24 = .ok (.goto (-20), 3) := by decide +kernel
theorem dX5_loadInAll_27 : decode cX5_loadInAll 27 = .ok (.iload_n 1, 1) := by decide +kernel
theorem dX5_loadInAll_28 : decode cX5_loadInAll 28 = .ok (.ireturn, 1) := by decide +kernel
theorem dX5_changeBite_0 : decode cX5_changeBite 0 = .ok (.iload_n 1, 1) := by decide +kernel
theorem dX5_changeBite_1 : decode cX5_changeBite 1 = .ok (.ifCond .lt 11, 3) := by decide +kernel
theorem dX5_changeBite_4 : decode cX5_changeBite 4 = .ok (.iload_n 1, 1) := by decide +kernel
theorem dX5_changeBite_5 : decode cX5_changeBite 5 = .ok (.aload_n 0, 1) := by decide +kernel
theorem dX5_changeBite_6 : decode cX5_changeBite 6 = .ok (.getfield 9, 3) := by decide +kernel
theorem dX5_changeBite_9 : decode cX5_changeBite 9 = .ok (.if_icmp .lt 5, 3) := by decide +kernel
theorem dX5_changeBite_12 : decode cX5_changeBite 12 = .ok (.iconst 0, 1) := by decide +kernel
theorem dX5_changeBite_13 : decode cX5_changeBite 13 = .ok (.ireturn, 1) := by decide +kernel
theorem dX5_changeBite_14 : decode cX5_changeBite 14 = .ok (.aload_n 0, 1) := by decide +kernel
theorem dX5_changeBite_15 : decode cX5_changeBite 15 = .ok (.getfield 22, 3) := by decide +kernel
theorem dX5_changeBite_18 : decode cX5_changeBite 18 = .ok (.iload_n 1, 1) := by decide +kernel
theorem dX5_changeBite_19 : decode cX5_changeBite 19 = .ok (.iaload, 1) := by decide +kernel
theorem dX5_changeBite_20 : decode cX5_changeBite 20 = .ok (.istore_n 3, 1) := by decide +kernel
theorem dX5_changeBite_21 : decode cX5_changeBite 21 = .ok (.aload_n 0, 1) := by decide +kernel
theorem dX5_changeBite_22 : decode cX5_changeBite 22 = .ok (.getfield 22, 3) := by decide +kernel
theorem dX5_changeBite_25 : decode cX5_changeBite 25 = .ok (.iload_n 1, 1) := by decide +kernel
theorem dX5_changeBite_26 : decode cX5_changeBite 26 = .ok (.iload_n 2, 1) := by decide +kernel
theorem dX5_changeBite_27 : decode cX5_changeBite 27 = .ok (.iastore, 1) := by decide +kernel
theorem dX5_changeBite_28 : decode cX5_changeBite 28 = .ok (.iload_n 3, 1) := by decide +kernel
theorem dX5_changeBite_29 : decode cX5_changeBite 29 = .ok (.ireturn, 1) := by decide +kernel
theorem dX5_sortOf_0 : decode cX5_sortOf 0 = .ok (.iload_n 0, 1) := by decide +kernel
theorem dX5_sortOf_1 : decode cX5_sortOf 1 = .ok (.lookupswitch 51 #[(99, 49), (108, 47), (109, 45), (112, 43)], 43) := by decide +kernel
theorem dX5_sortOf_44 : decode cX5_sortOf 44 = .ok (.iconst 0, 1) := by decide +kernel
theorem dX5_sortOf_45 : decode cX5_sortOf 45 = .ok (.ireturn, 1) := by decide +kernel
theorem dX5_sortOf_46 : decode cX5_sortOf 46 = .ok (.iconst 1, 1) := by decide +kernel
theorem dX5_sortOf_47 : decode cX5_sortOf 47 = .ok (.ireturn, 1) := by decide +kernel
theorem dX5_sortOf_48 : decode cX5_sortOf 48 = .ok (.iconst 2, 1) := by decide +kernel
theorem dX5_sortOf_49 : decode cX5_sortOf 49 = .ok (.ireturn, 1) := by decide +kernel
theorem dX5_sortOf_50 : decode cX5_sortOf 50 = .ok (.iconst 3, 1) := by decide +kernel
theorem dX5_sortOf_51 : decode cX5_sortOf 51 = .ok (.ireturn, 1) := by decide +kernel
theorem dX5_sortOf_52 : decode cX5_sortOf 52 = .ok (.iconst (-1), 1) := by decide +kernel
theorem dX5_sortOf_53 : decode cX5_sortOf 53 = .ok (.ireturn, 1) := by decide +kernel
theorem dX5_isFigure_0 : decode cX5_isFigure 0 = .ok (.iload_n 0, 1) := by decide +kernel
theorem dX5_isFigure_1 : decode cX5_isFigure 1 = .ok (.bipush 48, 2) := by decide +kernel
theorem dX5_isFigure_3 : decode cX5_isFigure 3 = .ok (.if_icmp .lt 13, 3) := by decide +kernel
theorem dX5_isFigure_6 : decode cX5_isFigure 6 = .ok (.iload_n 0, 1) := by decide +kernel
theorem dX5_isFigure_7 : decode cX5_isFigure 7 = .ok (.bipush 57, 2) := by decide +kernel
theorem dX5_isFigure_9 : decode cX5_isFigure 9 = .ok (.if_icmp .gt 7, 3) := by decide +kernel
theorem dX5_isFigure_12 : decode cX5_isFigure 12 = .ok (.iconst 1, 1) := by decide +kernel
theorem dX5_isFigure_13 : decode cX5_isFigure 13 = .ok (.goto 4, 3) := by decide +kernel
theorem dX5_isFigure_16 : decode cX5_isFigure 16 = .ok (.iconst 0, 1) := by decide +kernel
theorem dX5_isFigure_17 : decode cX5_isFigure 17 = .ok (.ireturn, 1) := by decide +kernel
theorem dX5_isLetter_0 : decode cX5_isLetter 0 = .ok (.iload_n 0, 1) := by decide +kernel
theorem dX5_isLetter_1 : decode cX5_isLetter 1 = .ok (.bipush 97, 2) := by decide +kernel
theorem dX5_isLetter_3 : decode cX5_isLetter 3 = .ok (.if_icmp .lt 13, 3) := by decide +kernel
theorem dX5_isLetter_6 : decode cX5_isLetter 6 = .ok (.iload_n 0, 1) := by decide +kernel
theorem dX5_isLetter_7 : decode cX5_isLetter 7 = .ok (.bipush 104, 2) := by decide +kernel
theorem dX5_isLetter_9 : decode cX5_isLetter 9 = .ok (.if_icmp .gt 7, 3) := by decide +kernel
theorem dX5_isLetter_12 : decode cX5_isLetter 12 = .ok (.iconst 1, 1) := by decide +kernel
theorem dX5_isLetter_13 : decode cX5_isLetter 13 = .ok (.goto 4, 3) := by decide +kernel
theorem dX5_isLetter_16 : decode cX5_isLetter 16 = .ok (.iconst 0, 1) := by decide +kernel
theorem dX5_isLetter_17 : decode cX5_isLetter 17 = .ok (.ireturn, 1) := by decide +kernel
theorem dX6_go_0 : decode cX6_go 0 = .ok (.aload_n 0, 1) := by decide +kernel
theorem dX6_go_1 : decode cX6_go 1 = .ok (.invokevirtual 69, 3) := by decide +kernel
theorem dX6_go_4 : decode cX6_go 4 = .ok (.iconst 0, 1) := by decide +kernel
theorem dX6_go_5 : decode cX6_go 5 = .ok (.istore 6, 2) := by decide +kernel
theorem dX6_go_7 : decode cX6_go 7 = .ok (.iload 6, 2) := by decide +kernel
theorem dX6_go_9 : decode cX6_go 9 = .ok (.bipush 40, 2) := by decide +kernel
theorem dX6_go_11 : decode cX6_go 11 = .ok (.if_icmp .ge 82, 3) := by decide +kernel
theorem dX6_go_14 : decode cX6_go 14 = .ok (.aload_n 0, 1) := by decide +kernel
theorem dX6_go_15 : decode cX6_go 15 = .ok (.getfield 52, 3) := by decide +kernel
theorem dX6_go_18 : decode cX6_go 18 = .ok (.ifCond .le 75, 3) := by decide +kernel
theorem dX6_go_21 : decode cX6_go 21 = .ok (.aload_n 0, 1) := by decide +kernel
theorem dX6_go_22 : decode cX6_go 22 = .ok (.lload_n 1, 1) := by decide +kernel
theorem dX6_go_23 : decode cX6_go 23 = .ok (.iload 6, 2) := by decide +kernel
theorem dX6_go_25 : decode cX6_go 25 = .ok (.lshr, 1) := by decide +kernel
theorem dX6_go_26 : decode cX6_go 26 = .ok (.lconst 1, 1) := by decide +kernel
theorem dX6_go_27 : decode cX6_go 27 = .ok (.land, 1) := by decide +kernel
theorem dX6_go_28 : decode cX6_go 28 = .ok (.lconst 1, 1) := by decide +kernel
theorem dX6_go_29 : decode cX6_go 29 = .ok (.lcmp, 1) := by decide +kernel
theorem dX6_go_30 : decode cX6_go 30 = .ok (.ifCond .ne 7, 3) := by decide +kernel
theorem dX6_go_33 : decode cX6_go 33 = .ok (.iconst 1, 1) := by decide +kernel
theorem dX6_go_34 : decode cX6_go 34 = .ok (.goto 4, 3) := by decide +kernel
theorem dX6_go_37 : decode cX6_go 37 = .ok (.iconst 0, 1) := by decide +kernel
theorem dX6_go_38 : decode cX6_go 38 = .ok (.putfield 9, 3) := by decide +kernel
theorem dX6_go_41 : decode cX6_go 41 = .ok (.aload_n 0, 1) := by decide +kernel
theorem dX6_go_42 : decode cX6_go 42 = .ok (.lload_n 3, 1) := by decide +kernel
theorem dX6_go_43 : decode cX6_go 43 = .ok (.iload 6, 2) := by decide +kernel
theorem dX6_go_45 : decode cX6_go 45 = .ok (.lshr, 1) := by decide +kernel
theorem dX6_go_46 : decode cX6_go 46 = .ok (.lconst 1, 1) := by decide +kernel
theorem dX6_go_47 : decode cX6_go 47 = .ok (.land, 1) := by decide +kernel
theorem dX6_go_48 : decode cX6_go 48 = .ok (.lconst 1, 1) := by decide +kernel
theorem dX6_go_49 : decode cX6_go 49 = .ok (.lcmp, 1) := by decide +kernel
theorem dX6_go_50 : decode cX6_go 50 = .ok (.ifCond .ne 7, 3) := by decide +kernel
theorem dX6_go_53 : decode cX6_go 53 = .ok (.iconst 1, 1) := by decide +kernel
theorem dX6_go_54 : decode cX6_go 54 = .ok (.goto 4, 3) := by decide +kernel
theorem dX6_go_57 : decode cX6_go 57 = .ok (.iconst 0, 1) := by decide +kernel
theorem dX6_go_58 : decode cX6_go 58 = .ok (.putfield 15, 3) := by decide +kernel
theorem dX6_go_61 : decode cX6_go 61 = .ok (.aload_n 0, 1) := by decide +kernel
theorem dX6_go_62 : decode cX6_go 62 = .ok (.iload 6, 2) := by decide +kernel
theorem dX6_go_64 : decode cX6_go 64 = .ok (.invokevirtual 72, 3) := by decide +kernel
theorem dX6_go_67 : decode cX6_go 67 = .ok (.aload_n 0, 1) := by decide +kernel
theorem dX6_go_68 : decode cX6_go 68 = .ok (.iload 6, 2) := by decide +kernel
theorem dX6_go_70 : decode cX6_go 70 = .ok (.invokevirtual 76, 3) := by decide +kernel
theorem dX6_go_73 : decode cX6_go 73 = .ok (.iload 6, 2) := by decide +kernel
theorem dX6_go_75 : decode cX6_go 75 = .ok (.iload 5, 2) := by decide +kernel
theorem dX6_go_77 : decode cX6_go 77 = .ok (.if_icmp .ne 4, 3) := by decide +kernel
theorem dX6_go_80 : decode cX6_go 80 = .ok (.return_, 1) := by decide +kernel
theorem dX6_go_81 : decode cX6_go 81 = .ok (.aload_n 0, 1) := by decide +kernel
theorem dX6_go_82 : decode cX6_go 82 = .ok (.iload 6, 2) := by decide +kernel
theorem dX6_go_84 : decode cX6_go 84 = .ok (.invokevirtual 79, 3) := by decide +kernel
theorem dX6_go_87 : decode cX6_go 87 = .ok (.iinc 6 1, 3) := by decide +kernel
theorem dX6_go_90 : decode cX6_go 90 = .ok (.goto (-83), 3) := by decide +kernel
theorem dX6_go_93 : decode cX6_go 93 = .ok (.return_, 1) := by decide +kernel
theorem dX6_begin_0 : decode cX6_begin 0 = .ok (.iconst 0, 1) := by decide +kernel
theorem dX6_begin_1 : decode cX6_begin 1 = .ok (.istore_n 1, 1) := by decide +kernel
theorem dX6_begin_2 : decode cX6_begin 2 = .ok (.iload_n 1, 1) := by decide +kernel
theorem dX6_begin_3 : decode cX6_begin 3 = .ok (.aload_n 0, 1) := by decide +kernel
theorem dX6_begin_4 : decode cX6_begin 4 = .ok (.getfield 65, 3) := by decide +kernel
theorem dX6_begin_7 : decode cX6_begin 7 = .ok (.getfield 82, 3) := by decide +kernel
theorem dX6_begin_10 : decode cX6_begin 10 = .ok (.if_icmp .ge 96, 3) := by decide +kernel
theorem dX6_begin_13 : decode cX6_begin 13 = .ok (.aload_n 0, 1) := by decide +kernel
theorem dX6_begin_14 : decode cX6_begin 14 = .ok (.getfield 18, 3) := by decide +kernel
theorem dX6_begin_17 : decode cX6_begin 17 = .ok (.iload_n 1, 1) := by decide +kernel
theorem dX6_begin_18 : decode cX6_begin 18 = .ok (.iconst (-1), 1) := by decide +kernel
theorem dX6_begin_19 : decode cX6_begin 19 = .ok (.iastore, 1) := by decide +kernel
theorem dX6_begin_20 : decode cX6_begin 20 = .ok (.aload_n 0, 1) := by decide +kernel
theorem dX6_begin_21 : decode cX6_begin 21 = .ok (.getfield 22, 3) := by decide +kernel
theorem dX6_begin_24 : decode cX6_begin 24 = .ok (.iload_n 1, 1) := by decide +kernel
theorem dX6_begin_25 : decode cX6_begin 25 = .ok (.aload_n 0, 1) := by decide +kernel
theorem dX6_begin_26 : decode cX6_begin 26 = .ok (.getfield 65, 3) := by decide +kernel
theorem dX6_begin_29 : decode cX6_begin 29 = .ok (.getfield 87, 3) := by decide +kernel
theorem dX6_begin_32 : decode cX6_begin 32 = .ok (.iload_n 1, 1) := by decide +kernel
theorem dX6_begin_33 : decode cX6_begin 33 = .ok (.iaload, 1) := by decide +kernel
theorem dX6_begin_34 : decode cX6_begin 34 = .ok (.iastore, 1) := by decide +kernel
theorem dX6_begin_35 : decode cX6_begin 35 = .ok (.aload_n 0, 1) := by decide +kernel
theorem dX6_begin_36 : decode cX6_begin 36 = .ok (.getfield 25, 3) := by decide +kernel
theorem dX6_begin_39 : decode cX6_begin 39 = .ok (.iload_n 1, 1) := by decide +kernel
theorem dX6_begin_40 : decode cX6_begin 40 = .ok (.iconst 0, 1) := by decide +kernel
theorem dX6_begin_41 : decode cX6_begin 41 = .ok (.iastore, 1) := by decide +kernel
theorem dX6_begin_42 : decode cX6_begin 42 = .ok (.aload_n 0, 1) := by decide +kernel
theorem dX6_begin_43 : decode cX6_begin 43 = .ok (.getfield 28, 3) := by decide +kernel
theorem dX6_begin_46 : decode cX6_begin 46 = .ok (.iload_n 1, 1) := by decide +kernel
theorem dX6_begin_47 : decode cX6_begin 47 = .ok (.iconst (-1), 1) := by decide +kernel
theorem dX6_begin_48 : decode cX6_begin 48 = .ok (.iastore, 1) := by decide +kernel
theorem dX6_begin_49 : decode cX6_begin 49 = .ok (.aload_n 0, 1) := by decide +kernel
theorem dX6_begin_50 : decode cX6_begin 50 = .ok (.getfield 31, 3) := by decide +kernel
theorem dX6_begin_53 : decode cX6_begin 53 = .ok (.iload_n 1, 1) := by decide +kernel
theorem dX6_begin_54 : decode cX6_begin 54 = .ok (.iconst 0, 1) := by decide +kernel
theorem dX6_begin_55 : decode cX6_begin 55 = .ok (.iastore, 1) := by decide +kernel
theorem dX6_begin_56 : decode cX6_begin 56 = .ok (.aload_n 0, 1) := by decide +kernel
theorem dX6_begin_57 : decode cX6_begin 57 = .ok (.getfield 37, 3) := by decide +kernel
theorem dX6_begin_60 : decode cX6_begin 60 = .ok (.iload_n 1, 1) := by decide +kernel
theorem dX6_begin_61 : decode cX6_begin 61 = .ok (.iconst 0, 1) := by decide +kernel
theorem dX6_begin_62 : decode cX6_begin 62 = .ok (.iastore, 1) := by decide +kernel
theorem dX6_begin_63 : decode cX6_begin 63 = .ok (.aload_n 0, 1) := by decide +kernel
theorem dX6_begin_64 : decode cX6_begin 64 = .ok (.getfield 40, 3) := by decide +kernel
theorem dX6_begin_67 : decode cX6_begin 67 = .ok (.iload_n 1, 1) := by decide +kernel
theorem dX6_begin_68 : decode cX6_begin 68 = .ok (.aload_n 0, 1) := by decide +kernel
theorem dX6_begin_69 : decode cX6_begin 69 = .ok (.getfield 65, 3) := by decide +kernel
theorem dX6_begin_72 : decode cX6_begin 72 = .ok (.getfield 88, 3) := by decide +kernel
theorem dX6_begin_75 : decode cX6_begin 75 = .ok (.iload_n 1, 1) := by decide +kernel
theorem dX6_begin_76 : decode cX6_begin 76 = .ok (.iaload, 1) := by decide +kernel
theorem dX6_begin_77 : decode cX6_begin 77 = .ok (.iastore, 1) := by decide +kernel
theorem dX6_begin_78 : decode cX6_begin 78 = .ok (.aload_n 0, 1) := by decide +kernel
theorem dX6_begin_79 : decode cX6_begin 79 = .ok (.getfield 65, 3) := by decide +kernel
theorem dX6_begin_82 : decode cX6_begin 82 = .ok (.getfield 91, 3) := by decide +kernel
theorem dX6_begin_85 : decode cX6_begin 85 = .ok (.iload_n 1, 1) := by decide +kernel
theorem dX6_begin_86 : decode cX6_begin 86 = .ok (.iconst 3, 1) := by decide +kernel
theorem dX6_begin_87 : decode cX6_begin 87 = .ok (.imul, 1) := by decide +kernel
theorem dX6_begin_88 : decode cX6_begin 88 = .ok (.aload_n 0, 1) := by decide +kernel
theorem dX6_begin_89 : decode cX6_begin 89 = .ok (.getfield 34, 3) := by decide +kernel
theorem dX6_begin_92 : decode cX6_begin 92 = .ok (.iload_n 1, 1) := by decide +kernel
theorem dX6_begin_93 : decode cX6_begin 93 = .ok (.bipush 21, 2) := by decide +kernel
theorem dX6_begin_95 : decode cX6_begin 95 = .ok (.imul, 1) := by decide +kernel
theorem dX6_begin_96 : decode cX6_begin 96 = .ok (.iconst 3, 1) := by decide +kernel
theorem dX6_begin_97 : decode cX6_begin 97 = .ok (.invokestatic 94, 3) := by decide +kernel
theorem dX6_begin_100 : decode cX6_begin 100 = .ok (.iinc 1 1, 3) := by decide +kernel
theorem dX6_begin_103 : decode cX6_begin 103 = .ok (.goto (-101), 3) := by decide +kernel
theorem dX6_begin_106 : decode cX6_begin 106 = .ok (.aload_n 0, 1) := by decide +kernel
theorem dX6_begin_107 : decode cX6_begin 107 = .ok (.aload_n 0, 1) := by decide +kernel
theorem dX6_begin_108 : decode cX6_begin 108 = .ok (.getfield 65, 3) := by decide +kernel
theorem dX6_begin_111 : decode cX6_begin 111 = .ok (.getfield 82, 3) := by decide +kernel
theorem dX6_begin_114 : decode cX6_begin 114 = .ok (.putfield 52, 3) := by decide +kernel
theorem dX6_begin_117 : decode cX6_begin 117 = .ok (.iconst 0, 1) := by decide +kernel
theorem dX6_begin_118 : decode cX6_begin 118 = .ok (.istore_n 1, 1) := by decide +kernel
theorem dX6_begin_119 : decode cX6_begin 119 = .ok (.iload_n 1, 1) := by decide +kernel
theorem dX6_begin_120 : decode cX6_begin 120 = .ok (.aload_n 0, 1) := by decide +kernel
theorem dX6_begin_121 : decode cX6_begin 121 = .ok (.getfield 65, 3) := by decide +kernel
theorem dX6_begin_124 : decode cX6_begin 124 = .ok (.getfield 100, 3) := by decide +kernel
theorem dX6_begin_127 : decode cX6_begin 127 = .ok (.if_icmp .ge 30, 3) := by decide +kernel
theorem dX6_begin_130 : decode cX6_begin 130 = .ok (.aload_n 0, 1) := by decide +kernel
theorem dX6_begin_131 : decode cX6_begin 131 = .ok (.getfield 43, 3) := by decide +kernel
theorem dX6_begin_134 : decode cX6_begin 134 = .ok (.iload_n 1, 1) := by decide +kernel
theorem dX6_begin_135 : decode cX6_begin 135 = .ok (.iconst (-1), 1) := by decide +kernel
theorem dX6_begin_136 : decode cX6_begin 136 = .ok (.iastore, 1) := by decide +kernel
theorem dX6_begin_137 : decode cX6_begin 137 = .ok (.aload_n 0, 1) := by decide +kernel
theorem dX6_begin_138 : decode cX6_begin 138 = .ok (.getfield 46, 3) := by decide +kernel
theorem dX6_begin_141 : decode cX6_begin 141 = .ok (.iload_n 1, 1) := by decide +kernel
theorem dX6_begin_142 : decode cX6_begin 142 = .ok (.iconst 0, 1) := by decide +kernel
theorem dX6_begin_143 : decode cX6_begin 143 = .ok (.iastore, 1) := by decide +kernel
theorem dX6_begin_144 : decode cX6_begin 144 = .ok (.aload_n 0, 1) := by decide +kernel
theorem dX6_begin_145 : decode cX6_begin 145 = .ok (.getfield 49, 3) := by decide +kernel
theorem dX6_begin_148 : decode cX6_begin 148 = .ok (.iload_n 1, 1) := by decide +kernel
theorem dX6_begin_149 : decode cX6_begin 149 = .ok (.iconst 0, 1) := by decide +kernel
theorem dX6_begin_150 : decode cX6_begin 150 = .ok (.iastore, 1) := by decide +kernel
theorem dX6_begin_151 : decode cX6_begin 151 = .ok (.iinc 1 1, 3) := by decide +kernel
theorem dX6_begin_154 : decode cX6_begin 154 = .ok (.goto (-35), 3) := by decide +kernel
theorem dX6_begin_157 : decode cX6_begin 157 = .ok (.aload_n 0, 1) := by decide +kernel
theorem dX6_begin_158 : decode cX6_begin 158 = .ok (.iconst 0, 1) := by decide +kernel
theorem dX6_begin_159 : decode cX6_begin 159 = .ok (.putfield 56, 3) := by decide +kernel
theorem dX6_begin_162 : decode cX6_begin 162 = .ok (.aload_n 0, 1) := by decide +kernel
theorem dX6_begin_163 : decode cX6_begin 163 = .ok (.iconst (-1), 1) := by decide +kernel
theorem dX6_begin_164 : decode cX6_begin 164 = .ok (.putfield 59, 3) := by decide +kernel
theorem dX6_begin_167 : decode cX6_begin 167 = .ok (.aload_n 0, 1) := by decide +kernel
theorem dX6_begin_168 : decode cX6_begin 168 = .ok (.iconst (-1), 1) := by decide +kernel
theorem dX6_begin_169 : decode cX6_begin 169 = .ok (.putfield 62, 3) := by decide +kernel
theorem dX6_begin_172 : decode cX6_begin 172 = .ok (.return_, 1) := by decide +kernel
theorem dX6_arrive_0 : decode cX6_arrive 0 = .ok (.iconst 0, 1) := by decide +kernel
theorem dX6_arrive_1 : decode cX6_arrive 1 = .ok (.istore_n 2, 1) := by decide +kernel
theorem dX6_arrive_2 : decode cX6_arrive 2 = .ok (.iload_n 2, 1) := by decide +kernel
theorem dX6_arrive_3 : decode cX6_arrive 3 = .ok (.aload_n 0, 1) := by decide +kernel
theorem dX6_arrive_4 : decode cX6_arrive 4 = .ok (.getfield 65, 3) := by decide +kernel
theorem dX6_arrive_7 : decode cX6_arrive 7 = .ok (.getfield 82, 3) := by decide +kernel
theorem dX6_arrive_10 : decode cX6_arrive 10 = .ok (.if_icmp .ge 56, 3) := by decide +kernel
theorem dX6_arrive_13 : decode cX6_arrive 13 = .ok (.aload_n 0, 1) := by decide +kernel
theorem dX6_arrive_14 : decode cX6_arrive 14 = .ok (.getfield 65, 3) := by decide +kernel
theorem dX6_arrive_17 : decode cX6_arrive 17 = .ok (.getfield 103, 3) := by decide +kernel
theorem dX6_arrive_20 : decode cX6_arrive 20 = .ok (.iload_n 2, 1) := by decide +kernel
theorem dX6_arrive_21 : decode cX6_arrive 21 = .ok (.iaload, 1) := by decide +kernel
theorem dX6_arrive_22 : decode cX6_arrive 22 = .ok (.iload_n 1, 1) := by decide +kernel
theorem dX6_arrive_23 : decode cX6_arrive 23 = .ok (.if_icmp .ne 37, 3) := by decide +kernel
theorem dX6_arrive_26 : decode cX6_arrive 26 = .ok (.aload_n 0, 1) := by decide +kernel
theorem dX6_arrive_27 : decode cX6_arrive 27 = .ok (.getfield 18, 3) := by decide +kernel
theorem dX6_arrive_30 : decode cX6_arrive 30 = .ok (.iload_n 2, 1) := by decide +kernel
theorem dX6_arrive_31 : decode cX6_arrive 31 = .ok (.iconst 0, 1) := by decide +kernel
theorem dX6_arrive_32 : decode cX6_arrive 32 = .ok (.iastore, 1) := by decide +kernel
theorem dX6_arrive_33 : decode cX6_arrive 33 = .ok (.aload_n 0, 1) := by decide +kernel
theorem dX6_arrive_34 : decode cX6_arrive 34 = .ok (.getfield 65, 3) := by decide +kernel
theorem dX6_arrive_37 : decode cX6_arrive 37 = .ok (.getfield 100, 3) := by decide +kernel
theorem dX6_arrive_40 : decode cX6_arrive 40 = .ok (.ifCond .ne 20, 3) := by decide +kernel
theorem dX6_arrive_43 : decode cX6_arrive 43 = .ok (.aload_n 0, 1) := by decide +kernel
theorem dX6_arrive_44 : decode cX6_arrive 44 = .ok (.getfield 28, 3) := by decide +kernel
theorem dX6_arrive_47 : decode cX6_arrive 47 = .ok (.iload_n 2, 1) := by decide +kernel
theorem dX6_arrive_48 : decode cX6_arrive 48 = .ok (.iload_n 1, 1) := by decide +kernel
theorem dX6_arrive_49 : decode cX6_arrive 49 = .ok (.iastore, 1) := by decide +kernel
theorem dX6_arrive_50 : decode cX6_arrive 50 = .ok (.aload_n 0, 1) := by decide +kernel
theorem dX6_arrive_51 : decode cX6_arrive 51 = .ok (.dup, 1) := by decide +kernel
theorem dX6_arrive_52 : decode cX6_arrive 52 = .ok (.getfield 52, 3) := by decide +kernel
theorem dX6_arrive_55 : decode cX6_arrive 55 = .ok (.iconst 1, 1) := by decide +kernel
theorem dX6_arrive_56 : decode cX6_arrive 56 = .ok (.isub, 1) := by decide +kernel
theorem dX6_arrive_57 : decode cX6_arrive 57 = .ok (.putfield 52, 3) := by decide +kernel
theorem dX6_arrive_60 : decode cX6_arrive 60 = .ok (.iinc 2 1, 3) := by decide +kernel
theorem dX6_arrive_63 : decode cX6_arrive 63 = .ok (.goto (-61), 3) := by decide +kernel
theorem dX6_arrive_66 : decode cX6_arrive 66 = .ok (.return_, 1) := by decide +kernel
theorem dX6_serve_0 : decode cX6_serve 0 = .ok (.iconst 0, 1) := by decide +kernel
theorem dX6_serve_1 : decode cX6_serve 1 = .ok (.istore_n 2, 1) := by decide +kernel
theorem dX6_serve_2 : decode cX6_serve 2 = .ok (.iconst 0, 1) := by decide +kernel
theorem dX6_serve_3 : decode cX6_serve 3 = .ok (.istore_n 3, 1) := by decide +kernel
theorem dX6_serve_4 : decode cX6_serve 4 = .ok (.iload_n 3, 1) := by decide +kernel
theorem dX6_serve_5 : decode cX6_serve 5 = .ok (.aload_n 0, 1) := by decide +kernel
theorem dX6_serve_6 : decode cX6_serve 6 = .ok (.getfield 65, 3) := by decide +kernel
theorem dX6_serve_9 : decode cX6_serve 9 = .ok (.getfield 82, 3) := by decide +kernel
theorem dX6_serve_12 : decode cX6_serve 12 = .ok (.if_icmp .ge 127, 3) := by decide +kernel
theorem dX6_serve_15 : decode cX6_serve 15 = .ok (.aload_n 0, 1) := by decide +kernel
theorem dX6_serve_16 : decode cX6_serve 16 = .ok (.getfield 18, 3) := by decide +kernel
theorem dX6_serve_19 : decode cX6_serve 19 = .ok (.iload_n 3, 1) := by decide +kernel
theorem dX6_serve_20 : decode cX6_serve 20 = .ok (.iaload, 1) := by decide +kernel
theorem dX6_serve_21 : decode cX6_serve 21 = .ok (.istore 4, 2) := by decide +kernel
theorem dX6_serve_23 : decode cX6_serve 23 = .ok (.iload 4, 2) := by decide +kernel
theorem dX6_serve_25 : decode cX6_serve 25 = .ok (.ifCond .lt 108, 3) := by decide +kernel
theorem dX6_serve_28 : decode cX6_serve 28 = .ok (.iload 4, 2) := by decide +kernel
theorem dX6_serve_30 : decode cX6_serve 30 = .ok (.aload_n 0, 1) := by decide +kernel
theorem dX6_serve_31 : decode cX6_serve 31 = .ok (.getfield 65, 3) := by decide +kernel
theorem dX6_serve_34 : decode cX6_serve 34 = .ok (.getfield 100, 3) := by decide +kernel
theorem dX6_serve_37 : decode cX6_serve 37 = .ok (.if_icmp .lt 6, 3) := by decide +kernel
theorem dX6_serve_40 : decode cX6_serve 40 = .ok (.goto 93, 3) := by decide +kernel
theorem dX6_serve_43 : decode cX6_serve 43 = .ok (.aload_n 0, 1) := by decide +kernel
theorem dX6_serve_44 : decode cX6_serve 44 = .ok (.getfield 25, 3) := by decide +kernel
theorem dX6_serve_47 : decode cX6_serve 47 = .ok (.iload_n 3, 1) := by decide +kernel
theorem dX6_serve_48 : decode cX6_serve 48 = .ok (.iload_n 2, 1) := by decide +kernel
theorem dX6_serve_49 : decode cX6_serve 49 = .ok (.iload 4, 2) := by decide +kernel
theorem dX6_serve_51 : decode cX6_serve 51 = .ok (.ishr, 1) := by decide +kernel
theorem dX6_serve_52 : decode cX6_serve 52 = .ok (.iconst 1, 1) := by decide +kernel
theorem dX6_serve_53 : decode cX6_serve 53 = .ok (.iand, 1) := by decide +kernel
theorem dX6_serve_54 : decode cX6_serve 54 = .ok (.iastore, 1) := by decide +kernel
theorem dX6_serve_55 : decode cX6_serve 55 = .ok (.iload_n 2, 1) := by decide +kernel
theorem dX6_serve_56 : decode cX6_serve 56 = .ok (.iconst 1, 1) := by decide +kernel
theorem dX6_serve_57 : decode cX6_serve 57 = .ok (.iload 4, 2) := by decide +kernel
theorem dX6_serve_59 : decode cX6_serve 59 = .ok (.ishl, 1) := by decide +kernel
theorem dX6_serve_60 : decode cX6_serve 60 = .ok (.ior, 1) := by decide +kernel
theorem dX6_serve_61 : decode cX6_serve 61 = .ok (.istore_n 2, 1) := by decide +kernel
theorem dX6_serve_62 : decode cX6_serve 62 = .ok (.aload_n 0, 1) := by decide +kernel
theorem dX6_serve_63 : decode cX6_serve 63 = .ok (.getfield 25, 3) := by decide +kernel
theorem dX6_serve_66 : decode cX6_serve 66 = .ok (.iload_n 3, 1) := by decide +kernel
theorem dX6_serve_67 : decode cX6_serve 67 = .ok (.iaload, 1) := by decide +kernel
theorem dX6_serve_68 : decode cX6_serve 68 = .ok (.iconst 1, 1) := by decide +kernel
theorem dX6_serve_69 : decode cX6_serve 69 = .ok (.if_icmp .ne 6, 3) := by decide +kernel
theorem dX6_serve_72 : decode cX6_serve 72 = .ok (.goto 61, 3) := by decide +kernel
theorem dX6_serve_75 : decode cX6_serve 75 = .ok (.aload_n 0, 1) := by decide +kernel
theorem dX6_serve_76 : decode cX6_serve 76 = .ok (.getfield 65, 3) := by decide +kernel
theorem dX6_serve_79 : decode cX6_serve 79 = .ok (.getfield 106, 3) := by decide +kernel
theorem dX6_serve_82 : decode cX6_serve 82 = .ok (.iload 4, 2) := by decide +kernel
theorem dX6_serve_84 : decode cX6_serve 84 = .ok (.iaload, 1) := by decide +kernel
theorem dX6_serve_85 : decode cX6_serve 85 = .ok (.iconst 3, 1) := by decide +kernel
theorem dX6_serve_86 : decode cX6_serve 86 = .ok (.if_icmp .ne 20, 3) := by decide +kernel
theorem dX6_serve_89 : decode cX6_serve 89 = .ok (.aload_n 0, 1) := by decide +kernel
theorem dX6_serve_90 : decode cX6_serve 90 = .ok (.getfield 9, 3) := by decide +kernel
theorem dX6_serve_93 : decode cX6_serve 93 = .ok (.ifCond .eq 13, 3) := by decide +kernel
theorem dX6_serve_96 : decode cX6_serve 96 = .ok (.aload_n 0, 1) := by decide +kernel
theorem dX6_serve_97 : decode cX6_serve 97 = .ok (.getfield 22, 3) := by decide +kernel
theorem dX6_serve_100 : decode cX6_serve 100 = .ok (.iload_n 3, 1) := by decide +kernel
theorem dX6_serve_101 : decode cX6_serve 101 = .ok (.dup2, 1) := by decide +kernel
theorem dX6_serve_102 : decode cX6_serve 102 = .ok (.iaload, 1) := by decide +kernel
theorem dX6_serve_103 : decode cX6_serve 103 = .ok (.iconst 2, 1) := by decide +kernel
theorem dX6_serve_104 : decode cX6_serve 104 = .ok (.idiv, 1) := by decide +kernel
theorem dX6_serve_105 : decode cX6_serve 105 = .ok (.iastore, 1) := by decide +kernel
theorem dX6_serve_106 : decode cX6_serve 106 = .ok (.aload_n 0, 1) := by decide +kernel
theorem dX6_serve_107 : decode cX6_serve 107 = .ok (.getfield 22, 3) := by decide +kernel
theorem dX6_serve_110 : decode cX6_serve 110 = .ok (.iload_n 3, 1) := by decide +kernel
theorem dX6_serve_111 : decode cX6_serve 111 = .ok (.iaload, 1) := by decide +kernel
theorem dX6_serve_112 : decode cX6_serve 112 = .ok (.ifCond .le 21, 3) := by decide +kernel
theorem dX6_serve_115 : decode cX6_serve 115 = .ok (.aload_n 0, 1) := by decide +kernel
theorem dX6_serve_116 : decode cX6_serve 116 = .ok (.iload 4, 2) := by decide +kernel
theorem dX6_serve_118 : decode cX6_serve 118 = .ok (.iload_n 1, 1) := by decide +kernel
theorem dX6_serve_119 : decode cX6_serve 119 = .ok (.invokevirtual 109, 3) := by decide +kernel
theorem dX6_serve_122 : decode cX6_serve 122 = .ok (.ifCond .eq 11, 3) := by decide +kernel
theorem dX6_serve_125 : decode cX6_serve 125 = .ok (.aload_n 0, 1) := by decide +kernel
theorem dX6_serve_126 : decode cX6_serve 126 = .ok (.iload_n 3, 1) := by decide +kernel
theorem dX6_serve_127 : decode cX6_serve 127 = .ok (.iload 4, 2) := by decide +kernel
theorem dX6_serve_129 : decode cX6_serve 129 = .ok (.iload_n 1, 1) := by decide +kernel
theorem dX6_serve_130 : decode cX6_serve 130 = .ok (.invokevirtual 113, 3) := by decide +kernel
theorem dX6_serve_133 : decode cX6_serve 133 = .ok (.iinc 3 1, 3) := by decide +kernel
theorem dX6_serve_136 : decode cX6_serve 136 = .ok (.goto (-132), 3) := by decide +kernel
theorem dX6_serve_139 : decode cX6_serve 139 = .ok (.return_, 1) := by decide +kernel
theorem dX6_wantsBite_0 : decode cX6_wantsBite 0 = .ok (.aload_n 0, 1) := by decide +kernel
theorem dX6_wantsBite_1 : decode cX6_wantsBite 1 = .ok (.getfield 43, 3) := by decide +kernel
theorem dX6_wantsBite_4 : decode cX6_wantsBite 4 = .ok (.iload_n 1, 1) := by decide +kernel
theorem dX6_wantsBite_5 : decode cX6_wantsBite 5 = .ok (.iaload, 1) := by decide +kernel
theorem dX6_wantsBite_6 : decode cX6_wantsBite 6 = .ok (.iconst (-1), 1) := by decide +kernel
theorem dX6_wantsBite_7 : decode cX6_wantsBite 7 = .ok (.if_icmp .eq 21, 3) := by decide +kernel
theorem dX6_wantsBite_10 : decode cX6_wantsBite 10 = .ok (.iload_n 2, 1) := by decide +kernel
theorem dX6_wantsBite_11 : decode cX6_wantsBite 11 = .ok (.aload_n 0, 1) := by decide +kernel
theorem dX6_wantsBite_12 : decode cX6_wantsBite 12 = .ok (.getfield 43, 3) := by decide +kernel
theorem dX6_wantsBite_15 : decode cX6_wantsBite 15 = .ok (.iload_n 1, 1) := by decide +kernel
theorem dX6_wantsBite_16 : decode cX6_wantsBite 16 = .ok (.iaload, 1) := by decide +kernel
theorem dX6_wantsBite_17 : decode cX6_wantsBite 17 = .ok (.isub, 1) := by decide +kernel
theorem dX6_wantsBite_18 : decode cX6_wantsBite 18 = .ok (.aload_n 0, 1) := by decide +kernel
theorem dX6_wantsBite_19 : decode cX6_wantsBite 19 = .ok (.getfield 65, 3) := by decide +kernel
theorem dX6_wantsBite_22 : decode cX6_wantsBite 22 = .ok (.getfield 117, 3) := by decide +kernel
theorem dX6_wantsBite_25 : decode cX6_wantsBite 25 = .ok (.if_icmp .le 7, 3) := by decide +kernel
theorem dX6_wantsBite_28 : decode cX6_wantsBite 28 = .ok (.iconst 1, 1) := by decide +kernel
theorem dX6_wantsBite_29 : decode cX6_wantsBite 29 = .ok (.goto 4, 3) := by decide +kernel
theorem dX6_wantsBite_32 : decode cX6_wantsBite 32 = .ok (.iconst 0, 1) := by decide +kernel
theorem dX6_wantsBite_33 : decode cX6_wantsBite 33 = .ok (.istore_n 3, 1) := by decide +kernel
theorem dX6_wantsBite_34 : decode cX6_wantsBite 34 = .ok (.iload_n 3, 1) := by decide +kernel
theorem dX6_wantsBite_35 : decode cX6_wantsBite 35 = .ok (.ifCond .eq 26, 3) := by decide +kernel
theorem dX6_wantsBite_38 : decode cX6_wantsBite 38 = .ok (.aload_n 0, 1) := by decide +kernel
theorem dX6_wantsBite_39 : decode cX6_wantsBite 39 = .ok (.getfield 65, 3) := by decide +kernel
theorem dX6_wantsBite_42 : decode cX6_wantsBite 42 = .ok (.getfield 120, 3) := by decide +kernel
theorem dX6_wantsBite_45 : decode cX6_wantsBite 45 = .ok (.iload_n 1, 1) := by decide +kernel
theorem dX6_wantsBite_46 : decode cX6_wantsBite 46 = .ok (.iaload, 1) := by decide +kernel
theorem dX6_wantsBite_47 : decode cX6_wantsBite 47 = .ok (.ifCond .le 14, 3) := by decide +kernel
theorem dX6_wantsBite_50 : decode cX6_wantsBite 50 = .ok (.aload_n 0, 1) := by decide +kernel
theorem dX6_wantsBite_51 : decode cX6_wantsBite 51 = .ok (.getfield 15, 3) := by decide +kernel
theorem dX6_wantsBite_54 : decode cX6_wantsBite 54 = .ok (.ifCond .ne 7, 3) := by decide +kernel
theorem dX6_wantsBite_57 : decode cX6_wantsBite 57 = .ok (.iconst 1, 1) := by decide +kernel
theorem dX6_wantsBite_58 : decode cX6_wantsBite 58 = .ok (.goto 4, 3) := by decide +kernel
theorem dX6_wantsBite_61 : decode cX6_wantsBite 61 = .ok (.iconst 0, 1) := by decide +kernel
theorem dX6_wantsBite_62 : decode cX6_wantsBite 62 = .ok (.ireturn, 1) := by decide +kernel
theorem dX6_bite_0 : decode cX6_bite 0 = .ok (.aload_n 0, 1) := by decide +kernel
theorem dX6_bite_1 : decode cX6_bite 1 = .ok (.getfield 65, 3) := by decide +kernel
theorem dX6_bite_4 : decode cX6_bite 4 = .ok (.getfield 120, 3) := by decide +kernel
theorem dX6_bite_7 : decode cX6_bite 7 = .ok (.iload_n 2, 1) := by decide +kernel
theorem dX6_bite_8 : decode cX6_bite 8 = .ok (.iaload, 1) := by decide +kernel
theorem dX6_bite_9 : decode cX6_bite 9 = .ok (.aload_n 0, 1) := by decide +kernel
theorem dX6_bite_10 : decode cX6_bite 10 = .ok (.getfield 22, 3) := by decide +kernel
theorem dX6_bite_13 : decode cX6_bite 13 = .ok (.iload_n 1, 1) := by decide +kernel
theorem dX6_bite_14 : decode cX6_bite 14 = .ok (.iaload, 1) := by decide +kernel
theorem dX6_bite_15 : decode cX6_bite 15 = .ok (.if_icmp .ge 15, 3) := by decide +kernel
theorem dX6_bite_18 : decode cX6_bite 18 = .ok (.aload_n 0, 1) := by decide +kernel
theorem dX6_bite_19 : decode cX6_bite 19 = .ok (.getfield 65, 3) := by decide +kernel
theorem dX6_bite_22 : decode cX6_bite 22 = .ok (.getfield 120, 3) := by decide +kernel
theorem dX6_bite_25 : decode cX6_bite 25 = .ok (.iload_n 2, 1) := by decide +kernel
theorem dX6_bite_26 : decode cX6_bite 26 = .ok (.iaload, 1) := by decide +kernel
theorem dX6_bite_27 : decode cX6_bite 27 = .ok (.goto 9, 3) := by decide +kernel
theorem dX6_bite_30 : decode cX6_bite 30 = .ok (.aload_n 0, 1) := by decide +kernel
theorem dX6_bite_31 : decode cX6_bite 31 = .ok (.getfield 22, 3) := by decide +kernel
theorem dX6_bite_34 : decode cX6_bite 34 = .ok (.iload_n 1, 1) := by decide +kernel
theorem dX6_bite_35 : decode cX6_bite 35 = .ok (.iaload, 1) := by decide +kernel
theorem dX6_bite_36 : decode cX6_bite 36 = .ok (.istore 4, 2) := by decide +kernel
theorem dX6_bite_38 : decode cX6_bite 38 = .ok (.aload_n 0, 1) := by decide +kernel
theorem dX6_bite_39 : decode cX6_bite 39 = .ok (.getfield 22, 3) := by decide +kernel
theorem dX6_bite_42 : decode cX6_bite 42 = .ok (.iload_n 1, 1) := by decide +kernel
theorem dX6_bite_43 : decode cX6_bite 43 = .ok (.dup2, 1) := by decide +kernel
theorem dX6_bite_44 : decode cX6_bite 44 = .ok (.iaload, 1) := by decide +kernel
theorem dX6_bite_45 : decode cX6_bite 45 = .ok (.iload 4, 2) := by decide +kernel
theorem dX6_bite_47 : decode cX6_bite 47 = .ok (.isub, 1) := by decide +kernel
theorem dX6_bite_48 : decode cX6_bite 48 = .ok (.iastore, 1) := by decide +kernel
theorem dX6_bite_49 : decode cX6_bite 49 = .ok (.aload_n 0, 1) := by decide +kernel
theorem dX6_bite_50 : decode cX6_bite 50 = .ok (.getfield 43, 3) := by decide +kernel
theorem dX6_bite_53 : decode cX6_bite 53 = .ok (.iload_n 2, 1) := by decide +kernel
theorem dX6_bite_54 : decode cX6_bite 54 = .ok (.iload_n 3, 1) := by decide +kernel
theorem dX6_bite_55 : decode cX6_bite 55 = .ok (.iastore, 1) := by decide +kernel
theorem dX6_bite_56 : decode cX6_bite 56 = .ok (.aload_n 0, 1) := by decide +kernel
theorem dX6_bite_57 : decode cX6_bite 57 = .ok (.getfield 46, 3) := by decide +kernel
theorem dX6_bite_60 : decode cX6_bite 60 = .ok (.iload_n 2, 1) := by decide +kernel
theorem dX6_bite_61 : decode cX6_bite 61 = .ok (.dup2, 1) := by decide +kernel
theorem dX6_bite_62 : decode cX6_bite 62 = .ok (.iaload, 1) := by decide +kernel
theorem dX6_bite_63 : decode cX6_bite 63 = .ok (.iconst 1, 1) := by decide +kernel
theorem dX6_bite_64 : decode cX6_bite 64 = .ok (.iadd, 1) := by decide +kernel
theorem dX6_bite_65 : decode cX6_bite 65 = .ok (.iastore, 1) := by decide +kernel
theorem dX6_bite_66 : decode cX6_bite 66 = .ok (.aload_n 0, 1) := by decide +kernel
theorem dX6_bite_67 : decode cX6_bite 67 = .ok (.getfield 49, 3) := by decide +kernel
theorem dX6_bite_70 : decode cX6_bite 70 = .ok (.iload_n 2, 1) := by decide +kernel
theorem dX6_bite_71 : decode cX6_bite 71 = .ok (.dup2, 1) := by decide +kernel
theorem dX6_bite_72 : decode cX6_bite 72 = .ok (.iaload, 1) := by decide +kernel
theorem dX6_bite_73 : decode cX6_bite 73 = .ok (.iload 4, 2) := by decide +kernel
theorem dX6_bite_75 : decode cX6_bite 75 = .ok (.iadd, 1) := by decide +kernel
theorem dX6_bite_76 : decode cX6_bite 76 = .ok (.iastore, 1) := by decide +kernel
theorem dX6_bite_77 : decode cX6_bite 77 = .ok (.aload_n 0, 1) := by decide +kernel
theorem dX6_bite_78 : decode cX6_bite 78 = .ok (.dup, 1) := by decide +kernel
theorem dX6_bite_79 : decode cX6_bite 79 = .ok (.getfield 56, 3) := by decide +kernel
theorem dX6_bite_82 : decode cX6_bite 82 = .ok (.iconst 1, 1) := by decide +kernel
theorem dX6_bite_83 : decode cX6_bite 83 = .ok (.iadd, 1) := by decide +kernel
theorem dX6_bite_84 : decode cX6_bite 84 = .ok (.putfield 56, 3) := by decide +kernel
theorem dX6_bite_87 : decode cX6_bite 87 = .ok (.aload_n 0, 1) := by decide +kernel
theorem dX6_bite_88 : decode cX6_bite 88 = .ok (.getfield 59, 3) := by decide +kernel
theorem dX6_bite_91 : decode cX6_bite 91 = .ok (.iconst (-1), 1) := by decide +kernel
theorem dX6_bite_92 : decode cX6_bite 92 = .ok (.if_icmp .ne 13, 3) := by decide +kernel
theorem dX6_bite_95 : decode cX6_bite 95 = .ok (.aload_n 0, 1) := by decide +kernel
theorem dX6_bite_96 : decode cX6_bite 96 = .ok (.iload_n 3, 1) := by decide +kernel
theorem dX6_bite_97 : decode cX6_bite 97 = .ok (.putfield 59, 3) := by decide +kernel
theorem dX6_bite_100 : decode cX6_bite 100 = .ok (.aload_n 0, 1) := by decide +kernel
theorem dX6_bite_101 : decode cX6_bite 101 = .ok (.iload_n 2, 1) := by decide +kernel
theorem dX6_bite_102 : decode cX6_bite 102 = .ok (.putfield 62, 3) := by decide +kernel
theorem dX6_bite_105 : decode cX6_bite 105 = .ok (.aload_n 0, 1) := by decide +kernel
theorem dX6_bite_106 : decode cX6_bite 106 = .ok (.getfield 65, 3) := by decide +kernel
theorem dX6_bite_109 : decode cX6_bite 109 = .ok (.getfield 106, 3) := by decide +kernel
theorem dX6_bite_112 : decode cX6_bite 112 = .ok (.iload_n 2, 1) := by decide +kernel
theorem dX6_bite_113 : decode cX6_bite 113 = .ok (.iaload, 1) := by decide +kernel
theorem dX6_bite_114 : decode cX6_bite 114 = .ok (.iconst 1, 1) := by decide +kernel
theorem dX6_bite_115 : decode cX6_bite 115 = .ok (.if_icmp .ne 31, 3) := by decide +kernel
theorem dX6_bite_118 : decode cX6_bite 118 = .ok (.aload_n 0, 1) := by decide +kernel
theorem dX6_bite_119 : decode cX6_bite 119 = .ok (.getfield 34, 3) := by decide +kernel
theorem dX6_bite_122 : decode cX6_bite 122 = .ok (.iload_n 1, 1) := by decide +kernel
theorem dX6_bite_123 : decode cX6_bite 123 = .ok (.bipush 21, 2) := by decide +kernel
theorem dX6_bite_125 : decode cX6_bite 125 = .ok (.imul, 1) := by decide +kernel
theorem dX6_bite_126 : decode cX6_bite 126 = .ok (.aload_n 0, 1) := by decide +kernel
theorem dX6_bite_127 : decode cX6_bite 127 = .ok (.getfield 37, 3) := by decide +kernel
theorem dX6_bite_130 : decode cX6_bite 130 = .ok (.iload_n 1, 1) := by decide +kernel
theorem dX6_bite_131 : decode cX6_bite 131 = .ok (.iaload, 1) := by decide +kernel
theorem dX6_bite_132 : decode cX6_bite 132 = .ok (.iadd, 1) := by decide +kernel
theorem dX6_bite_133 : decode cX6_bite 133 = .ok (.aload_n 0, 1) := by decide +kernel
theorem dX6_bite_134 : decode cX6_bite 134 = .ok (.getfield 65, 3) := by decide +kernel
theorem dX6_bite_137 : decode cX6_bite 137 = .ok (.getfield 122, 3) := by decide +kernel
theorem dX6_bite_140 : decode cX6_bite 140 = .ok (.iload_n 2, 1) := by decide +kernel
theorem dX6_bite_141 : decode cX6_bite 141 = .ok (.iaload, 1) := by decide +kernel
theorem dX6_bite_142 : decode cX6_bite 142 = .ok (.iastore, 1) := by decide +kernel
theorem dX6_bite_143 : decode cX6_bite 143 = .ok (.goto 49, 3) := by decide +kernel
theorem dX6_bite_146 : decode cX6_bite 146 = .ok (.aload_n 0, 1) := by decide +kernel
theorem dX6_bite_147 : decode cX6_bite 147 = .ok (.getfield 40, 3) := by decide +kernel
theorem dX6_bite_150 : decode cX6_bite 150 = .ok (.iload_n 1, 1) := by decide +kernel
theorem dX6_bite_151 : decode cX6_bite 151 = .ok (.iaload, 1) := by decide +kernel
theorem dX6_bite_152 : decode cX6_bite 152 = .ok (.bipush 21, 2) := by decide +kernel
theorem dX6_bite_154 : decode cX6_bite 154 = .ok (.if_icmp .ge 38, 3) := by decide +kernel
theorem dX6_bite_157 : decode cX6_bite 157 = .ok (.aload_n 0, 1) := by decide +kernel
theorem dX6_bite_158 : decode cX6_bite 158 = .ok (.getfield 34, 3) := by decide +kernel
theorem dX6_bite_161 : decode cX6_bite 161 = .ok (.iload_n 1, 1) := by decide +kernel
theorem dX6_bite_162 : decode cX6_bite 162 = .ok (.bipush 21, 2) := by decide +kernel
theorem dX6_bite_164 : decode cX6_bite 164 = .ok (.imul, 1) := by decide +kernel
theorem dX6_bite_165 : decode cX6_bite 165 = .ok (.aload_n 0, 1) := by decide +kernel
theorem dX6_bite_166 : decode cX6_bite 166 = .ok (.getfield 40, 3) := by decide +kernel
theorem dX6_bite_169 : decode cX6_bite 169 = .ok (.iload_n 1, 1) := by decide +kernel
theorem dX6_bite_170 : decode cX6_bite 170 = .ok (.iaload, 1) := by decide +kernel
theorem dX6_bite_171 : decode cX6_bite 171 = .ok (.iadd, 1) := by decide +kernel
theorem dX6_bite_172 : decode cX6_bite 172 = .ok (.aload_n 0, 1) := by decide +kernel
theorem dX6_bite_173 : decode cX6_bite 173 = .ok (.getfield 65, 3) := by decide +kernel
theorem dX6_bite_176 : decode cX6_bite 176 = .ok (.getfield 122, 3) := by decide +kernel
theorem dX6_bite_179 : decode cX6_bite 179 = .ok (.iload_n 2, 1) := by decide +kernel
theorem dX6_bite_180 : decode cX6_bite 180 = .ok (.iaload, 1) := by decide +kernel
theorem dX6_bite_181 : decode cX6_bite 181 = .ok (.iastore, 1) := by decide +kernel
theorem dX6_bite_182 : decode cX6_bite 182 = .ok (.aload_n 0, 1) := by decide +kernel
theorem dX6_bite_183 : decode cX6_bite 183 = .ok (.getfield 40, 3) := by decide +kernel
theorem dX6_bite_186 : decode cX6_bite 186 = .ok (.iload_n 1, 1) := by decide +kernel
theorem dX6_bite_187 : decode cX6_bite 187 = .ok (.dup2, 1) := by decide +kernel
theorem dX6_bite_188 : decode cX6_bite 188 = .ok (.iaload, 1) := by decide +kernel
theorem dX6_bite_189 : decode cX6_bite 189 = .ok (.iconst 1, 1) := by decide +kernel
theorem dX6_bite_190 : decode cX6_bite 190 = .ok (.iadd, 1) := by decide +kernel
theorem dX6_bite_191 : decode cX6_bite 191 = .ok (.iastore, 1) := by decide +kernel
theorem dX6_bite_192 : decode cX6_bite 192 = .ok (.return_, 1) := by decide +kernel
theorem dX6_climb_0 : decode cX6_climb 0 = .ok (.iconst 0, 1) := by decide +kernel
theorem dX6_climb_1 : decode cX6_climb 1 = .ok (.istore_n 2, 1) := by decide +kernel
theorem dX6_climb_2 : decode cX6_climb 2 = .ok (.iload_n 2, 1) := by decide +kernel
theorem dX6_climb_3 : decode cX6_climb 3 = .ok (.aload_n 0, 1) := by decide +kernel
theorem dX6_climb_4 : decode cX6_climb 4 = .ok (.getfield 65, 3) := by decide +kernel
theorem dX6_climb_7 : decode cX6_climb 7 = .ok (.getfield 82, 3) := by decide +kernel
theorem dX6_climb_10 : decode cX6_climb 10 = .ok (.if_icmp .ge 89, 3) := by decide +kernel
theorem dX6_climb_13 : decode cX6_climb 13 = .ok (.aload_n 0, 1) := by decide +kernel
theorem dX6_climb_14 : decode cX6_climb 14 = .ok (.getfield 18, 3) := by decide +kernel
theorem dX6_climb_17 : decode cX6_climb 17 = .ok (.iload_n 2, 1) := by decide +kernel
theorem dX6_climb_18 : decode cX6_climb 18 = .ok (.iaload, 1) := by decide +kernel
theorem dX6_climb_19 : decode cX6_climb 19 = .ok (.istore_n 3, 1) := by decide +kernel
theorem dX6_climb_20 : decode cX6_climb 20 = .ok (.iload_n 3, 1) := by decide +kernel
theorem dX6_climb_21 : decode cX6_climb 21 = .ok (.ifCond .lt 72, 3) := by decide +kernel
theorem dX6_climb_24 : decode cX6_climb 24 = .ok (.iload_n 3, 1) := by decide +kernel
theorem dX6_climb_25 : decode cX6_climb 25 = .ok (.aload_n 0, 1) := by decide +kernel
theorem dX6_climb_26 : decode cX6_climb 26 = .ok (.getfield 65, 3) := by decide +kernel
theorem dX6_climb_29 : decode cX6_climb 29 = .ok (.getfield 100, 3) := by decide +kernel
theorem dX6_climb_32 : decode cX6_climb 32 = .ok (.if_icmp .ge 61, 3) := by decide +kernel
theorem dX6_climb_35 : decode cX6_climb 35 = .ok (.aload_n 0, 1) := by decide +kernel
theorem dX6_climb_36 : decode cX6_climb 36 = .ok (.getfield 25, 3) := by decide +kernel
theorem dX6_climb_39 : decode cX6_climb 39 = .ok (.iload_n 2, 1) := by decide +kernel
theorem dX6_climb_40 : decode cX6_climb 40 = .ok (.iaload, 1) := by decide +kernel
theorem dX6_climb_41 : decode cX6_climb 41 = .ok (.iconst 1, 1) := by decide +kernel
theorem dX6_climb_42 : decode cX6_climb 42 = .ok (.if_icmp .ne 6, 3) := by decide +kernel
theorem dX6_climb_45 : decode cX6_climb 45 = .ok (.goto 48, 3) := by decide +kernel
theorem dX6_climb_48 : decode cX6_climb 48 = .ok (.aload_n 0, 1) := by decide +kernel
theorem dX6_climb_49 : decode cX6_climb 49 = .ok (.getfield 65, 3) := by decide +kernel
theorem dX6_climb_52 : decode cX6_climb 52 = .ok (.getfield 106, 3) := by decide +kernel
theorem dX6_climb_55 : decode cX6_climb 55 = .ok (.iload_n 3, 1) := by decide +kernel
theorem dX6_climb_56 : decode cX6_climb 56 = .ok (.iaload, 1) := by decide +kernel
theorem dX6_climb_57 : decode cX6_climb 57 = .ok (.iconst 2, 1) := by decide +kernel
theorem dX6_climb_58 : decode cX6_climb 58 = .ok (.if_icmp .ne 29, 3) := by decide +kernel
theorem dX6_climb_61 : decode cX6_climb 61 = .ok (.aload_n 0, 1) := by decide +kernel
theorem dX6_climb_62 : decode cX6_climb 62 = .ok (.getfield 31, 3) := by decide +kernel
theorem dX6_climb_65 : decode cX6_climb 65 = .ok (.iload_n 2, 1) := by decide +kernel
theorem dX6_climb_66 : decode cX6_climb 66 = .ok (.iaload, 1) := by decide +kernel
theorem dX6_climb_67 : decode cX6_climb 67 = .ok (.ifCond .ne 20, 3) := by decide +kernel
theorem dX6_climb_70 : decode cX6_climb 70 = .ok (.aload_n 0, 1) := by decide +kernel
theorem dX6_climb_71 : decode cX6_climb 71 = .ok (.getfield 15, 3) := by decide +kernel
theorem dX6_climb_74 : decode cX6_climb 74 = .ok (.ifCond .ne 13, 3) := by decide +kernel
theorem dX6_climb_77 : decode cX6_climb 77 = .ok (.aload_n 0, 1) := by decide +kernel
theorem dX6_climb_78 : decode cX6_climb 78 = .ok (.getfield 31, 3) := by decide +kernel
theorem dX6_climb_81 : decode cX6_climb 81 = .ok (.iload_n 2, 1) := by decide +kernel
theorem dX6_climb_82 : decode cX6_climb 82 = .ok (.iconst 1, 1) := by decide +kernel
theorem dX6_climb_83 : decode cX6_climb 83 = .ok (.iastore, 1) := by decide +kernel
theorem dX6_climb_84 : decode cX6_climb 84 = .ok (.goto 9, 3) := by decide +kernel
theorem dX6_climb_87 : decode cX6_climb 87 = .ok (.aload_n 0, 1) := by decide +kernel
theorem dX6_climb_88 : decode cX6_climb 88 = .ok (.iload_n 2, 1) := by decide +kernel
theorem dX6_climb_89 : decode cX6_climb 89 = .ok (.iload_n 1, 1) := by decide +kernel
theorem dX6_climb_90 : decode cX6_climb 90 = .ok (.invokevirtual 125, 3) := by decide +kernel
theorem dX6_climb_93 : decode cX6_climb 93 = .ok (.iinc 2 1, 3) := by decide +kernel
theorem dX6_climb_96 : decode cX6_climb 96 = .ok (.goto (-94), 3) := by decide +kernel
theorem dX6_climb_99 : decode cX6_climb 99 = .ok (.return_, 1) := by decide +kernel
theorem dX6_leave_0 : decode cX6_leave 0 = .ok (.aload_n 0, 1) := by decide +kernel
theorem dX6_leave_1 : decode cX6_leave 1 = .ok (.getfield 31, 3) := by decide +kernel
theorem dX6_leave_4 : decode cX6_leave 4 = .ok (.iload_n 1, 1) := by decide +kernel
theorem dX6_leave_5 : decode cX6_leave 5 = .ok (.iconst 0, 1) := by decide +kernel
theorem dX6_leave_6 : decode cX6_leave 6 = .ok (.iastore, 1) := by decide +kernel
theorem dX6_leave_7 : decode cX6_leave 7 = .ok (.aload_n 0, 1) := by decide +kernel
theorem dX6_leave_8 : decode cX6_leave 8 = .ok (.getfield 18, 3) := by decide +kernel
theorem dX6_leave_11 : decode cX6_leave 11 = .ok (.iload_n 1, 1) := by decide +kernel
theorem dX6_leave_12 : decode cX6_leave 12 = .ok (.dup2, 1) := by decide +kernel
theorem dX6_leave_13 : decode cX6_leave 13 = .ok (.iaload, 1) := by decide +kernel
theorem dX6_leave_14 : decode cX6_leave 14 = .ok (.iconst 1, 1) := by decide +kernel
theorem dX6_leave_15 : decode cX6_leave 15 = .ok (.iadd, 1) := by decide +kernel
theorem dX6_leave_16 : decode cX6_leave 16 = .ok (.iastore, 1) := by decide +kernel
theorem dX6_leave_17 : decode cX6_leave 17 = .ok (.aload_n 0, 1) := by decide +kernel
theorem dX6_leave_18 : decode cX6_leave 18 = .ok (.getfield 65, 3) := by decide +kernel
theorem dX6_leave_21 : decode cX6_leave 21 = .ok (.getfield 129, 3) := by decide +kernel
theorem dX6_leave_24 : decode cX6_leave 24 = .ok (.ifCond .le 47, 3) := by decide +kernel
theorem dX6_leave_27 : decode cX6_leave 27 = .ok (.aload_n 0, 1) := by decide +kernel
theorem dX6_leave_28 : decode cX6_leave 28 = .ok (.getfield 18, 3) := by decide +kernel
theorem dX6_leave_31 : decode cX6_leave 31 = .ok (.iload_n 1, 1) := by decide +kernel
theorem dX6_leave_32 : decode cX6_leave 32 = .ok (.iaload, 1) := by decide +kernel
theorem dX6_leave_33 : decode cX6_leave 33 = .ok (.aload_n 0, 1) := by decide +kernel
theorem dX6_leave_34 : decode cX6_leave 34 = .ok (.getfield 65, 3) := by decide +kernel
theorem dX6_leave_37 : decode cX6_leave 37 = .ok (.getfield 129, 3) := by decide +kernel
theorem dX6_leave_40 : decode cX6_leave 40 = .ok (.irem, 1) := by decide +kernel
theorem dX6_leave_41 : decode cX6_leave 41 = .ok (.ifCond .ne 30, 3) := by decide +kernel
theorem dX6_leave_44 : decode cX6_leave 44 = .ok (.aload_n 0, 1) := by decide +kernel
theorem dX6_leave_45 : decode cX6_leave 45 = .ok (.getfield 40, 3) := by decide +kernel
theorem dX6_leave_48 : decode cX6_leave 48 = .ok (.iload_n 1, 1) := by decide +kernel
theorem dX6_leave_49 : decode cX6_leave 49 = .ok (.iaload, 1) := by decide +kernel
theorem dX6_leave_50 : decode cX6_leave 50 = .ok (.aload_n 0, 1) := by decide +kernel
theorem dX6_leave_51 : decode cX6_leave 51 = .ok (.getfield 37, 3) := by decide +kernel
theorem dX6_leave_54 : decode cX6_leave 54 = .ok (.iload_n 1, 1) := by decide +kernel
theorem dX6_leave_55 : decode cX6_leave 55 = .ok (.iaload, 1) := by decide +kernel
theorem dX6_leave_56 : decode cX6_leave 56 = .ok (.isub, 1) := by decide +kernel
theorem dX6_leave_57 : decode cX6_leave 57 = .ok (.iconst 2, 1) := by decide +kernel
theorem dX6_leave_58 : decode cX6_leave 58 = .ok (.if_icmp .lt 13, 3) := by decide +kernel
theorem dX6_leave_61 : decode cX6_leave 61 = .ok (.aload_n 0, 1) := by decide +kernel
theorem dX6_leave_62 : decode cX6_leave 62 = .ok (.getfield 37, 3) := by decide +kernel
theorem dX6_leave_65 : decode cX6_leave 65 = .ok (.iload_n 1, 1) := by decide +kernel
theorem dX6_leave_66 : decode cX6_leave 66 = .ok (.dup2, 1) := by decide +kernel
theorem dX6_leave_67 : decode cX6_leave 67 = .ok (.iaload, 1) := by decide +kernel
theorem dX6_leave_68 : decode cX6_leave 68 = .ok (.iconst 1, 1) := by decide +kernel
theorem dX6_leave_69 : decode cX6_leave 69 = .ok (.iadd, 1) := by decide +kernel
theorem dX6_leave_70 : decode cX6_leave 70 = .ok (.iastore, 1) := by decide +kernel
theorem dX6_leave_71 : decode cX6_leave 71 = .ok (.aload_n 0, 1) := by decide +kernel
theorem dX6_leave_72 : decode cX6_leave 72 = .ok (.getfield 18, 3) := by decide +kernel
theorem dX6_leave_75 : decode cX6_leave 75 = .ok (.iload_n 1, 1) := by decide +kernel
theorem dX6_leave_76 : decode cX6_leave 76 = .ok (.iaload, 1) := by decide +kernel
theorem dX6_leave_77 : decode cX6_leave 77 = .ok (.aload_n 0, 1) := by decide +kernel
theorem dX6_leave_78 : decode cX6_leave 78 = .ok (.getfield 65, 3) := by decide +kernel
theorem dX6_leave_81 : decode cX6_leave 81 = .ok (.getfield 100, 3) := by decide +kernel
theorem dX6_leave_84 : decode cX6_leave 84 = .ok (.if_icmp .ne 22, 3) := by decide +kernel
theorem dX6_leave_87 : decode cX6_leave 87 = .ok (.aload_n 0, 1) := by decide +kernel
theorem dX6_leave_88 : decode cX6_leave 88 = .ok (.getfield 28, 3) := by decide +kernel
theorem dX6_leave_91 : decode cX6_leave 91 = .ok (.iload_n 1, 1) := by decide +kernel
theorem dX6_leave_92 : decode cX6_leave 92 = .ok (.iload_n 2, 1) := by decide +kernel
theorem dX6_leave_93 : decode cX6_leave 93 = .ok (.iconst 1, 1) := by decide +kernel
theorem dX6_leave_94 : decode cX6_leave 94 = .ok (.iadd, 1) := by decide +kernel
theorem dX6_leave_95 : decode cX6_leave 95 = .ok (.iastore, 1) := by decide +kernel
theorem dX6_leave_96 : decode cX6_leave 96 = .ok (.aload_n 0, 1) := by decide +kernel
theorem dX6_leave_97 : decode cX6_leave 97 = .ok (.dup, 1) := by decide +kernel
theorem dX6_leave_98 : decode cX6_leave 98 = .ok (.getfield 52, 3) := by decide +kernel
theorem dX6_leave_101 : decode cX6_leave 101 = .ok (.iconst 1, 1) := by decide +kernel
theorem dX6_leave_102 : decode cX6_leave 102 = .ok (.isub, 1) := by decide +kernel
theorem dX6_leave_103 : decode cX6_leave 103 = .ok (.putfield 52, 3) := by decide +kernel
theorem dX6_leave_106 : decode cX6_leave 106 = .ok (.return_, 1) := by decide +kernel
theorem dX6_letters_0 : decode cX6_letters 0 = .ok (.aload_n 0, 1) := by decide +kernel
theorem dX6_letters_1 : decode cX6_letters 1 = .ok (.getfield 40, 3) := by decide +kernel
theorem dX6_letters_4 : decode cX6_letters 4 = .ok (.iload_n 1, 1) := by decide +kernel
theorem dX6_letters_5 : decode cX6_letters 5 = .ok (.iaload, 1) := by decide +kernel
theorem dX6_letters_6 : decode cX6_letters 6 = .ok (.aload_n 0, 1) := by decide +kernel
theorem dX6_letters_7 : decode cX6_letters 7 = .ok (.getfield 37, 3) := by decide +kernel
theorem dX6_letters_10 : decode cX6_letters 10 = .ok (.iload_n 1, 1) := by decide +kernel
theorem dX6_letters_11 : decode cX6_letters 11 = .ok (.iaload, 1) := by decide +kernel
theorem dX6_letters_12 : decode cX6_letters 12 = .ok (.isub, 1) := by decide +kernel
theorem dX6_letters_13 : decode cX6_letters 13 = .ok (.ireturn, 1) := by decide +kernel
theorem dX6_letter_0 : decode cX6_letter 0 = .ok (.iload_n 2, 1) := by decide +kernel
theorem dX6_letter_1 : decode cX6_letter 1 = .ok (.ifCond .lt 33, 3) := by decide +kernel
theorem dX6_letter_4 : decode cX6_letter 4 = .ok (.iload_n 2, 1) := by decide +kernel
theorem dX6_letter_5 : decode cX6_letter 5 = .ok (.aload_n 0, 1) := by decide +kernel
theorem dX6_letter_6 : decode cX6_letter 6 = .ok (.iload_n 1, 1) := by decide +kernel
theorem dX6_letter_7 : decode cX6_letter 7 = .ok (.invokevirtual 132, 3) := by decide +kernel
theorem dX6_letter_10 : decode cX6_letter 10 = .ok (.if_icmp .ge 24, 3) := by decide +kernel
theorem dX6_letter_13 : decode cX6_letter 13 = .ok (.aload_n 0, 1) := by decide +kernel
theorem dX6_letter_14 : decode cX6_letter 14 = .ok (.getfield 34, 3) := by decide +kernel
theorem dX6_letter_17 : decode cX6_letter 17 = .ok (.iload_n 1, 1) := by decide +kernel
theorem dX6_letter_18 : decode cX6_letter 18 = .ok (.bipush 21, 2) := by decide +kernel
theorem dX6_letter_20 : decode cX6_letter 20 = .ok (.imul, 1) := by decide +kernel
theorem dX6_letter_21 : decode cX6_letter 21 = .ok (.aload_n 0, 1) := by decide +kernel
theorem dX6_letter_22 : decode cX6_letter 22 = .ok (.getfield 37, 3) := by decide +kernel
theorem dX6_letter_25 : decode cX6_letter 25 = .ok (.iload_n 1, 1) := by decide +kernel
theorem dX6_letter_26 : decode cX6_letter 26 = .ok (.iaload, 1) := by decide +kernel
theorem dX6_letter_27 : decode cX6_letter 27 = .ok (.iadd, 1) := by decide +kernel
theorem dX6_letter_28 : decode cX6_letter 28 = .ok (.iload_n 2, 1) := by decide +kernel
theorem dX6_letter_29 : decode cX6_letter 29 = .ok (.iadd, 1) := by decide +kernel
theorem dX6_letter_30 : decode cX6_letter 30 = .ok (.iaload, 1) := by decide +kernel
theorem dX6_letter_31 : decode cX6_letter 31 = .ok (.goto 4, 3) := by decide +kernel
theorem dX6_letter_34 : decode cX6_letter 34 = .ok (.iconst (-1), 1) := by decide +kernel
theorem dX6_letter_35 : decode cX6_letter 35 = .ok (.ireturn, 1) := by decide +kernel
theorem dX6_noteAsTold_0 : decode cX6_noteAsTold 0 = .ok (.aload_n 0, 1) := by decide +kernel
theorem dX6_noteAsTold_1 : decode cX6_noteAsTold 1 = .ok (.iload_n 1, 1) := by decide +kernel
theorem dX6_noteAsTold_2 : decode cX6_noteAsTold 2 = .ok (.invokevirtual 132, 3) := by decide +kernel
theorem dX6_noteAsTold_5 : decode cX6_noteAsTold 5 = .ok (.aload_n 0, 1) := by decide +kernel
theorem dX6_noteAsTold_6 : decode cX6_noteAsTold 6 = .ok (.getfield 65, 3) := by decide +kernel
theorem dX6_noteAsTold_9 : decode cX6_noteAsTold 9 = .ok (.getfield 88, 3) := by decide +kernel
theorem dX6_noteAsTold_12 : decode cX6_noteAsTold 12 = .ok (.iload_n 1, 1) := by decide +kernel
theorem dX6_noteAsTold_13 : decode cX6_noteAsTold 13 = .ok (.iaload, 1) := by decide +kernel
theorem dX6_noteAsTold_14 : decode cX6_noteAsTold 14 = .ok (.if_icmp .eq 5, 3) := by decide +kernel
theorem dX6_noteAsTold_17 : decode cX6_noteAsTold 17 = .ok (.iconst 0, 1) := by decide +kernel
theorem dX6_noteAsTold_18 : decode cX6_noteAsTold 18 = .ok (.ireturn, 1) := by decide +kernel
theorem dX6_noteAsTold_19 : decode cX6_noteAsTold 19 = .ok (.iconst 0, 1) := by decide +kernel
theorem dX6_noteAsTold_20 : decode cX6_noteAsTold 20 = .ok (.istore_n 2, 1) := by decide +kernel
theorem dX6_noteAsTold_21 : decode cX6_noteAsTold 21 = .ok (.iload_n 2, 1) := by decide +kernel
theorem dX6_noteAsTold_22 : decode cX6_noteAsTold 22 = .ok (.iconst 3, 1) := by decide +kernel
theorem dX6_noteAsTold_23 : decode cX6_noteAsTold 23 = .ok (.if_icmp .ge 29, 3) := by decide +kernel
theorem dX6_noteAsTold_26 : decode cX6_noteAsTold 26 = .ok (.aload_n 0, 1) := by decide +kernel
theorem dX6_noteAsTold_27 : decode cX6_noteAsTold 27 = .ok (.iload_n 1, 1) := by decide +kernel
theorem dX6_noteAsTold_28 : decode cX6_noteAsTold 28 = .ok (.iload_n 2, 1) := by decide +kernel
theorem dX6_noteAsTold_29 : decode cX6_noteAsTold 29 = .ok (.invokevirtual 135, 3) := by decide +kernel
theorem dX6_noteAsTold_32 : decode cX6_noteAsTold 32 = .ok (.aload_n 0, 1) := by decide +kernel
theorem dX6_noteAsTold_33 : decode cX6_noteAsTold 33 = .ok (.getfield 65, 3) := by decide +kernel
theorem dX6_noteAsTold_36 : decode cX6_noteAsTold 36 = .ok (.iload_n 1, 1) := by decide +kernel
theorem dX6_noteAsTold_37 : decode cX6_noteAsTold 37 = .ok (.iload_n 2, 1) := by decide +kernel
theorem dX6_noteAsTold_38 : decode cX6_noteAsTold 38 = .ok (.invokevirtual 139, 3) := by decide +kernel
theorem dX6_noteAsTold_41 : decode cX6_noteAsTold 41 = .ok (.if_icmp .eq 5, 3) := by decide +kernel
theorem dX6_noteAsTold_44 : decode cX6_noteAsTold 44 = .ok (.iconst 0, 1) := by decide +kernel
theorem dX6_noteAsTold_45 : decode cX6_noteAsTold 45 = .ok (.ireturn, 1) := by decide +kernel
theorem dX6_noteAsTold_46 : decode cX6_noteAsTold 46 = .ok (.iinc 2 1, 3) := by decide +kernel
theorem dX6_noteAsTold_49 : decode cX6_noteAsTold 49 = .ok (.goto (-28), 3) := by decide +kernel
theorem dX6_noteAsTold_52 : decode cX6_noteAsTold 52 = .ok (.iconst 1, 1) := by decide +kernel
theorem dX6_noteAsTold_53 : decode cX6_noteAsTold 53 = .ok (.ireturn, 1) := by decide +kernel
theorem dX6_bringsUp_0 : decode cX6_bringsUp 0 = .ok (.aload_n 0, 1) := by decide +kernel
theorem dX6_bringsUp_1 : decode cX6_bringsUp 1 = .ok (.getfield 28, 3) := by decide +kernel
theorem dX6_bringsUp_4 : decode cX6_bringsUp 4 = .ok (.iload_n 1, 1) := by decide +kernel
theorem dX6_bringsUp_5 : decode cX6_bringsUp 5 = .ok (.iaload, 1) := by decide +kernel
theorem dX6_bringsUp_6 : decode cX6_bringsUp 6 = .ok (.iconst (-1), 1) := by decide +kernel
theorem dX6_bringsUp_7 : decode cX6_bringsUp 7 = .ok (.if_icmp .eq 17, 3) := by decide +kernel
theorem dX6_bringsUp_10 : decode cX6_bringsUp 10 = .ok (.aload_n 0, 1) := by decide +kernel
theorem dX6_bringsUp_11 : decode cX6_bringsUp 11 = .ok (.getfield 22, 3) := by decide +kernel
theorem dX6_bringsUp_14 : decode cX6_bringsUp 14 = .ok (.iload_n 1, 1) := by decide +kernel
theorem dX6_bringsUp_15 : decode cX6_bringsUp 15 = .ok (.iaload, 1) := by decide +kernel
theorem dX6_bringsUp_16 : decode cX6_bringsUp 16 = .ok (.iload_n 2, 1) := by decide +kernel
theorem dX6_bringsUp_17 : decode cX6_bringsUp 17 = .ok (.if_icmp .lt 7, 3) := by decide +kernel
theorem dX6_bringsUp_20 : decode cX6_bringsUp 20 = .ok (.iconst 1, 1) := by decide +kernel
theorem dX6_bringsUp_21 : decode cX6_bringsUp 21 = .ok (.goto 4, 3) := by decide +kernel
theorem dX6_bringsUp_24 : decode cX6_bringsUp 24 = .ok (.iconst 0, 1) := by decide +kernel
theorem dX6_bringsUp_25 : decode cX6_bringsUp 25 = .ok (.ireturn, 1) := by decide +kernel
theorem dX6_loadUp_0 : decode cX6_loadUp 0 = .ok (.iconst 0, 1) := by decide +kernel
theorem dX6_loadUp_1 : decode cX6_loadUp 1 = .ok (.istore_n 1, 1) := by decide +kernel
theorem dX6_loadUp_2 : decode cX6_loadUp 2 = .ok (.iconst 0, 1) := by decide +kernel
theorem dX6_loadUp_3 : decode cX6_loadUp 3 = .ok (.istore_n 2, 1) := by decide +kernel
theorem dX6_loadUp_4 : decode cX6_loadUp 4 = .ok (.iload_n 2, 1) := by decide +kernel
theorem dX6_loadUp_5 : decode cX6_loadUp 5 = .ok (.aload_n 0, 1) := by decide +kernel
theorem dX6_loadUp_6 : decode cX6_loadUp 6 = .ok (.getfield 65, 3) := by decide +kernel
theorem dX6_loadUp_9 : decode cX6_loadUp 9 = .ok (.getfield 82, 3) := by decide +kernel
theorem dX6_loadUp_12 : decode cX6_loadUp 12 = .ok (.if_icmp .ge 28, 3) := by decide +kernel
theorem dX6_loadUp_15 : decode cX6_loadUp 15 = .ok (.aload_n 0, 1) := by decide +kernel
theorem dX6_loadUp_16 : decode cX6_loadUp 16 = .ok (.getfield 28, 3) := by decide +kernel
theorem dX6_loadUp_19 : decode cX6_loadUp 19 = .ok (.iload_n 2, 1) := by decide +kernel
theorem dX6_loadUp_20 : decode cX6_loadUp 20 = .ok (.iaload, 1) := by decide +kernel
theorem dX6_loadUp_21 : decode cX6_loadUp 21 = .ok (.iconst (-1), 1) := by decide +kernel
theorem dX6_loadUp_22 : decode cX6_loadUp 22 = .ok (.if_icmp .eq 12, 3) := by decide +kernel
theorem dX6_loadUp_25 : decode cX6_loadUp 25 = .ok (.iload_n 1, 1) := by decide +kernel
theorem dX6_loadUp_26 : decode cX6_loadUp 26 = .ok (.aload_n 0, 1) := by decide +kernel
theorem dX6_loadUp_27 : decode cX6_loadUp 27 = .ok (.getfield 22, 3) := by decide +kernel
theorem dX6_loadUp_30 : decode cX6_loadUp 30 = .ok (.iload_n 2, 1) := by decide +kernel
theorem dX6_loadUp_31 : decode cX6_loadUp 31 = .ok (.iaload, 1) := by decide +kernel
theorem dX6_loadUp_32 : decode cX6_loadUp 32 = .ok (.iadd, 1) := by decide +kernel
theorem dX6_loadUp_33 : decode cX6_loadUp 33 = .ok (.istore_n 1, 1) := by decide +kernel
theorem dX6_loadUp_34 : decode cX6_loadUp 34 = .ok (.iinc 2 1, 3) := by decide +kernel
theorem dX6_loadUp_37 : decode cX6_loadUp 37 = .ok (.goto (-33), 3) := by decide +kernel
theorem dX6_loadUp_40 : decode cX6_loadUp 40 = .ok (.iload_n 1, 1) := by decide +kernel
theorem dX6_loadUp_41 : decode cX6_loadUp 41 = .ok (.ireturn, 1) := by decide +kernel
theorem dX7_type_0 : decode cX7_type 0 = .ok (.iload_n 1, 1) := by decide +kernel
theorem dX7_type_1 : decode cX7_type 1 = .ok (.invokestatic 89, 3) := by decide +kernel
theorem dX7_type_4 : decode cX7_type 4 = .ok (.ifCond .eq 14, 3) := by decide +kernel
theorem dX7_type_7 : decode cX7_type 7 = .ok (.iload_n 2, 1) := by decide +kernel
theorem dX7_type_8 : decode cX7_type 8 = .ok (.ifCond .lt 10, 3) := by decide +kernel
theorem dX7_type_11 : decode cX7_type 11 = .ok (.iload_n 2, 1) := by decide +kernel
theorem dX7_type_12 : decode cX7_type 12 = .ok (.sipush 255, 3) := by decide +kernel
theorem dX7_type_15 : decode cX7_type 15 = .ok (.if_icmp .le 6, 3) := by decide +kernel
theorem dX7_type_18 : decode cX7_type 18 = .ok (.bipush (-2), 2) := by decide +kernel
theorem dX7_type_20 : decode cX7_type 20 = .ok (.ireturn, 1) := by decide +kernel
theorem dX7_type_21 : decode cX7_type 21 = .ok (.aload_n 0, 1) := by decide +kernel
theorem dX7_type_22 : decode cX7_type 22 = .ok (.iload_n 1, 1) := by decide +kernel
theorem dX7_type_23 : decode cX7_type 23 = .ok (.invokevirtual 93, 3) := by decide +kernel
theorem dX7_type_26 : decode cX7_type 26 = .ok (.iload_n 2, 1) := by decide +kernel
theorem dX7_type_27 : decode cX7_type 27 = .ok (.invokevirtual 97, 3) := by decide +kernel
theorem dX7_type_30 : decode cX7_type 30 = .ok (.ifCond .ne 6, 3) := by decide +kernel
theorem dX7_type_33 : decode cX7_type 33 = .ok (.bipush (-4), 2) := by decide +kernel
theorem dX7_type_35 : decode cX7_type 35 = .ok (.ireturn, 1) := by decide +kernel
theorem dX7_type_36 : decode cX7_type 36 = .ok (.aload_n 0, 1) := by decide +kernel
theorem dX7_type_37 : decode cX7_type 37 = .ok (.iload_n 1, 1) := by decide +kernel
theorem dX7_type_38 : decode cX7_type 38 = .ok (.invokevirtual 100, 3) := by decide +kernel
theorem dX7_type_41 : decode cX7_type 41 = .ok (.ireturn, 1) := by decide +kernel
theorem dX7_wipe_0 : decode cX7_wipe 0 = .ok (.iload_n 1, 1) := by decide +kernel
theorem dX7_wipe_1 : decode cX7_wipe 1 = .ok (.invokestatic 89, 3) := by decide +kernel
theorem dX7_wipe_4 : decode cX7_wipe 4 = .ok (.ifCond .ne 6, 3) := by decide +kernel
theorem dX7_wipe_7 : decode cX7_wipe 7 = .ok (.bipush (-2), 2) := by decide +kernel
theorem dX7_wipe_9 : decode cX7_wipe 9 = .ok (.ireturn, 1) := by decide +kernel
theorem dX7_wipe_10 : decode cX7_wipe 10 = .ok (.aload_n 0, 1) := by decide +kernel
theorem dX7_wipe_11 : decode cX7_wipe 11 = .ok (.iload_n 1, 1) := by decide +kernel
theorem dX7_wipe_12 : decode cX7_wipe 12 = .ok (.invokevirtual 93, 3) := by decide +kernel
theorem dX7_wipe_15 : decode cX7_wipe 15 = .ok (.getfield 104, 3) := by decide +kernel
theorem dX7_wipe_18 : decode cX7_wipe 18 = .ok (.istore_n 2, 1) := by decide +kernel
theorem dX7_wipe_19 : decode cX7_wipe 19 = .ok (.aload_n 0, 1) := by decide +kernel
theorem dX7_wipe_20 : decode cX7_wipe 20 = .ok (.iload_n 1, 1) := by decide +kernel
theorem dX7_wipe_21 : decode cX7_wipe 21 = .ok (.invokevirtual 93, 3) := by decide +kernel
theorem dX7_wipe_24 : decode cX7_wipe 24 = .ok (.iconst 0, 1) := by decide +kernel
theorem dX7_wipe_25 : decode cX7_wipe 25 = .ok (.putfield 104, 3) := by decide +kernel
theorem dX7_wipe_28 : decode cX7_wipe 28 = .ok (.aload_n 0, 1) := by decide +kernel
theorem dX7_wipe_29 : decode cX7_wipe 29 = .ok (.iload_n 1, 1) := by decide +kernel
theorem dX7_wipe_30 : decode cX7_wipe 30 = .ok (.invokevirtual 100, 3) := by decide +kernel
theorem dX7_wipe_33 : decode cX7_wipe 33 = .ok (.pop, 1) := by decide +kernel
theorem dX7_wipe_34 : decode cX7_wipe 34 = .ok (.iload_n 2, 1) := by decide +kernel
theorem dX7_wipe_35 : decode cX7_wipe 35 = .ok (.ireturn, 1) := by decide +kernel
theorem dX7_undo_0 : decode cX7_undo 0 = .ok (.iload_n 1, 1) := by decide +kernel
theorem dX7_undo_1 : decode cX7_undo 1 = .ok (.invokestatic 89, 3) := by decide +kernel
theorem dX7_undo_4 : decode cX7_undo 4 = .ok (.ifCond .ne 6, 3) := by decide +kernel
theorem dX7_undo_7 : decode cX7_undo 7 = .ok (.bipush (-2), 2) := by decide +kernel
theorem dX7_undo_9 : decode cX7_undo 9 = .ok (.ireturn, 1) := by decide +kernel
theorem dX7_undo_10 : decode cX7_undo 10 = .ok (.aload_n 0, 1) := by decide +kernel
theorem dX7_undo_11 : decode cX7_undo 11 = .ok (.iload_n 1, 1) := by decide +kernel
theorem dX7_undo_12 : decode cX7_undo 12 = .ok (.invokevirtual 93, 3) := by decide +kernel
theorem dX7_undo_15 : decode cX7_undo 15 = .ok (.getfield 104, 3) := by decide +kernel
theorem dX7_undo_18 : decode cX7_undo 18 = .ok (.ifCond .ne 6, 3) := by decide +kernel
theorem dX7_undo_21 : decode cX7_undo 21 = .ok (.bipush (-3), 2) := by decide +kernel
theorem dX7_undo_23 : decode cX7_undo 23 = .ok (.ireturn, 1) := by decide +kernel
theorem dX7_undo_24 : decode cX7_undo 24 = .ok (.aload_n 0, 1) := by decide +kernel
theorem dX7_undo_25 : decode cX7_undo 25 = .ok (.iload_n 1, 1) := by decide +kernel
theorem dX7_undo_26 : decode cX7_undo 26 = .ok (.invokevirtual 93, 3) := by decide +kernel
theorem dX7_undo_29 : decode cX7_undo 29 = .ok (.dup, 1) := by decide +kernel
theorem dX7_undo_30 : decode cX7_undo 30 = .ok (.getfield 104, 3) := by decide +kernel
theorem dX7_undo_33 : decode cX7_undo 33 = .ok (.iconst 1, 1) := by decide +kernel
theorem dX7_undo_34 : decode cX7_undo 34 = .ok (.isub, 1) := by decide +kernel
theorem dX7_undo_35 : decode cX7_undo 35 = .ok (.putfield 104, 3) := by decide +kernel
theorem dX7_undo_38 : decode cX7_undo 38 = .ok (.aload_n 0, 1) := by decide +kernel
theorem dX7_undo_39 : decode cX7_undo 39 = .ok (.iload_n 1, 1) := by decide +kernel
theorem dX7_undo_40 : decode cX7_undo 40 = .ok (.invokevirtual 100, 3) := by decide +kernel
theorem dX7_undo_43 : decode cX7_undo 43 = .ok (.ireturn, 1) := by decide +kernel
theorem dX7_fault_0 : decode cX7_fault 0 = .ok (.iload_n 1, 1) := by decide +kernel
theorem dX7_fault_1 : decode cX7_fault 1 = .ok (.invokestatic 89, 3) := by decide +kernel
theorem dX7_fault_4 : decode cX7_fault 4 = .ok (.ifCond .ne 6, 3) := by decide +kernel
theorem dX7_fault_7 : decode cX7_fault 7 = .ok (.bipush (-2), 2) := by decide +kernel
theorem dX7_fault_9 : decode cX7_fault 9 = .ok (.ireturn, 1) := by decide +kernel
theorem dX7_fault_10 : decode cX7_fault 10 = .ok (.iload_n 1, 1) := by decide +kernel
theorem dX7_fault_11 : decode cX7_fault 11 = .ok (.ifCond .ne 13, 3) := by decide +kernel
theorem dX7_fault_14 : decode cX7_fault 14 = .ok (.aload_n 0, 1) := by decide +kernel
theorem dX7_fault_15 : decode cX7_fault 15 = .ok (.getfield 24, 3) := by decide +kernel
theorem dX7_fault_18 : decode cX7_fault 18 = .ok (.getfield 107, 3) := by decide +kernel
theorem dX7_fault_21 : decode cX7_fault 21 = .ok (.goto 10, 3) := by decide +kernel
theorem dX7_fault_24 : decode cX7_fault 24 = .ok (.aload_n 0, 1) := by decide +kernel
theorem dX7_fault_25 : decode cX7_fault 25 = .ok (.getfield 24, 3) := by decide +kernel
theorem dX7_fault_28 : decode cX7_fault 28 = .ok (.getfield 110, 3) := by decide +kernel
theorem dX7_fault_31 : decode cX7_fault 31 = .ok (.ireturn, 1) := by decide +kernel
theorem dX7_floor_0 : decode cX7_floor 0 = .ok (.aload_n 0, 1) := by decide +kernel
theorem dX7_floor_1 : decode cX7_floor 1 = .ok (.iload_n 1, 1) := by decide +kernel
theorem dX7_floor_2 : decode cX7_floor 2 = .ok (.invokevirtual 113, 3) := by decide +kernel
theorem dX7_floor_5 : decode cX7_floor 5 = .ok (.ifCond .ne 6, 3) := by decide +kernel
theorem dX7_floor_8 : decode cX7_floor 8 = .ok (.bipush (-2), 2) := by decide +kernel
theorem dX7_floor_10 : decode cX7_floor 10 = .ok (.ireturn, 1) := by decide +kernel
theorem dX7_floor_11 : decode cX7_floor 11 = .ok (.iload_n 2, 1) := by decide +kernel
theorem dX7_floor_12 : decode cX7_floor 12 = .ok (.tableswitch 58 0 2 #[28, 38, 48], 28) := by decide +kernel
theorem dX7_floor_40 : decode cX7_floor 40 = .ok (.aload_n 0, 1) := by decide +kernel
theorem dX7_floor_41 : decode cX7_floor 41 = .ok (.getfield 24, 3) := by decide +kernel
theorem dX7_floor_44 : decode cX7_floor 44 = .ok (.getfield 116, 3) := by decide +kernel
theorem dX7_floor_47 : decode cX7_floor 47 = .ok (.iload_n 1, 1) := by decide +kernel
theorem dX7_floor_48 : decode cX7_floor 48 = .ok (.iaload, 1) := by decide +kernel
theorem dX7_floor_49 : decode cX7_floor 49 = .ok (.ireturn, 1) := by decide +kernel
theorem dX7_floor_50 : decode cX7_floor 50 = .ok (.aload_n 0, 1) := by decide +kernel
theorem dX7_floor_51 : decode cX7_floor 51 = .ok (.getfield 24, 3) := by decide +kernel
theorem dX7_floor_54 : decode cX7_floor 54 = .ok (.getfield 119, 3) := by decide +kernel
theorem dX7_floor_57 : decode cX7_floor 57 = .ok (.iload_n 1, 1) := by decide +kernel
theorem dX7_floor_58 : decode cX7_floor 58 = .ok (.iaload, 1) := by decide +kernel
theorem dX7_floor_59 : decode cX7_floor 59 = .ok (.ireturn, 1) := by decide +kernel
theorem dX7_floor_60 : decode cX7_floor 60 = .ok (.aload_n 0, 1) := by decide +kernel
theorem dX7_floor_61 : decode cX7_floor 61 = .ok (.getfield 24, 3) := by decide +kernel
theorem dX7_floor_64 : decode cX7_floor 64 = .ok (.getfield 122, 3) := by decide +kernel
theorem dX7_floor_67 : decode cX7_floor 67 = .ok (.iload_n 1, 1) := by decide +kernel
theorem dX7_floor_68 : decode cX7_floor 68 = .ok (.iaload, 1) := by decide +kernel
theorem dX7_floor_69 : decode cX7_floor 69 = .ok (.ireturn, 1) := by decide +kernel
theorem dX7_floor_70 : decode cX7_floor 70 = .ok (.bipush (-2), 2) := by decide +kernel
theorem dX7_floor_72 : decode cX7_floor 72 = .ok (.ireturn, 1) := by decide +kernel
theorem dX7_basket_0 : decode cX7_basket 0 = .ok (.aload_n 0, 1) := by decide +kernel
theorem dX7_basket_1 : decode cX7_basket 1 = .ok (.iload_n 1, 1) := by decide +kernel
theorem dX7_basket_2 : decode cX7_basket 2 = .ok (.invokevirtual 125, 3) := by decide +kernel
theorem dX7_basket_5 : decode cX7_basket 5 = .ok (.ifCond .eq 12, 3) := by decide +kernel
theorem dX7_basket_8 : decode cX7_basket 8 = .ok (.iload_n 2, 1) := by decide +kernel
theorem dX7_basket_9 : decode cX7_basket 9 = .ok (.ifCond .lt 8, 3) := by decide +kernel
theorem dX7_basket_12 : decode cX7_basket 12 = .ok (.iload_n 2, 1) := by decide +kernel
theorem dX7_basket_13 : decode cX7_basket 13 = .ok (.iconst 5, 1) := by decide +kernel
theorem dX7_basket_14 : decode cX7_basket 14 = .ok (.if_icmp .le 6, 3) := by decide +kernel
theorem dX7_basket_17 : decode cX7_basket 17 = .ok (.bipush (-2), 2) := by decide +kernel
theorem dX7_basket_19 : decode cX7_basket 19 = .ok (.ireturn, 1) := by decide +kernel
theorem dX7_basket_20 : decode cX7_basket 20 = .ok (.iload_n 2, 1) := by decide +kernel
theorem dX7_basket_21 : decode cX7_basket 21 = .ok (.tableswitch 57 0 2 #[27, 37, 47], 27) := by decide +kernel
theorem dX7_basket_48 : decode cX7_basket 48 = .ok (.aload_n 0, 1) := by decide +kernel
theorem dX7_basket_49 : decode cX7_basket 49 = .ok (.getfield 24, 3) := by decide +kernel
theorem dX7_basket_52 : decode cX7_basket 52 = .ok (.getfield 128, 3) := by decide +kernel
theorem dX7_basket_55 : decode cX7_basket 55 = .ok (.iload_n 1, 1) := by decide +kernel
theorem dX7_basket_56 : decode cX7_basket 56 = .ok (.iaload, 1) := by decide +kernel
theorem dX7_basket_57 : decode cX7_basket 57 = .ok (.ireturn, 1) := by decide +kernel
theorem dX7_basket_58 : decode cX7_basket 58 = .ok (.aload_n 0, 1) := by decide +kernel
theorem dX7_basket_59 : decode cX7_basket 59 = .ok (.getfield 24, 3) := by decide +kernel
theorem dX7_basket_62 : decode cX7_basket 62 = .ok (.getfield 131, 3) := by decide +kernel
theorem dX7_basket_65 : decode cX7_basket 65 = .ok (.iload_n 1, 1) := by decide +kernel
theorem dX7_basket_66 : decode cX7_basket 66 = .ok (.iaload, 1) := by decide +kernel
theorem dX7_basket_67 : decode cX7_basket 67 = .ok (.ireturn, 1) := by decide +kernel
theorem dX7_basket_68 : decode cX7_basket 68 = .ok (.aload_n 0, 1) := by decide +kernel
theorem dX7_basket_69 : decode cX7_basket 69 = .ok (.getfield 24, 3) := by decide +kernel
theorem dX7_basket_72 : decode cX7_basket 72 = .ok (.getfield 134, 3) := by decide +kernel
theorem dX7_basket_75 : decode cX7_basket 75 = .ok (.iload_n 1, 1) := by decide +kernel
theorem dX7_basket_76 : decode cX7_basket 76 = .ok (.iaload, 1) := by decide +kernel
theorem dX7_basket_77 : decode cX7_basket 77 = .ok (.ireturn, 1) := by decide +kernel
theorem dX7_basket_78 : decode cX7_basket 78 = .ok (.aload_n 0, 1) := by decide +kernel
theorem dX7_basket_79 : decode cX7_basket 79 = .ok (.getfield 24, 3) := by decide +kernel
theorem dX7_basket_82 : decode cX7_basket 82 = .ok (.iload_n 1, 1) := by decide +kernel
theorem dX7_basket_83 : decode cX7_basket 83 = .ok (.iload_n 2, 1) := by decide +kernel
theorem dX7_basket_84 : decode cX7_basket 84 = .ok (.iconst 3, 1) := by decide +kernel
theorem dX7_basket_85 : decode cX7_basket 85 = .ok (.isub, 1) := by decide +kernel
theorem dX7_basket_86 : decode cX7_basket 86 = .ok (.invokevirtual 137, 3) := by decide +kernel
theorem dX7_basket_89 : decode cX7_basket 89 = .ok (.ireturn, 1) := by decide +kernel
theorem dX7_set_0 : decode cX7_set 0 = .ok (.iload_n 1, 1) := by decide +kernel
theorem dX7_set_1 : decode cX7_set 1 = .ok (.ifCond .ne 31, 3) := by decide +kernel
theorem dX7_set_4 : decode cX7_set 4 = .ok (.iload_n 2, 1) := by decide +kernel
theorem dX7_set_5 : decode cX7_set 5 = .ok (.ifCond .lt 27, 3) := by decide +kernel
theorem dX7_set_8 : decode cX7_set 8 = .ok (.iload_n 2, 1) := by decide +kernel
theorem dX7_set_9 : decode cX7_set 9 = .ok (.bipush 9, 2) := by decide +kernel
theorem dX7_set_11 : decode cX7_set 11 = .ok (.if_icmp .gt 21, 3) := by decide +kernel
theorem dX7_set_14 : decode cX7_set 14 = .ok (.aload_n 0, 1) := by decide +kernel
theorem dX7_set_15 : decode cX7_set 15 = .ok (.getfield 24, 3) := by decide +kernel
theorem dX7_set_18 : decode cX7_set 18 = .ok (.getfield 141, 3) := by decide +kernel
theorem dX7_set_21 : decode cX7_set 21 = .ok (.istore_n 3, 1) := by decide +kernel
theorem dX7_set_22 : decode cX7_set 22 = .ok (.aload_n 0, 1) := by decide +kernel
theorem dX7_set_23 : decode cX7_set 23 = .ok (.getfield 24, 3) := by decide +kernel
theorem dX7_set_26 : decode cX7_set 26 = .ok (.iload_n 2, 1) := by decide +kernel
theorem dX7_set_27 : decode cX7_set 27 = .ok (.putfield 141, 3) := by decide +kernel
theorem dX7_set_30 : decode cX7_set 30 = .ok (.iload_n 3, 1) := by decide +kernel
theorem dX7_set_31 : decode cX7_set 31 = .ok (.ireturn, 1) := by decide +kernel
theorem dX7_set_32 : decode cX7_set 32 = .ok (.iload_n 1, 1) := by decide +kernel
theorem dX7_set_33 : decode cX7_set 33 = .ok (.iconst 1, 1) := by decide +kernel
theorem dX7_set_34 : decode cX7_set 34 = .ok (.if_icmp .ne 32, 3) := by decide +kernel
theorem dX7_set_37 : decode cX7_set 37 = .ok (.iload_n 2, 1) := by decide +kernel
theorem dX7_set_38 : decode cX7_set 38 = .ok (.iconst 1, 1) := by decide +kernel
theorem dX7_set_39 : decode cX7_set 39 = .ok (.if_icmp .lt 27, 3) := by decide +kernel
theorem dX7_set_42 : decode cX7_set 42 = .ok (.iload_n 2, 1) := by decide +kernel
theorem dX7_set_43 : decode cX7_set 43 = .ok (.bipush 9, 2) := by decide +kernel
theorem dX7_set_45 : decode cX7_set 45 = .ok (.if_icmp .gt 21, 3) := by decide +kernel
theorem dX7_set_48 : decode cX7_set 48 = .ok (.aload_n 0, 1) := by decide +kernel
theorem dX7_set_49 : decode cX7_set 49 = .ok (.getfield 24, 3) := by decide +kernel
theorem dX7_set_52 : decode cX7_set 52 = .ok (.getfield 144, 3) := by decide +kernel
theorem dX7_set_55 : decode cX7_set 55 = .ok (.istore_n 3, 1) := by decide +kernel
theorem dX7_set_56 : decode cX7_set 56 = .ok (.aload_n 0, 1) := by decide +kernel
theorem dX7_set_57 : decode cX7_set 57 = .ok (.getfield 24, 3) := by decide +kernel
theorem dX7_set_60 : decode cX7_set 60 = .ok (.iload_n 2, 1) := by decide +kernel
theorem dX7_set_61 : decode cX7_set 61 = .ok (.putfield 144, 3) := by decide +kernel
theorem dX7_set_64 : decode cX7_set 64 = .ok (.iload_n 3, 1) := by decide +kernel
theorem dX7_set_65 : decode cX7_set 65 = .ok (.ireturn, 1) := by decide +kernel
theorem dX7_set_66 : decode cX7_set 66 = .ok (.bipush (-2), 2) := by decide +kernel
theorem dX7_set_68 : decode cX7_set 68 = .ok (.ireturn, 1) := by decide +kernel
theorem dX7_wind_0 : decode cX7_wind 0 = .ok (.aload_n 0, 1) := by decide +kernel
theorem dX7_wind_1 : decode cX7_wind 1 = .ok (.getfield 40, 3) := by decide +kernel
theorem dX7_wind_4 : decode cX7_wind 4 = .ok (.iload_n 1, 1) := by decide +kernel
theorem dX7_wind_5 : decode cX7_wind 5 = .ok (.invokestatic 147, 3) := by decide +kernel
theorem dX7_wind_8 : decode cX7_wind 8 = .ok (.ireturn, 1) := by decide +kernel
theorem dX7_sunday_0 : decode cX7_sunday 0 = .ok (.aload_n 0, 1) := by decide +kernel
theorem dX7_sunday_1 : decode cX7_sunday 1 = .ok (.getfield 44, 3) := by decide +kernel
theorem dX7_sunday_4 : decode cX7_sunday 4 = .ok (.iload_n 1, 1) := by decide +kernel
theorem dX7_sunday_5 : decode cX7_sunday 5 = .ok (.invokestatic 147, 3) := by decide +kernel
theorem dX7_sunday_8 : decode cX7_sunday 8 = .ok (.ireturn, 1) := by decide +kernel
theorem dX7_back_0 : decode cX7_back 0 = .ok (.iload_n 1, 1) := by decide +kernel
theorem dX7_back_1 : decode cX7_back 1 = .ok (.ifCond .eq 11, 3) := by decide +kernel
theorem dX7_back_4 : decode cX7_back 4 = .ok (.iload_n 1, 1) := by decide +kernel
theorem dX7_back_5 : decode cX7_back 5 = .ok (.iconst 1, 1) := by decide +kernel
theorem dX7_back_6 : decode cX7_back 6 = .ok (.if_icmp .eq 6, 3) := by decide +kernel
theorem dX7_back_9 : decode cX7_back 9 = .ok (.bipush (-2), 2) := by decide +kernel
theorem dX7_back_11 : decode cX7_back 11 = .ok (.ireturn, 1) := by decide +kernel
theorem dX7_back_12 : decode cX7_back 12 = .ok (.iload_n 1, 1) := by decide +kernel
theorem dX7_back_13 : decode cX7_back 13 = .ok (.ifCond .ne 10, 3) := by decide +kernel
theorem dX7_back_16 : decode cX7_back 16 = .ok (.aload_n 0, 1) := by decide +kernel
theorem dX7_back_17 : decode cX7_back 17 = .ok (.getfield 40, 3) := by decide +kernel
theorem dX7_back_20 : decode cX7_back 20 = .ok (.goto 7, 3) := by decide +kernel
theorem dX7_back_23 : decode cX7_back 23 = .ok (.aload_n 0, 1) := by decide +kernel
theorem dX7_back_24 : decode cX7_back 24 = .ok (.getfield 44, 3) := by decide +kernel
theorem dX7_back_27 : decode cX7_back 27 = .ok (.astore_n 2, 1) := by decide +kernel
theorem dX7_back_28 : decode cX7_back 28 = .ok (.aload_n 2, 1) := by decide +kernel
theorem dX7_back_29 : decode cX7_back 29 = .ok (.getfield 151, 3) := by decide +kernel
theorem dX7_back_32 : decode cX7_back 32 = .ok (.ifCond .ne 6, 3) := by decide +kernel
theorem dX7_back_35 : decode cX7_back 35 = .ok (.bipush (-3), 2) := by decide +kernel
theorem dX7_back_37 : decode cX7_back 37 = .ok (.ireturn, 1) := by decide +kernel
theorem dX7_back_38 : decode cX7_back 38 = .ok (.aload_n 2, 1) := by decide +kernel
theorem dX7_back_39 : decode cX7_back 39 = .ok (.dup, 1) := by decide +kernel
theorem dX7_back_40 : decode cX7_back 40 = .ok (.getfield 151, 3) := by decide +kernel
theorem dX7_back_43 : decode cX7_back 43 = .ok (.iconst 1, 1) := by decide +kernel
theorem dX7_back_44 : decode cX7_back 44 = .ok (.isub, 1) := by decide +kernel
theorem dX7_back_45 : decode cX7_back 45 = .ok (.putfield 151, 3) := by decide +kernel
theorem dX7_back_48 : decode cX7_back 48 = .ok (.aload_n 2, 1) := by decide +kernel
theorem dX7_back_49 : decode cX7_back 49 = .ok (.getfield 151, 3) := by decide +kernel
theorem dX7_back_52 : decode cX7_back 52 = .ok (.ireturn, 1) := by decide +kernel
theorem dX7_read_0 : decode cX7_read 0 = .ok (.iload_n 1, 1) := by decide +kernel
theorem dX7_read_1 : decode cX7_read 1 = .ok (.invokestatic 152, 3) := by decide +kernel
theorem dX7_read_4 : decode cX7_read 4 = .ok (.ifCond .ne 6, 3) := by decide +kernel
theorem dX7_read_7 : decode cX7_read 7 = .ok (.bipush (-2), 2) := by decide +kernel
theorem dX7_read_9 : decode cX7_read 9 = .ok (.ireturn, 1) := by decide +kernel
theorem dX7_read_10 : decode cX7_read 10 = .ok (.aload_n 0, 1) := by decide +kernel
theorem dX7_read_11 : decode cX7_read 11 = .ok (.getfield 57, 3) := by decide +kernel
theorem dX7_read_14 : decode cX7_read 14 = .ok (.iload_n 1, 1) := by decide +kernel
theorem dX7_read_15 : decode cX7_read 15 = .ok (.invokevirtual 155, 3) := by decide +kernel
theorem dX7_read_18 : decode cX7_read 18 = .ok (.ifCond .eq 9, 3) := by decide +kernel
theorem dX7_read_21 : decode cX7_read 21 = .ok (.aload_n 0, 1) := by decide +kernel
theorem dX7_read_22 : decode cX7_read 22 = .ok (.iconst 1, 1) := by decide +kernel
theorem dX7_read_23 : decode cX7_read 23 = .ok (.invokevirtual 158, 3) := by decide +kernel
theorem dX7_read_26 : decode cX7_read 26 = .ok (.ireturn, 1) := by decide +kernel
theorem dX7_read_27 : decode cX7_read 27 = .ok (.iconst 0, 1) := by decide +kernel
theorem dX7_read_28 : decode cX7_read 28 = .ok (.istore_n 2, 1) := by decide +kernel
theorem dX7_read_29 : decode cX7_read 29 = .ok (.iload_n 2, 1) := by decide +kernel
theorem dX7_read_30 : decode cX7_read 30 = .ok (.aload_n 0, 1) := by decide +kernel
theorem dX7_read_31 : decode cX7_read 31 = .ok (.getfield 57, 3) := by decide +kernel
theorem dX7_read_34 : decode cX7_read 34 = .ok (.getfield 161, 3) := by decide +kernel
theorem dX7_read_37 : decode cX7_read 37 = .ok (.iload_n 1, 1) := by decide +kernel
theorem dX7_read_38 : decode cX7_read 38 = .ok (.iaload, 1) := by decide +kernel
theorem dX7_read_39 : decode cX7_read 39 = .ok (.if_icmp .ge 28, 3) := by decide +kernel
theorem dX7_read_42 : decode cX7_read 42 = .ok (.aload_n 0, 1) := by decide +kernel
theorem dX7_read_43 : decode cX7_read 43 = .ok (.getfield 40, 3) := by decide +kernel
theorem dX7_read_46 : decode cX7_read 46 = .ok (.aload_n 0, 1) := by decide +kernel
theorem dX7_read_47 : decode cX7_read 47 = .ok (.getfield 57, 3) := by decide +kernel
theorem dX7_read_50 : decode cX7_read 50 = .ok (.iload_n 1, 1) := by decide +kernel
theorem dX7_read_51 : decode cX7_read 51 = .ok (.iload_n 2, 1) := by decide +kernel
theorem dX7_read_52 : decode cX7_read 52 = .ok (.invokevirtual 163, 3) := by decide +kernel
theorem dX7_read_55 : decode cX7_read 55 = .ok (.invokestatic 147, 3) := by decide +kernel
theorem dX7_read_58 : decode cX7_read 58 = .ok (.ifCond .lt 9, 3) := by decide +kernel
theorem dX7_read_61 : decode cX7_read 61 = .ok (.iinc 2 1, 3) := by decide +kernel
theorem dX7_read_64 : decode cX7_read 64 = .ok (.goto (-35), 3) := by decide +kernel
theorem dX7_read_67 : decode cX7_read 67 = .ok (.iload_n 2, 1) := by decide +kernel
theorem dX7_read_68 : decode cX7_read 68 = .ok (.ireturn, 1) := by decide +kernel
theorem dX7_at_0 : decode cX7_at 0 = .ok (.iload_n 1, 1) := by decide +kernel
theorem dX7_at_1 : decode cX7_at 1 = .ok (.invokestatic 166, 3) := by decide +kernel
theorem dX7_at_4 : decode cX7_at 4 = .ok (.ifCond .eq 20, 3) := by decide +kernel
theorem dX7_at_7 : decode cX7_at 7 = .ok (.aload_n 0, 1) := by decide +kernel
theorem dX7_at_8 : decode cX7_at 8 = .ok (.iload_n 2, 1) := by decide +kernel
theorem dX7_at_9 : decode cX7_at 9 = .ok (.invokevirtual 125, 3) := by decide +kernel
theorem dX7_at_12 : decode cX7_at 12 = .ok (.ifCond .eq 12, 3) := by decide +kernel
theorem dX7_at_15 : decode cX7_at 15 = .ok (.iload_n 3, 1) := by decide +kernel
theorem dX7_at_16 : decode cX7_at 16 = .ok (.ifCond .lt 8, 3) := by decide +kernel
theorem dX7_at_19 : decode cX7_at 19 = .ok (.iload_n 3, 1) := by decide +kernel
theorem dX7_at_20 : decode cX7_at 20 = .ok (.iconst 3, 1) := by decide +kernel
theorem dX7_at_21 : decode cX7_at 21 = .ok (.if_icmp .le 6, 3) := by decide +kernel
theorem dX7_at_24 : decode cX7_at 24 = .ok (.bipush (-2), 2) := by decide +kernel
theorem dX7_at_26 : decode cX7_at 26 = .ok (.ireturn, 1) := by decide +kernel
theorem dX7_at_27 : decode cX7_at 27 = .ok (.aload_n 0, 1) := by decide +kernel
theorem dX7_at_28 : decode cX7_at 28 = .ok (.getfield 33, 3) := by decide +kernel
theorem dX7_at_31 : decode cX7_at 31 = .ok (.aload_n 0, 1) := by decide +kernel
theorem dX7_at_32 : decode cX7_at 32 = .ok (.getfield 40, 3) := by decide +kernel
theorem dX7_at_35 : decode cX7_at 35 = .ok (.invokevirtual 169, 3) := by decide +kernel
theorem dX7_at_38 : decode cX7_at 38 = .ok (.aload_n 0, 1) := by decide +kernel
theorem dX7_at_39 : decode cX7_at 39 = .ok (.getfield 44, 3) := by decide +kernel
theorem dX7_at_42 : decode cX7_at 42 = .ok (.invokevirtual 169, 3) := by decide +kernel
theorem dX7_at_45 : decode cX7_at 45 = .ok (.iload_n 1, 1) := by decide +kernel
theorem dX7_at_46 : decode cX7_at 46 = .ok (.invokevirtual 173, 3) := by decide +kernel
theorem dX7_at_49 : decode cX7_at 49 = .ok (.iload_n 3, 1) := by decide +kernel
theorem dX7_at_50 : decode cX7_at 50 = .ok (.tableswitch 55 0 2 #[26, 36, 46], 26) := by decide +kernel
theorem dX7_at_76 : decode cX7_at 76 = .ok (.aload_n 0, 1) := by decide +kernel
theorem dX7_at_77 : decode cX7_at 77 = .ok (.getfield 33, 3) := by decide +kernel
theorem dX7_at_80 : decode cX7_at 80 = .ok (.getfield 177, 3) := by decide +kernel
theorem dX7_at_83 : decode cX7_at 83 = .ok (.iload_n 2, 1) := by decide +kernel
theorem dX7_at_84 : decode cX7_at 84 = .ok (.iaload, 1) := by decide +kernel
theorem dX7_at_85 : decode cX7_at 85 = .ok (.ireturn, 1) := by decide +kernel
theorem dX7_at_86 : decode cX7_at 86 = .ok (.aload_n 0, 1) := by decide +kernel
theorem dX7_at_87 : decode cX7_at 87 = .ok (.getfield 33, 3) := by decide +kernel
theorem dX7_at_90 : decode cX7_at 90 = .ok (.getfield 180, 3) := by decide +kernel
theorem dX7_at_93 : decode cX7_at 93 = .ok (.iload_n 2, 1) := by decide +kernel
theorem dX7_at_94 : decode cX7_at 94 = .ok (.iaload, 1) := by decide +kernel
theorem dX7_at_95 : decode cX7_at 95 = .ok (.ireturn, 1) := by decide +kernel
theorem dX7_at_96 : decode cX7_at 96 = .ok (.aload_n 0, 1) := by decide +kernel
theorem dX7_at_97 : decode cX7_at 97 = .ok (.getfield 33, 3) := by decide +kernel
theorem dX7_at_100 : decode cX7_at 100 = .ok (.iload_n 2, 1) := by decide +kernel
theorem dX7_at_101 : decode cX7_at 101 = .ok (.invokevirtual 181, 3) := by decide +kernel
theorem dX7_at_104 : decode cX7_at 104 = .ok (.ireturn, 1) := by decide +kernel
theorem dX7_at_105 : decode cX7_at 105 = .ok (.aload_n 0, 1) := by decide +kernel
theorem dX7_at_106 : decode cX7_at 106 = .ok (.getfield 33, 3) := by decide +kernel
theorem dX7_at_109 : decode cX7_at 109 = .ok (.getfield 183, 3) := by decide +kernel
theorem dX7_at_112 : decode cX7_at 112 = .ok (.iload_n 2, 1) := by decide +kernel
theorem dX7_at_113 : decode cX7_at 113 = .ok (.iaload, 1) := by decide +kernel
theorem dX7_at_114 : decode cX7_at 114 = .ok (.ireturn, 1) := by decide +kernel
theorem dX7_note_0 : decode cX7_note 0 = .ok (.aload_n 0, 1) := by decide +kernel
theorem dX7_note_1 : decode cX7_note 1 = .ok (.iload_n 1, 1) := by decide +kernel
theorem dX7_note_2 : decode cX7_note 2 = .ok (.invokevirtual 125, 3) := by decide +kernel
theorem dX7_note_5 : decode cX7_note 5 = .ok (.ifCond .eq 13, 3) := by decide +kernel
theorem dX7_note_8 : decode cX7_note 8 = .ok (.iload_n 2, 1) := by decide +kernel
theorem dX7_note_9 : decode cX7_note 9 = .ok (.ifCond .lt 9, 3) := by decide +kernel
theorem dX7_note_12 : decode cX7_note 12 = .ok (.iload_n 2, 1) := by decide +kernel
theorem dX7_note_13 : decode cX7_note 13 = .ok (.bipush 12, 2) := by decide +kernel
theorem dX7_note_15 : decode cX7_note 15 = .ok (.if_icmp .lt 6, 3) := by decide +kernel
theorem dX7_note_18 : decode cX7_note 18 = .ok (.bipush (-2), 2) := by decide +kernel
theorem dX7_note_20 : decode cX7_note 20 = .ok (.ireturn, 1) := by decide +kernel
theorem dX7_note_21 : decode cX7_note 21 = .ok (.aload_n 0, 1) := by decide +kernel
theorem dX7_note_22 : decode cX7_note 22 = .ok (.invokevirtual 186, 3) := by decide +kernel
theorem dX7_note_25 : decode cX7_note 25 = .ok (.aload_n 0, 1) := by decide +kernel
theorem dX7_note_26 : decode cX7_note 26 = .ok (.getfield 33, 3) := by decide +kernel
theorem dX7_note_29 : decode cX7_note 29 = .ok (.iload_n 1, 1) := by decide +kernel
theorem dX7_note_30 : decode cX7_note 30 = .ok (.iload_n 2, 1) := by decide +kernel
theorem dX7_note_31 : decode cX7_note 31 = .ok (.invokevirtual 189, 3) := by decide +kernel
theorem dX7_note_34 : decode cX7_note 34 = .ok (.ireturn, 1) := by decide +kernel
theorem dX7_comes_0 : decode cX7_comes 0 = .ok (.aload_n 0, 1) := by decide +kernel
theorem dX7_comes_1 : decode cX7_comes 1 = .ok (.iload_n 1, 1) := by decide +kernel
theorem dX7_comes_2 : decode cX7_comes 2 = .ok (.invokevirtual 125, 3) := by decide +kernel
theorem dX7_comes_5 : decode cX7_comes 5 = .ok (.ifCond .ne 6, 3) := by decide +kernel
theorem dX7_comes_8 : decode cX7_comes 8 = .ok (.bipush (-2), 2) := by decide +kernel
theorem dX7_comes_10 : decode cX7_comes 10 = .ok (.ireturn, 1) := by decide +kernel
theorem dX7_comes_11 : decode cX7_comes 11 = .ok (.aload_n 0, 1) := by decide +kernel
theorem dX7_comes_12 : decode cX7_comes 12 = .ok (.invokevirtual 186, 3) := by decide +kernel
theorem dX7_comes_15 : decode cX7_comes 15 = .ok (.aload_n 0, 1) := by decide +kernel
theorem dX7_comes_16 : decode cX7_comes 16 = .ok (.getfield 33, 3) := by decide +kernel
theorem dX7_comes_19 : decode cX7_comes 19 = .ok (.getfield 192, 3) := by decide +kernel
theorem dX7_comes_22 : decode cX7_comes 22 = .ok (.iload_n 1, 1) := by decide +kernel
theorem dX7_comes_23 : decode cX7_comes 23 = .ok (.iaload, 1) := by decide +kernel
theorem dX7_comes_24 : decode cX7_comes 24 = .ok (.ireturn, 1) := by decide +kernel
theorem dX7_bites_0 : decode cX7_bites 0 = .ok (.aload_n 0, 1) := by decide +kernel
theorem dX7_bites_1 : decode cX7_bites 1 = .ok (.iload_n 1, 1) := by decide +kernel
theorem dX7_bites_2 : decode cX7_bites 2 = .ok (.invokevirtual 113, 3) := by decide +kernel
theorem dX7_bites_5 : decode cX7_bites 5 = .ok (.ifCond .eq 12, 3) := by decide +kernel
theorem dX7_bites_8 : decode cX7_bites 8 = .ok (.iload_n 2, 1) := by decide +kernel
theorem dX7_bites_9 : decode cX7_bites 9 = .ok (.ifCond .eq 11, 3) := by decide +kernel
theorem dX7_bites_12 : decode cX7_bites 12 = .ok (.iload_n 2, 1) := by decide +kernel
theorem dX7_bites_13 : decode cX7_bites 13 = .ok (.iconst 1, 1) := by decide +kernel
theorem dX7_bites_14 : decode cX7_bites 14 = .ok (.if_icmp .eq 6, 3) := by decide +kernel
theorem dX7_bites_17 : decode cX7_bites 17 = .ok (.bipush (-2), 2) := by decide +kernel
theorem dX7_bites_19 : decode cX7_bites 19 = .ok (.ireturn, 1) := by decide +kernel
theorem dX7_bites_20 : decode cX7_bites 20 = .ok (.aload_n 0, 1) := by decide +kernel
theorem dX7_bites_21 : decode cX7_bites 21 = .ok (.invokevirtual 186, 3) := by decide +kernel
theorem dX7_bites_24 : decode cX7_bites 24 = .ok (.iload_n 2, 1) := by decide +kernel
theorem dX7_bites_25 : decode cX7_bites 25 = .ok (.ifCond .ne 15, 3) := by decide +kernel
theorem dX7_bites_28 : decode cX7_bites 28 = .ok (.aload_n 0, 1) := by decide +kernel
theorem dX7_bites_29 : decode cX7_bites 29 = .ok (.getfield 33, 3) := by decide +kernel
theorem dX7_bites_32 : decode cX7_bites 32 = .ok (.getfield 195, 3) := by decide +kernel
theorem dX7_bites_35 : decode cX7_bites 35 = .ok (.iload_n 1, 1) := by decide +kernel
theorem dX7_bites_36 : decode cX7_bites 36 = .ok (.iaload, 1) := by decide +kernel
theorem dX7_bites_37 : decode cX7_bites 37 = .ok (.goto 12, 3) := by decide +kernel
theorem dX7_bites_40 : decode cX7_bites 40 = .ok (.aload_n 0, 1) := by decide +kernel
theorem dX7_bites_41 : decode cX7_bites 41 = .ok (.getfield 33, 3) := by decide +kernel
theorem dX7_bites_44 : decode cX7_bites 44 = .ok (.getfield 198, 3) := by decide +kernel
theorem dX7_bites_47 : decode cX7_bites 47 = .ok (.iload_n 1, 1) := by decide +kernel
theorem dX7_bites_48 : decode cX7_bites 48 = .ok (.iaload, 1) := by decide +kernel
theorem dX7_bites_49 : decode cX7_bites 49 = .ok (.ireturn, 1) := by decide +kernel
theorem dX7_famine_0 : decode cX7_famine 0 = .ok (.aload_n 0, 1) := by decide +kernel
theorem dX7_famine_1 : decode cX7_famine 1 = .ok (.invokevirtual 186, 3) := by decide +kernel
theorem dX7_famine_4 : decode cX7_famine 4 = .ok (.aload_n 0, 1) := by decide +kernel
theorem dX7_famine_5 : decode cX7_famine 5 = .ok (.getfield 24, 3) := by decide +kernel
theorem dX7_famine_8 : decode cX7_famine 8 = .ok (.invokevirtual 201, 3) := by decide +kernel
theorem dX7_famine_11 : decode cX7_famine 11 = .ok (.aload_n 0, 1) := by decide +kernel
theorem dX7_famine_12 : decode cX7_famine 12 = .ok (.getfield 33, 3) := by decide +kernel
theorem dX7_famine_15 : decode cX7_famine 15 = .ok (.invokevirtual 205, 3) := by decide +kernel
theorem dX7_famine_18 : decode cX7_famine 18 = .ok (.isub, 1) := by decide +kernel
theorem dX7_famine_19 : decode cX7_famine 19 = .ok (.ireturn, 1) := by decide +kernel
theorem dX7_first_0 : decode cX7_first 0 = .ok (.iload_n 1, 1) := by decide +kernel
theorem dX7_first_1 : decode cX7_first 1 = .ok (.ifCond .eq 11, 3) := by decide +kernel
theorem dX7_first_4 : decode cX7_first 4 = .ok (.iload_n 1, 1) := by decide +kernel
theorem dX7_first_5 : decode cX7_first 5 = .ok (.iconst 1, 1) := by decide +kernel
theorem dX7_first_6 : decode cX7_first 6 = .ok (.if_icmp .eq 6, 3) := by decide +kernel
theorem dX7_first_9 : decode cX7_first 9 = .ok (.bipush (-2), 2) := by decide +kernel
theorem dX7_first_11 : decode cX7_first 11 = .ok (.ireturn, 1) := by decide +kernel
theorem dX7_first_12 : decode cX7_first 12 = .ok (.aload_n 0, 1) := by decide +kernel
theorem dX7_first_13 : decode cX7_first 13 = .ok (.invokevirtual 186, 3) := by decide +kernel
theorem dX7_first_16 : decode cX7_first 16 = .ok (.iload_n 1, 1) := by decide +kernel
theorem dX7_first_17 : decode cX7_first 17 = .ok (.ifCond .ne 13, 3) := by decide +kernel
theorem dX7_first_20 : decode cX7_first 20 = .ok (.aload_n 0, 1) := by decide +kernel
theorem dX7_first_21 : decode cX7_first 21 = .ok (.getfield 33, 3) := by decide +kernel
theorem dX7_first_24 : decode cX7_first 24 = .ok (.getfield 208, 3) := by decide +kernel
theorem dX7_first_27 : decode cX7_first 27 = .ok (.goto 10, 3) := by decide +kernel
theorem dX7_first_30 : decode cX7_first 30 = .ok (.aload_n 0, 1) := by decide +kernel
theorem dX7_first_31 : decode cX7_first 31 = .ok (.getfield 33, 3) := by decide +kernel
theorem dX7_first_34 : decode cX7_first 34 = .ok (.getfield 211, 3) := by decide +kernel
theorem dX7_first_37 : decode cX7_first 37 = .ok (.ireturn, 1) := by decide +kernel
theorem dX7_greedy_0 : decode cX7_greedy 0 = .ok (.aload_n 0, 1) := by decide +kernel
theorem dX7_greedy_1 : decode cX7_greedy 1 = .ok (.invokevirtual 186, 3) := by decide +kernel
theorem dX7_greedy_4 : decode cX7_greedy 4 = .ok (.aload_n 0, 1) := by decide +kernel
theorem dX7_greedy_5 : decode cX7_greedy 5 = .ok (.getfield 64, 3) := by decide +kernel
theorem dX7_greedy_8 : decode cX7_greedy 8 = .ok (.invokevirtual 214, 3) := by decide +kernel
theorem dX7_greedy_11 : decode cX7_greedy 11 = .ok (.iconst 0, 1) := by decide +kernel
theorem dX7_greedy_12 : decode cX7_greedy 12 = .ok (.istore_n 1, 1) := by decide +kernel
theorem dX7_greedy_13 : decode cX7_greedy 13 = .ok (.iload_n 1, 1) := by decide +kernel
theorem dX7_greedy_14 : decode cX7_greedy 14 = .ok (.aload_n 0, 1) := by decide +kernel
theorem dX7_greedy_15 : decode cX7_greedy 15 = .ok (.getfield 24, 3) := by decide +kernel
theorem dX7_greedy_18 : decode cX7_greedy 18 = .ok (.getfield 217, 3) := by decide +kernel
theorem dX7_greedy_21 : decode cX7_greedy 21 = .ok (.if_icmp .ge 26, 3) := by decide +kernel
theorem dX7_greedy_24 : decode cX7_greedy 24 = .ok (.aload_n 0, 1) := by decide +kernel
theorem dX7_greedy_25 : decode cX7_greedy 25 = .ok (.getfield 64, 3) := by decide +kernel
theorem dX7_greedy_28 : decode cX7_greedy 28 = .ok (.iload_n 1, 1) := by decide +kernel
theorem dX7_greedy_29 : decode cX7_greedy 29 = .ok (.aload_n 0, 1) := by decide +kernel
theorem dX7_greedy_30 : decode cX7_greedy 30 = .ok (.getfield 33, 3) := by decide +kernel
theorem dX7_greedy_33 : decode cX7_greedy 33 = .ok (.getfield 198, 3) := by decide +kernel
theorem dX7_greedy_36 : decode cX7_greedy 36 = .ok (.iload_n 1, 1) := by decide +kernel
theorem dX7_greedy_37 : decode cX7_greedy 37 = .ok (.iaload, 1) := by decide +kernel
theorem dX7_greedy_38 : decode cX7_greedy 38 = .ok (.invokevirtual 220, 3) := by decide +kernel
theorem dX7_greedy_41 : decode cX7_greedy 41 = .ok (.iinc 1 1, 3) := by decide +kernel
theorem dX7_greedy_44 : decode cX7_greedy 44 = .ok (.goto (-31), 3) := by decide +kernel
theorem dX7_greedy_47 : decode cX7_greedy 47 = .ok (.aload_n 0, 1) := by decide +kernel
theorem dX7_greedy_48 : decode cX7_greedy 48 = .ok (.getfield 64, 3) := by decide +kernel
theorem dX7_greedy_51 : decode cX7_greedy 51 = .ok (.getfield 224, 3) := by decide +kernel
theorem dX7_greedy_54 : decode cX7_greedy 54 = .ok (.ireturn, 1) := by decide +kernel
theorem dX7_send_0 : decode cX7_send 0 = .ok (.aload_n 0, 1) := by decide +kernel
theorem dX7_send_1 : decode cX7_send 1 = .ok (.iload_n 1, 1) := by decide +kernel
theorem dX7_send_2 : decode cX7_send 2 = .ok (.invokevirtual 125, 3) := by decide +kernel
theorem dX7_send_5 : decode cX7_send 5 = .ok (.ifCond .eq 12, 3) := by decide +kernel
theorem dX7_send_8 : decode cX7_send 8 = .ok (.iload_n 2, 1) := by decide +kernel
theorem dX7_send_9 : decode cX7_send 9 = .ok (.ifCond .eq 11, 3) := by decide +kernel
theorem dX7_send_12 : decode cX7_send 12 = .ok (.iload_n 2, 1) := by decide +kernel
theorem dX7_send_13 : decode cX7_send 13 = .ok (.iconst 1, 1) := by decide +kernel
theorem dX7_send_14 : decode cX7_send 14 = .ok (.if_icmp .eq 6, 3) := by decide +kernel
theorem dX7_send_17 : decode cX7_send 17 = .ok (.bipush (-2), 2) := by decide +kernel
theorem dX7_send_19 : decode cX7_send 19 = .ok (.ireturn, 1) := by decide +kernel
theorem dX7_send_20 : decode cX7_send 20 = .ok (.aload_n 0, 1) := by decide +kernel
theorem dX7_send_21 : decode cX7_send 21 = .ok (.iload_n 1, 1) := by decide +kernel
theorem dX7_send_22 : decode cX7_send 22 = .ok (.invokevirtual 227, 3) := by decide +kernel
theorem dX7_send_25 : decode cX7_send 25 = .ok (.iload_n 2, 1) := by decide +kernel
theorem dX7_send_26 : decode cX7_send 26 = .ok (.ifCond .ne 13, 3) := by decide +kernel
theorem dX7_send_29 : decode cX7_send 29 = .ok (.aload_n 0, 1) := by decide +kernel
theorem dX7_send_30 : decode cX7_send 30 = .ok (.getfield 64, 3) := by decide +kernel
theorem dX7_send_33 : decode cX7_send 33 = .ok (.getfield 224, 3) := by decide +kernel
theorem dX7_send_36 : decode cX7_send 36 = .ok (.goto 10, 3) := by decide +kernel
theorem dX7_send_39 : decode cX7_send 39 = .ok (.aload_n 0, 1) := by decide +kernel
theorem dX7_send_40 : decode cX7_send 40 = .ok (.getfield 64, 3) := by decide +kernel
theorem dX7_send_43 : decode cX7_send 43 = .ok (.getfield 230, 3) := by decide +kernel
theorem dX7_send_46 : decode cX7_send 46 = .ok (.ireturn, 1) := by decide +kernel
theorem dX7_loaf_0 : decode cX7_loaf 0 = .ok (.aload_n 0, 1) := by decide +kernel
theorem dX7_loaf_1 : decode cX7_loaf 1 = .ok (.iload_n 1, 1) := by decide +kernel
theorem dX7_loaf_2 : decode cX7_loaf 2 = .ok (.invokevirtual 125, 3) := by decide +kernel
theorem dX7_loaf_5 : decode cX7_loaf 5 = .ok (.ifCond .eq 10, 3) := by decide +kernel
theorem dX7_loaf_8 : decode cX7_loaf 8 = .ok (.iload_n 2, 1) := by decide +kernel
theorem dX7_loaf_9 : decode cX7_loaf 9 = .ok (.invokestatic 233, 3) := by decide +kernel
theorem dX7_loaf_12 : decode cX7_loaf 12 = .ok (.ifCond .ne 6, 3) := by decide +kernel
theorem dX7_loaf_15 : decode cX7_loaf 15 = .ok (.bipush (-2), 2) := by decide +kernel
theorem dX7_loaf_17 : decode cX7_loaf 17 = .ok (.ireturn, 1) := by decide +kernel
theorem dX7_loaf_18 : decode cX7_loaf 18 = .ok (.aload_n 0, 1) := by decide +kernel
theorem dX7_loaf_19 : decode cX7_loaf 19 = .ok (.getfield 24, 3) := by decide +kernel
theorem dX7_loaf_22 : decode cX7_loaf 22 = .ok (.getfield 131, 3) := by decide +kernel
theorem dX7_loaf_25 : decode cX7_loaf 25 = .ok (.iload_n 1, 1) := by decide +kernel
theorem dX7_loaf_26 : decode cX7_loaf 26 = .ok (.iaload, 1) := by decide +kernel
theorem dX7_loaf_27 : decode cX7_loaf 27 = .ok (.istore_n 3, 1) := by decide +kernel
theorem dX7_loaf_28 : decode cX7_loaf 28 = .ok (.iconst (-1), 1) := by decide +kernel
theorem dX7_loaf_29 : decode cX7_loaf 29 = .ok (.istore 4, 2) := by decide +kernel
theorem dX7_loaf_31 : decode cX7_loaf 31 = .ok (.iload_n 2, 1) := by decide +kernel
theorem dX7_loaf_32 : decode cX7_loaf 32 = .ok (.istore 5, 2) := by decide +kernel
theorem dX7_loaf_34 : decode cX7_loaf 34 = .ok (.iload 5, 2) := by decide +kernel
theorem dX7_loaf_36 : decode cX7_loaf 36 = .ok (.bipush 100, 2) := by decide +kernel
theorem dX7_loaf_38 : decode cX7_loaf 38 = .ok (.if_icmp .ge 46, 3) := by decide +kernel
theorem dX7_loaf_41 : decode cX7_loaf 41 = .ok (.iload 4, 2) := by decide +kernel
theorem dX7_loaf_43 : decode cX7_loaf 43 = .ok (.iconst (-1), 1) := by decide +kernel
theorem dX7_loaf_44 : decode cX7_loaf 44 = .ok (.if_icmp .ne 40, 3) := by decide +kernel
theorem dX7_loaf_47 : decode cX7_loaf 47 = .ok (.aload_n 0, 1) := by decide +kernel
theorem dX7_loaf_48 : decode cX7_loaf 48 = .ok (.getfield 24, 3) := by decide +kernel
theorem dX7_loaf_51 : decode cX7_loaf 51 = .ok (.getfield 131, 3) := by decide +kernel
theorem dX7_loaf_54 : decode cX7_loaf 54 = .ok (.iload_n 1, 1) := by decide +kernel
theorem dX7_loaf_55 : decode cX7_loaf 55 = .ok (.iload 5, 2) := by decide +kernel
theorem dX7_loaf_57 : decode cX7_loaf 57 = .ok (.iastore, 1) := by decide +kernel
theorem dX7_loaf_58 : decode cX7_loaf 58 = .ok (.aload_n 0, 1) := by decide +kernel
theorem dX7_loaf_59 : decode cX7_loaf 59 = .ok (.invokevirtual 186, 3) := by decide +kernel
theorem dX7_loaf_62 : decode cX7_loaf 62 = .ok (.aload_n 0, 1) := by decide +kernel
theorem dX7_loaf_63 : decode cX7_loaf 63 = .ok (.getfield 33, 3) := by decide +kernel
theorem dX7_loaf_66 : decode cX7_loaf 66 = .ok (.iload_n 1, 1) := by decide +kernel
theorem dX7_loaf_67 : decode cX7_loaf 67 = .ok (.iload_n 2, 1) := by decide +kernel
theorem dX7_loaf_68 : decode cX7_loaf 68 = .ok (.invokevirtual 236, 3) := by decide +kernel
theorem dX7_loaf_71 : decode cX7_loaf 71 = .ok (.ifCond .eq 7, 3) := by decide +kernel
theorem dX7_loaf_74 : decode cX7_loaf 74 = .ok (.iload 5, 2) := by decide +kernel
theorem dX7_loaf_76 : decode cX7_loaf 76 = .ok (.istore 4, 2) := by decide +kernel
theorem dX7_loaf_78 : decode cX7_loaf 78 = .ok (.iinc 5 1, 3) := by decide +kernel
theorem dX7_loaf_81 : decode cX7_loaf 81 = .ok (.goto (-47), 3) := by decide +kernel
theorem dX7_loaf_84 : decode cX7_loaf 84 = .ok (.aload_n 0, 1) := by decide +kernel
theorem dX7_loaf_85 : decode cX7_loaf 85 = .ok (.getfield 24, 3) := by decide +kernel
theorem dX7_loaf_88 : decode cX7_loaf 88 = .ok (.getfield 131, 3) := by decide +kernel
theorem dX7_loaf_91 : decode cX7_loaf 91 = .ok (.iload_n 1, 1) := by decide +kernel
theorem dX7_loaf_92 : decode cX7_loaf 92 = .ok (.iload_n 3, 1) := by decide +kernel
theorem dX7_loaf_93 : decode cX7_loaf 93 = .ok (.iastore, 1) := by decide +kernel
theorem dX7_loaf_94 : decode cX7_loaf 94 = .ok (.iload 4, 2) := by decide +kernel
theorem dX7_loaf_96 : decode cX7_loaf 96 = .ok (.ireturn, 1) := by decide +kernel
theorem dX7_feed_0 : decode cX7_feed 0 = .ok (.aload_n 0, 1) := by decide +kernel
theorem dX7_feed_1 : decode cX7_feed 1 = .ok (.iload_n 1, 1) := by decide +kernel
theorem dX7_feed_2 : decode cX7_feed 2 = .ok (.invokevirtual 125, 3) := by decide +kernel
theorem dX7_feed_5 : decode cX7_feed 5 = .ok (.ifCond .eq 13, 3) := by decide +kernel
theorem dX7_feed_8 : decode cX7_feed 8 = .ok (.iload_n 2, 1) := by decide +kernel
theorem dX7_feed_9 : decode cX7_feed 9 = .ok (.iconst (-1), 1) := by decide +kernel
theorem dX7_feed_10 : decode cX7_feed 10 = .ok (.if_icmp .lt 8, 3) := by decide +kernel
theorem dX7_feed_13 : decode cX7_feed 13 = .ok (.iload_n 2, 1) := by decide +kernel
theorem dX7_feed_14 : decode cX7_feed 14 = .ok (.iconst 2, 1) := by decide +kernel
theorem dX7_feed_15 : decode cX7_feed 15 = .ok (.if_icmp .lt 6, 3) := by decide +kernel
theorem dX7_feed_18 : decode cX7_feed 18 = .ok (.bipush (-2), 2) := by decide +kernel
theorem dX7_feed_20 : decode cX7_feed 20 = .ok (.ireturn, 1) := by decide +kernel
theorem dX7_feed_21 : decode cX7_feed 21 = .ok (.aload_n 0, 1) := by decide +kernel
theorem dX7_feed_22 : decode cX7_feed 22 = .ok (.iload_n 1, 1) := by decide +kernel
theorem dX7_feed_23 : decode cX7_feed 23 = .ok (.invokevirtual 240, 3) := by decide +kernel
theorem dX7_feed_26 : decode cX7_feed 26 = .ok (.iload_n 2, 1) := by decide +kernel
theorem dX7_feed_27 : decode cX7_feed 27 = .ok (.iconst (-1), 1) := by decide +kernel
theorem dX7_feed_28 : decode cX7_feed 28 = .ok (.if_icmp .ne 10, 3) := by decide +kernel
theorem dX7_feed_31 : decode cX7_feed 31 = .ok (.aload_n 0, 1) := by decide +kernel
theorem dX7_feed_32 : decode cX7_feed 32 = .ok (.getfield 72, 3) := by decide +kernel
theorem dX7_feed_35 : decode cX7_feed 35 = .ok (.goto 8, 3) := by decide +kernel
theorem dX7_feed_38 : decode cX7_feed 38 = .ok (.aload_n 0, 1) := by decide +kernel
theorem dX7_feed_39 : decode cX7_feed 39 = .ok (.iload_n 2, 1) := by decide +kernel
theorem dX7_feed_40 : decode cX7_feed 40 = .ok (.invokevirtual 243, 3) := by decide +kernel
theorem dX7_feed_43 : decode cX7_feed 43 = .ok (.ireturn, 1) := by decide +kernel
theorem dX7_still_0 : decode cX7_still 0 = .ok (.iload_n 1, 1) := by decide +kernel
theorem dX7_still_1 : decode cX7_still 1 = .ok (.ifCond .eq 11, 3) := by decide +kernel
theorem dX7_still_4 : decode cX7_still 4 = .ok (.iload_n 1, 1) := by decide +kernel
theorem dX7_still_5 : decode cX7_still 5 = .ok (.iconst 1, 1) := by decide +kernel
theorem dX7_still_6 : decode cX7_still 6 = .ok (.if_icmp .eq 6, 3) := by decide +kernel
theorem dX7_still_9 : decode cX7_still 9 = .ok (.bipush (-2), 2) := by decide +kernel
theorem dX7_still_11 : decode cX7_still 11 = .ok (.ireturn, 1) := by decide +kernel
theorem dX7_still_12 : decode cX7_still 12 = .ok (.aload_n 0, 1) := by decide +kernel
theorem dX7_still_13 : decode cX7_still 13 = .ok (.invokevirtual 246, 3) := by decide +kernel
theorem dX7_still_16 : decode cX7_still 16 = .ok (.iload_n 1, 1) := by decide +kernel
theorem dX7_still_17 : decode cX7_still 17 = .ok (.ifCond .ne 13, 3) := by decide +kernel
theorem dX7_still_20 : decode cX7_still 20 = .ok (.aload_n 0, 1) := by decide +kernel
theorem dX7_still_21 : decode cX7_still 21 = .ok (.getfield 64, 3) := by decide +kernel
theorem dX7_still_24 : decode cX7_still 24 = .ok (.getfield 224, 3) := by decide +kernel
theorem dX7_still_27 : decode cX7_still 27 = .ok (.goto 10, 3) := by decide +kernel
theorem dX7_still_30 : decode cX7_still 30 = .ok (.aload_n 0, 1) := by decide +kernel
theorem dX7_still_31 : decode cX7_still 31 = .ok (.getfield 64, 3) := by decide +kernel
theorem dX7_still_34 : decode cX7_still 34 = .ok (.getfield 230, 3) := by decide +kernel
theorem dX7_still_37 : decode cX7_still 37 = .ok (.ireturn, 1) := by decide +kernel
theorem dX7_seen_0 : decode cX7_seen 0 = .ok (.iload_n 1, 1) := by decide +kernel
theorem dX7_seen_1 : decode cX7_seen 1 = .ok (.ifCond .lt 29, 3) := by decide +kernel
theorem dX7_seen_4 : decode cX7_seen 4 = .ok (.iload_n 1, 1) := by decide +kernel
theorem dX7_seen_5 : decode cX7_seen 5 = .ok (.bipush 8, 2) := by decide +kernel
theorem dX7_seen_7 : decode cX7_seen 7 = .ok (.if_icmp .ge 23, 3) := by decide +kernel
theorem dX7_seen_10 : decode cX7_seen 10 = .ok (.iload_n 2, 1) := by decide +kernel
theorem dX7_seen_11 : decode cX7_seen 11 = .ok (.ifCond .lt 19, 3) := by decide +kernel
theorem dX7_seen_14 : decode cX7_seen 14 = .ok (.iload_n 2, 1) := by decide +kernel
theorem dX7_seen_15 : decode cX7_seen 15 = .ok (.bipush 12, 2) := by decide +kernel
theorem dX7_seen_17 : decode cX7_seen 17 = .ok (.if_icmp .ge 13, 3) := by decide +kernel
theorem dX7_seen_20 : decode cX7_seen 20 = .ok (.iload_n 3, 1) := by decide +kernel
theorem dX7_seen_21 : decode cX7_seen 21 = .ok (.ifCond .lt 9, 3) := by decide +kernel
theorem dX7_seen_24 : decode cX7_seen 24 = .ok (.iload_n 3, 1) := by decide +kernel
theorem dX7_seen_25 : decode cX7_seen 25 = .ok (.bipush 8, 2) := by decide +kernel
theorem dX7_seen_27 : decode cX7_seen 27 = .ok (.if_icmp .le 6, 3) := by decide +kernel
theorem dX7_seen_30 : decode cX7_seen 30 = .ok (.bipush (-2), 2) := by decide +kernel
theorem dX7_seen_32 : decode cX7_seen 32 = .ok (.ireturn, 1) := by decide +kernel
theorem dX7_seen_33 : decode cX7_seen 33 = .ok (.aload_n 0, 1) := by decide +kernel
theorem dX7_seen_34 : decode cX7_seen 34 = .ok (.getfield 50, 3) := by decide +kernel
theorem dX7_seen_37 : decode cX7_seen 37 = .ok (.iload_n 1, 1) := by decide +kernel
theorem dX7_seen_38 : decode cX7_seen 38 = .ok (.iload_n 2, 1) := by decide +kernel
theorem dX7_seen_39 : decode cX7_seen 39 = .ok (.iload_n 3, 1) := by decide +kernel
theorem dX7_seen_40 : decode cX7_seen 40 = .ok (.invokevirtual 249, 3) := by decide +kernel
theorem dX7_seen_43 : decode cX7_seen 43 = .ok (.ifCond .eq 13, 3) := by decide +kernel
theorem dX7_seen_46 : decode cX7_seen 46 = .ok (.aload_n 0, 1) := by decide +kernel
theorem dX7_seen_47 : decode cX7_seen 47 = .ok (.getfield 50, 3) := by decide +kernel
theorem dX7_seen_50 : decode cX7_seen 50 = .ok (.getfield 253, 3) := by decide +kernel
theorem dX7_seen_53 : decode cX7_seen 53 = .ok (.goto 5, 3) := by decide +kernel
theorem dX7_seen_56 : decode cX7_seen 56 = .ok (.bipush (-4), 2) := by decide +kernel
theorem dX7_seen_58 : decode cX7_seen 58 = .ok (.ireturn, 1) := by decide +kernel
theorem dX7_forget_0 : decode cX7_forget 0 = .ok (.aload_n 0, 1) := by decide +kernel
theorem dX7_forget_1 : decode cX7_forget 1 = .ok (.getfield 50, 3) := by decide +kernel
theorem dX7_forget_4 : decode cX7_forget 4 = .ok (.getfield 253, 3) := by decide +kernel
theorem dX7_forget_7 : decode cX7_forget 7 = .ok (.istore_n 1, 1) := by decide +kernel
theorem dX7_forget_8 : decode cX7_forget 8 = .ok (.aload_n 0, 1) := by decide +kernel
theorem dX7_forget_9 : decode cX7_forget 9 = .ok (.getfield 50, 3) := by decide +kernel
theorem dX7_forget_12 : decode cX7_forget 12 = .ok (.iconst 0, 1) := by decide +kernel
theorem dX7_forget_13 : decode cX7_forget 13 = .ok (.putfield 253, 3) := by decide +kernel
theorem dX7_forget_16 : decode cX7_forget 16 = .ok (.iload_n 1, 1) := by decide +kernel
theorem dX7_forget_17 : decode cX7_forget 17 = .ok (.ireturn, 1) := by decide +kernel
theorem dX7_never_0 : decode cX7_never 0 = .ok (.iconst 0, 1) := by decide +kernel
theorem dX7_never_1 : decode cX7_never 1 = .ok (.istore_n 1, 1) := by decide +kernel
theorem dX7_never_2 : decode cX7_never 2 = .ok (.iconst 0, 1) := by decide +kernel
theorem dX7_never_3 : decode cX7_never 3 = .ok (.istore_n 2, 1) := by decide +kernel
theorem dX7_never_4 : decode cX7_never 4 = .ok (.iload_n 2, 1) := by decide +kernel
theorem dX7_never_5 : decode cX7_never 5 = .ok (.aload_n 0, 1) := by decide +kernel
theorem dX7_never_6 : decode cX7_never 6 = .ok (.getfield 40, 3) := by decide +kernel
theorem dX7_never_9 : decode cX7_never 9 = .ok (.getfield 151, 3) := by decide +kernel
theorem dX7_never_12 : decode cX7_never 12 = .ok (.if_icmp .ge 53, 3) := by decide +kernel
theorem dX7_never_15 : decode cX7_never 15 = .ok (.aload_n 0, 1) := by decide +kernel
theorem dX7_never_16 : decode cX7_never 16 = .ok (.getfield 33, 3) := by decide +kernel
theorem dX7_never_19 : decode cX7_never 19 = .ok (.aload_n 0, 1) := by decide +kernel
theorem dX7_never_20 : decode cX7_never 20 = .ok (.getfield 40, 3) := by decide +kernel
theorem dX7_never_23 : decode cX7_never 23 = .ok (.iload_n 2, 1) := by decide +kernel
theorem dX7_never_24 : decode cX7_never 24 = .ok (.invokevirtual 254, 3) := by decide +kernel
theorem dX7_never_27 : decode cX7_never 27 = .ok (.aload_n 0, 1) := by decide +kernel
theorem dX7_never_28 : decode cX7_never 28 = .ok (.getfield 44, 3) := by decide +kernel
theorem dX7_never_31 : decode cX7_never 31 = .ok (.invokevirtual 169, 3) := by decide +kernel
theorem dX7_never_34 : decode cX7_never 34 = .ok (.bipush 40, 2) := by decide +kernel
theorem dX7_never_36 : decode cX7_never 36 = .ok (.invokevirtual 173, 3) := by decide +kernel
theorem dX7_never_39 : decode cX7_never 39 = .ok (.aload_n 0, 1) := by decide +kernel
theorem dX7_never_40 : decode cX7_never 40 = .ok (.getfield 50, 3) := by decide +kernel
theorem dX7_never_43 : decode cX7_never 43 = .ok (.aload_n 0, 1) := by decide +kernel
theorem dX7_never_44 : decode cX7_never 44 = .ok (.getfield 33, 3) := by decide +kernel
theorem dX7_never_47 : decode cX7_never 47 = .ok (.invokevirtual 258, 3) := by decide +kernel
theorem dX7_never_50 : decode cX7_never 50 = .ok (.ifCond .eq 9, 3) := by decide +kernel
theorem dX7_never_53 : decode cX7_never 53 = .ok (.iload_n 1, 1) := by decide +kernel
theorem dX7_never_54 : decode cX7_never 54 = .ok (.iconst 1, 1) := by decide +kernel
theorem dX7_never_55 : decode cX7_never 55 = .ok (.iload_n 2, 1) := by decide +kernel
theorem dX7_never_56 : decode cX7_never 56 = .ok (.ishl, 1) := by decide +kernel
theorem dX7_never_57 : decode cX7_never 57 = .ok (.ior, 1) := by decide +kernel
theorem dX7_never_58 : decode cX7_never 58 = .ok (.istore_n 1, 1) := by decide +kernel
theorem dX7_never_59 : decode cX7_never 59 = .ok (.iinc 2 1, 3) := by decide +kernel
theorem dX7_never_62 : decode cX7_never 62 = .ok (.goto (-58), 3) := by decide +kernel
theorem dX7_never_65 : decode cX7_never 65 = .ok (.iload_n 1, 1) := by decide +kernel
theorem dX7_never_66 : decode cX7_never 66 = .ok (.ireturn, 1) := by decide +kernel
theorem dX7_was_0 : decode cX7_was 0 = .ok (.aload_n 0, 1) := by decide +kernel
theorem dX7_was_1 : decode cX7_was 1 = .ok (.iload_n 1, 1) := by decide +kernel
theorem dX7_was_2 : decode cX7_was 2 = .ok (.invokevirtual 113, 3) := by decide +kernel
theorem dX7_was_5 : decode cX7_was 5 = .ok (.ifCond .ne 6, 3) := by decide +kernel
theorem dX7_was_8 : decode cX7_was 8 = .ok (.bipush (-2), 2) := by decide +kernel
theorem dX7_was_10 : decode cX7_was 10 = .ok (.ireturn, 1) := by decide +kernel
theorem dX7_was_11 : decode cX7_was 11 = .ok (.iload_n 2, 1) := by decide +kernel
theorem dX7_was_12 : decode cX7_was 12 = .ok (.lookupswitch 40 #[(0, 28), (1, 34)], 28) := by decide +kernel
theorem dX7_was_40 : decode cX7_was 40 = .ok (.aload_n 0, 1) := by decide +kernel
theorem dX7_was_41 : decode cX7_was 41 = .ok (.iload_n 1, 1) := by decide +kernel
theorem dX7_was_42 : decode cX7_was 42 = .ok (.invokevirtual 262, 3) := by decide +kernel
theorem dX7_was_45 : decode cX7_was 45 = .ok (.ireturn, 1) := by decide +kernel
theorem dX7_was_46 : decode cX7_was 46 = .ok (.aload_n 0, 1) := by decide +kernel
theorem dX7_was_47 : decode cX7_was 47 = .ok (.iload_n 1, 1) := by decide +kernel
theorem dX7_was_48 : decode cX7_was 48 = .ok (.invokevirtual 265, 3) := by decide +kernel
theorem dX7_was_51 : decode cX7_was 51 = .ok (.ireturn, 1) := by decide +kernel
theorem dX7_was_52 : decode cX7_was 52 = .ok (.bipush (-2), 2) := by decide +kernel
theorem dX7_was_54 : decode cX7_was 54 = .ok (.ireturn, 1) := by decide +kernel
theorem dX7_ask_0 : decode cX7_ask 0 = .ok (.aload_n 0, 1) := by decide +kernel
theorem dX7_ask_1 : decode cX7_ask 1 = .ok (.iload_n 1, 1) := by decide +kernel
theorem dX7_ask_2 : decode cX7_ask 2 = .ok (.invokevirtual 113, 3) := by decide +kernel
theorem dX7_ask_5 : decode cX7_ask 5 = .ok (.ifCond .ne 6, 3) := by decide +kernel
theorem dX7_ask_8 : decode cX7_ask 8 = .ok (.bipush (-2), 2) := by decide +kernel
theorem dX7_ask_10 : decode cX7_ask 10 = .ok (.ireturn, 1) := by decide +kernel
theorem dX7_ask_11 : decode cX7_ask 11 = .ok (.aload_n 0, 1) := by decide +kernel
theorem dX7_ask_12 : decode cX7_ask 12 = .ok (.iload_n 1, 1) := by decide +kernel
theorem dX7_ask_13 : decode cX7_ask 13 = .ok (.invokevirtual 262, 3) := by decide +kernel
theorem dX7_ask_16 : decode cX7_ask 16 = .ok (.istore_n 2, 1) := by decide +kernel
theorem dX7_ask_17 : decode cX7_ask 17 = .ok (.aload_n 0, 1) := by decide +kernel
theorem dX7_ask_18 : decode cX7_ask 18 = .ok (.getfield 64, 3) := by decide +kernel
theorem dX7_ask_21 : decode cX7_ask 21 = .ok (.invokevirtual 214, 3) := by decide +kernel
theorem dX7_ask_24 : decode cX7_ask 24 = .ok (.iconst 0, 1) := by decide +kernel
theorem dX7_ask_25 : decode cX7_ask 25 = .ok (.istore_n 3, 1) := by decide +kernel
theorem dX7_ask_26 : decode cX7_ask 26 = .ok (.iload_n 3, 1) := by decide +kernel
theorem dX7_ask_27 : decode cX7_ask 27 = .ok (.aload_n 0, 1) := by decide +kernel
theorem dX7_ask_28 : decode cX7_ask 28 = .ok (.getfield 24, 3) := by decide +kernel
theorem dX7_ask_31 : decode cX7_ask 31 = .ok (.getfield 268, 3) := by decide +kernel
theorem dX7_ask_34 : decode cX7_ask 34 = .ok (.if_icmp .ge 26, 3) := by decide +kernel
theorem dX7_ask_37 : decode cX7_ask 37 = .ok (.aload_n 0, 1) := by decide +kernel
theorem dX7_ask_38 : decode cX7_ask 38 = .ok (.getfield 64, 3) := by decide +kernel
theorem dX7_ask_41 : decode cX7_ask 41 = .ok (.iload_n 3, 1) := by decide +kernel
theorem dX7_ask_42 : decode cX7_ask 42 = .ok (.bipush 10, 2) := by decide +kernel
theorem dX7_ask_44 : decode cX7_ask 44 = .ok (.aload_n 0, 1) := by decide +kernel
theorem dX7_ask_45 : decode cX7_ask 45 = .ok (.iload_n 3, 1) := by decide +kernel
theorem dX7_ask_46 : decode cX7_ask 46 = .ok (.iload_n 2, 1) := by decide +kernel
theorem dX7_ask_47 : decode cX7_ask 47 = .ok (.invokevirtual 271, 3) := by decide +kernel
theorem dX7_ask_50 : decode cX7_ask 50 = .ok (.isub, 1) := by decide +kernel
theorem dX7_ask_51 : decode cX7_ask 51 = .ok (.invokevirtual 220, 3) := by decide +kernel
theorem dX7_ask_54 : decode cX7_ask 54 = .ok (.iinc 3 1, 3) := by decide +kernel
theorem dX7_ask_57 : decode cX7_ask 57 = .ok (.goto (-31), 3) := by decide +kernel
theorem dX7_ask_60 : decode cX7_ask 60 = .ok (.aload_n 0, 1) := by decide +kernel
theorem dX7_ask_61 : decode cX7_ask 61 = .ok (.getfield 64, 3) := by decide +kernel
theorem dX7_ask_64 : decode cX7_ask 64 = .ok (.getfield 224, 3) := by decide +kernel
theorem dX7_ask_67 : decode cX7_ask 67 = .ok (.ireturn, 1) := by decide +kernel
theorem dX7_gust_0 : decode cX7_gust 0 = .ok (.iload_n 1, 1) := by decide +kernel
theorem dX7_gust_1 : decode cX7_gust 1 = .ok (.ifCond .lt 35, 3) := by decide +kernel
theorem dX7_gust_4 : decode cX7_gust 4 = .ok (.iload_n 1, 1) := by decide +kernel
theorem dX7_gust_5 : decode cX7_gust 5 = .ok (.bipush 16, 2) := by decide +kernel
theorem dX7_gust_7 : decode cX7_gust 7 = .ok (.if_icmp .gt 29, 3) := by decide +kernel
theorem dX7_gust_10 : decode cX7_gust 10 = .ok (.aload_n 0, 1) := by decide +kernel
theorem dX7_gust_11 : decode cX7_gust 11 = .ok (.iload_n 2, 1) := by decide +kernel
theorem dX7_gust_12 : decode cX7_gust 12 = .ok (.invokevirtual 125, 3) := by decide +kernel
theorem dX7_gust_15 : decode cX7_gust 15 = .ok (.ifCond .eq 21, 3) := by decide +kernel
theorem dX7_gust_18 : decode cX7_gust 18 = .ok (.iload_n 3, 1) := by decide +kernel
theorem dX7_gust_19 : decode cX7_gust 19 = .ok (.invokestatic 233, 3) := by decide +kernel
theorem dX7_gust_22 : decode cX7_gust 22 = .ok (.ifCond .eq 14, 3) := by decide +kernel
theorem dX7_gust_25 : decode cX7_gust 25 = .ok (.iload 4, 2) := by decide +kernel
theorem dX7_gust_27 : decode cX7_gust 27 = .ok (.ifCond .eq 13, 3) := by decide +kernel
theorem dX7_gust_30 : decode cX7_gust 30 = .ok (.iload 4, 2) := by decide +kernel
theorem dX7_gust_32 : decode cX7_gust 32 = .ok (.iconst 1, 1) := by decide +kernel
theorem dX7_gust_33 : decode cX7_gust 33 = .ok (.if_icmp .eq 7, 3) := by decide +kernel
theorem dX7_gust_36 : decode cX7_gust 36 = .ok (.ldc2_w 274, 3) := by decide +kernel
theorem dX7_gust_39 : decode cX7_gust 39 = .ok (.lreturn, 1) := by decide +kernel
theorem dX7_gust_40 : decode cX7_gust 40 = .ok (.aload_n 0, 1) := by decide +kernel
theorem dX7_gust_41 : decode cX7_gust 41 = .ok (.iload_n 1, 1) := by decide +kernel
theorem dX7_gust_42 : decode cX7_gust 42 = .ok (.iload_n 2, 1) := by decide +kernel
theorem dX7_gust_43 : decode cX7_gust 43 = .ok (.iload_n 3, 1) := by decide +kernel
theorem dX7_gust_44 : decode cX7_gust 44 = .ok (.invokevirtual 276, 3) := by decide +kernel
theorem dX7_gust_47 : decode cX7_gust 47 = .ok (.iload 4, 2) := by decide +kernel
theorem dX7_gust_49 : decode cX7_gust 49 = .ok (.ifCond .ne 10, 3) := by decide +kernel
theorem dX7_gust_52 : decode cX7_gust 52 = .ok (.aload_n 0, 1) := by decide +kernel
theorem dX7_gust_53 : decode cX7_gust 53 = .ok (.getfield 79, 3) := by decide +kernel
theorem dX7_gust_56 : decode cX7_gust 56 = .ok (.goto 7, 3) := by decide +kernel
theorem dX7_gust_59 : decode cX7_gust 59 = .ok (.aload_n 0, 1) := by decide +kernel
theorem dX7_gust_60 : decode cX7_gust 60 = .ok (.getfield 83, 3) := by decide +kernel
theorem dX7_gust_63 : decode cX7_gust 63 = .ok (.lreturn, 1) := by decide +kernel
theorem dX7_week_0 : decode cX7_week 0 = .ok (.iload_n 2, 1) := by decide +kernel
theorem dX7_week_1 : decode cX7_week 1 = .ok (.ifCond .lt 18, 3) := by decide +kernel
theorem dX7_week_4 : decode cX7_week 4 = .ok (.iload_n 2, 1) := by decide +kernel
theorem dX7_week_5 : decode cX7_week 5 = .ok (.bipush 6, 2) := by decide +kernel
theorem dX7_week_7 : decode cX7_week 7 = .ok (.if_icmp .gt 12, 3) := by decide +kernel
theorem dX7_week_10 : decode cX7_week 10 = .ok (.iload_n 3, 1) := by decide +kernel
theorem dX7_week_11 : decode cX7_week 11 = .ok (.ifCond .eq 11, 3) := by decide +kernel
theorem dX7_week_14 : decode cX7_week 14 = .ok (.iload_n 3, 1) := by decide +kernel
theorem dX7_week_15 : decode cX7_week 15 = .ok (.iconst 1, 1) := by decide +kernel
theorem dX7_week_16 : decode cX7_week 16 = .ok (.if_icmp .eq 6, 3) := by decide +kernel
theorem dX7_week_19 : decode cX7_week 19 = .ok (.bipush (-2), 2) := by decide +kernel
theorem dX7_week_21 : decode cX7_week 21 = .ok (.ireturn, 1) := by decide +kernel
theorem dX7_week_22 : decode cX7_week 22 = .ok (.aload_n 0, 1) := by decide +kernel
theorem dX7_week_23 : decode cX7_week 23 = .ok (.getfield 33, 3) := by decide +kernel
theorem dX7_week_26 : decode cX7_week 26 = .ok (.aload_n 0, 1) := by decide +kernel
theorem dX7_week_27 : decode cX7_week 27 = .ok (.getfield 40, 3) := by decide +kernel
theorem dX7_week_30 : decode cX7_week 30 = .ok (.invokevirtual 169, 3) := by decide +kernel
theorem dX7_week_33 : decode cX7_week 33 = .ok (.iload_n 1, 1) := by decide +kernel
theorem dX7_week_34 : decode cX7_week 34 = .ok (.iload_n 2, 1) := by decide +kernel
theorem dX7_week_35 : decode cX7_week 35 = .ok (.invokestatic 280, 3) := by decide +kernel
theorem dX7_week_38 : decode cX7_week 38 = .ok (.bipush 40, 2) := by decide +kernel
theorem dX7_week_40 : decode cX7_week 40 = .ok (.invokevirtual 173, 3) := by decide +kernel
theorem dX7_week_43 : decode cX7_week 43 = .ok (.iload_n 3, 1) := by decide +kernel
theorem dX7_week_44 : decode cX7_week 44 = .ok (.ifCond .ne 13, 3) := by decide +kernel
theorem dX7_week_47 : decode cX7_week 47 = .ok (.aload_n 0, 1) := by decide +kernel
theorem dX7_week_48 : decode cX7_week 48 = .ok (.getfield 33, 3) := by decide +kernel
theorem dX7_week_51 : decode cX7_week 51 = .ok (.invokevirtual 205, 3) := by decide +kernel
theorem dX7_week_54 : decode cX7_week 54 = .ok (.goto 10, 3) := by decide +kernel
theorem dX7_week_57 : decode cX7_week 57 = .ok (.aload_n 0, 1) := by decide +kernel
theorem dX7_week_58 : decode cX7_week 58 = .ok (.getfield 33, 3) := by decide +kernel
theorem dX7_week_61 : decode cX7_week 61 = .ok (.getfield 284, 3) := by decide +kernel
theorem dX7_week_64 : decode cX7_week 64 = .ok (.ireturn, 1) := by decide +kernel
theorem dX7_sheet_0 : decode cX7_sheet 0 = .ok (.iload_n 1, 1) := by decide +kernel
theorem dX7_sheet_1 : decode cX7_sheet 1 = .ok (.invokestatic 152, 3) := by decide +kernel
theorem dX7_sheet_4 : decode cX7_sheet 4 = .ok (.ifCond .eq 16, 3) := by decide +kernel
theorem dX7_sheet_7 : decode cX7_sheet 7 = .ok (.iload_n 2, 1) := by decide +kernel
theorem dX7_sheet_8 : decode cX7_sheet 8 = .ok (.invokestatic 287, 3) := by decide +kernel
theorem dX7_sheet_11 : decode cX7_sheet 11 = .ok (.ifCond .eq 9, 3) := by decide +kernel
theorem dX7_sheet_14 : decode cX7_sheet 14 = .ok (.iload_n 3, 1) := by decide +kernel
theorem dX7_sheet_15 : decode cX7_sheet 15 = .ok (.bipush 60, 2) := by decide +kernel
theorem dX7_sheet_17 : decode cX7_sheet 17 = .ok (.if_icmp .le 6, 3) := by decide +kernel
theorem dX7_sheet_20 : decode cX7_sheet 20 = .ok (.bipush (-2), 2) := by decide +kernel
theorem dX7_sheet_22 : decode cX7_sheet 22 = .ok (.ireturn, 1) := by decide +kernel
theorem dX7_sheet_23 : decode cX7_sheet 23 = .ok (.iload_n 3, 1) := by decide +kernel
theorem dX7_sheet_24 : decode cX7_sheet 24 = .ok (.ifCond .ge 9, 3) := by decide +kernel
theorem dX7_sheet_27 : decode cX7_sheet 27 = .ok (.aload_n 0, 1) := by decide +kernel
theorem dX7_sheet_28 : decode cX7_sheet 28 = .ok (.iconst 5, 1) := by decide +kernel
theorem dX7_sheet_29 : decode cX7_sheet 29 = .ok (.invokevirtual 158, 3) := by decide +kernel
theorem dX7_sheet_32 : decode cX7_sheet 32 = .ok (.ireturn, 1) := by decide +kernel
theorem dX7_sheet_33 : decode cX7_sheet 33 = .ok (.aload_n 0, 1) := by decide +kernel
theorem dX7_sheet_34 : decode cX7_sheet 34 = .ok (.getfield 57, 3) := by decide +kernel
theorem dX7_sheet_37 : decode cX7_sheet 37 = .ok (.iload_n 1, 1) := by decide +kernel
theorem dX7_sheet_38 : decode cX7_sheet 38 = .ok (.iload_n 2, 1) := by decide +kernel
theorem dX7_sheet_39 : decode cX7_sheet 39 = .ok (.iload_n 3, 1) := by decide +kernel
theorem dX7_sheet_40 : decode cX7_sheet 40 = .ok (.invokevirtual 290, 3) := by decide +kernel
theorem dX7_sheet_43 : decode cX7_sheet 43 = .ok (.iload_n 3, 1) := by decide +kernel
theorem dX7_sheet_44 : decode cX7_sheet 44 = .ok (.ireturn, 1) := by decide +kernel
theorem dX7_lose_0 : decode cX7_lose 0 = .ok (.iload_n 1, 1) := by decide +kernel
theorem dX7_lose_1 : decode cX7_lose 1 = .ok (.invokestatic 152, 3) := by decide +kernel
theorem dX7_lose_4 : decode cX7_lose 4 = .ok (.ifCond .ne 6, 3) := by decide +kernel
theorem dX7_lose_7 : decode cX7_lose 7 = .ok (.bipush (-2), 2) := by decide +kernel
theorem dX7_lose_9 : decode cX7_lose 9 = .ok (.ireturn, 1) := by decide +kernel
theorem dX7_lose_10 : decode cX7_lose 10 = .ok (.aload_n 0, 1) := by decide +kernel
theorem dX7_lose_11 : decode cX7_lose 11 = .ok (.getfield 57, 3) := by decide +kernel
theorem dX7_lose_14 : decode cX7_lose 14 = .ok (.iload_n 1, 1) := by decide +kernel
theorem dX7_lose_15 : decode cX7_lose 15 = .ok (.invokevirtual 155, 3) := by decide +kernel
theorem dX7_lose_18 : decode cX7_lose 18 = .ok (.ifCond .eq 9, 3) := by decide +kernel
theorem dX7_lose_21 : decode cX7_lose 21 = .ok (.aload_n 0, 1) := by decide +kernel
theorem dX7_lose_22 : decode cX7_lose 22 = .ok (.iconst 1, 1) := by decide +kernel
theorem dX7_lose_23 : decode cX7_lose 23 = .ok (.invokevirtual 158, 3) := by decide +kernel
theorem dX7_lose_26 : decode cX7_lose 26 = .ok (.ireturn, 1) := by decide +kernel
theorem dX7_lose_27 : decode cX7_lose 27 = .ok (.aload_n 0, 1) := by decide +kernel
theorem dX7_lose_28 : decode cX7_lose 28 = .ok (.getfield 57, 3) := by decide +kernel
theorem dX7_lose_31 : decode cX7_lose 31 = .ok (.getfield 161, 3) := by decide +kernel
theorem dX7_lose_34 : decode cX7_lose 34 = .ok (.iload_n 1, 1) := by decide +kernel
theorem dX7_lose_35 : decode cX7_lose 35 = .ok (.iaload, 1) := by decide +kernel
theorem dX7_lose_36 : decode cX7_lose 36 = .ok (.istore_n 2, 1) := by decide +kernel
theorem dX7_lose_37 : decode cX7_lose 37 = .ok (.aload_n 0, 1) := by decide +kernel
theorem dX7_lose_38 : decode cX7_lose 38 = .ok (.getfield 57, 3) := by decide +kernel
theorem dX7_lose_41 : decode cX7_lose 41 = .ok (.getfield 161, 3) := by decide +kernel
theorem dX7_lose_44 : decode cX7_lose 44 = .ok (.iload_n 1, 1) := by decide +kernel
theorem dX7_lose_45 : decode cX7_lose 45 = .ok (.iconst (-1), 1) := by decide +kernel
theorem dX7_lose_46 : decode cX7_lose 46 = .ok (.iastore, 1) := by decide +kernel
theorem dX7_lose_47 : decode cX7_lose 47 = .ok (.iload_n 2, 1) := by decide +kernel
theorem dX7_lose_48 : decode cX7_lose 48 = .ok (.ireturn, 1) := by decide +kernel
theorem dX7_put_0 : decode cX7_put 0 = .ok (.iload_n 1, 1) := by decide +kernel
theorem dX7_put_1 : decode cX7_put 1 = .ok (.invokestatic 152, 3) := by decide +kernel
theorem dX7_put_4 : decode cX7_put 4 = .ok (.ifCond .eq 10, 3) := by decide +kernel
theorem dX7_put_7 : decode cX7_put 7 = .ok (.iload_n 2, 1) := by decide +kernel
theorem dX7_put_8 : decode cX7_put 8 = .ok (.invokestatic 287, 3) := by decide +kernel
theorem dX7_put_11 : decode cX7_put 11 = .ok (.ifCond .ne 6, 3) := by decide +kernel
theorem dX7_put_14 : decode cX7_put 14 = .ok (.bipush (-2), 2) := by decide +kernel
theorem dX7_put_16 : decode cX7_put 16 = .ok (.ireturn, 1) := by decide +kernel
theorem dX7_put_17 : decode cX7_put 17 = .ok (.aload_n 0, 1) := by decide +kernel
theorem dX7_put_18 : decode cX7_put 18 = .ok (.getfield 57, 3) := by decide +kernel
theorem dX7_put_21 : decode cX7_put 21 = .ok (.iload_n 1, 1) := by decide +kernel
theorem dX7_put_22 : decode cX7_put 22 = .ok (.iload_n 2, 1) := by decide +kernel
theorem dX7_put_23 : decode cX7_put 23 = .ok (.iload_n 3, 1) := by decide +kernel
theorem dX7_put_24 : decode cX7_put 24 = .ok (.invokevirtual 293, 3) := by decide +kernel
theorem dX7_put_27 : decode cX7_put 27 = .ok (.istore 5, 2) := by decide +kernel
theorem dX7_put_29 : decode cX7_put 29 = .ok (.iload 5, 2) := by decide +kernel
theorem dX7_put_31 : decode cX7_put 31 = .ok (.ifCond .eq 10, 3) := by decide +kernel
theorem dX7_put_34 : decode cX7_put 34 = .ok (.aload_n 0, 1) := by decide +kernel
theorem dX7_put_35 : decode cX7_put 35 = .ok (.iload 5, 2) := by decide +kernel
theorem dX7_put_37 : decode cX7_put 37 = .ok (.invokevirtual 158, 3) := by decide +kernel
theorem dX7_put_40 : decode cX7_put 40 = .ok (.ireturn, 1) := by decide +kernel
theorem dX7_put_41 : decode cX7_put 41 = .ok (.aload_n 0, 1) := by decide +kernel
theorem dX7_put_42 : decode cX7_put 42 = .ok (.getfield 57, 3) := by decide +kernel
theorem dX7_put_45 : decode cX7_put 45 = .ok (.iload_n 1, 1) := by decide +kernel
theorem dX7_put_46 : decode cX7_put 46 = .ok (.iload_n 3, 1) := by decide +kernel
theorem dX7_put_47 : decode cX7_put 47 = .ok (.iload 4, 2) := by decide +kernel
theorem dX7_put_49 : decode cX7_put 49 = .ok (.invokevirtual 297, 3) := by decide +kernel
theorem dX7_put_52 : decode cX7_put 52 = .ok (.iconst 1, 1) := by decide +kernel
theorem dX7_put_53 : decode cX7_put 53 = .ok (.ireturn, 1) := by decide +kernel
theorem dX7_get_0 : decode cX7_get 0 = .ok (.iload_n 1, 1) := by decide +kernel
theorem dX7_get_1 : decode cX7_get 1 = .ok (.invokestatic 152, 3) := by decide +kernel
theorem dX7_get_4 : decode cX7_get 4 = .ok (.ifCond .eq 10, 3) := by decide +kernel
theorem dX7_get_7 : decode cX7_get 7 = .ok (.iload_n 2, 1) := by decide +kernel
theorem dX7_get_8 : decode cX7_get 8 = .ok (.invokestatic 287, 3) := by decide +kernel
theorem dX7_get_11 : decode cX7_get 11 = .ok (.ifCond .ne 7, 3) := by decide +kernel
theorem dX7_get_14 : decode cX7_get 14 = .ok (.ldc_w 300, 3) := by decide +kernel
theorem dX7_get_17 : decode cX7_get 17 = .ok (.ireturn, 1) := by decide +kernel
theorem dX7_get_18 : decode cX7_get 18 = .ok (.aload_n 0, 1) := by decide +kernel
theorem dX7_get_19 : decode cX7_get 19 = .ok (.getfield 57, 3) := by decide +kernel
theorem dX7_get_22 : decode cX7_get 22 = .ok (.iload_n 1, 1) := by decide +kernel
theorem dX7_get_23 : decode cX7_get 23 = .ok (.iload_n 2, 1) := by decide +kernel
theorem dX7_get_24 : decode cX7_get 24 = .ok (.iload_n 3, 1) := by decide +kernel
theorem dX7_get_25 : decode cX7_get 25 = .ok (.invokevirtual 293, 3) := by decide +kernel
theorem dX7_get_28 : decode cX7_get 28 = .ok (.istore 4, 2) := by decide +kernel
theorem dX7_get_30 : decode cX7_get 30 = .ok (.iload 4, 2) := by decide +kernel
theorem dX7_get_32 : decode cX7_get 32 = .ok (.ifCond .eq 14, 3) := by decide +kernel
theorem dX7_get_35 : decode cX7_get 35 = .ok (.aload_n 0, 1) := by decide +kernel
theorem dX7_get_36 : decode cX7_get 36 = .ok (.iload 4, 2) := by decide +kernel
theorem dX7_get_38 : decode cX7_get 38 = .ok (.invokevirtual 158, 3) := by decide +kernel
theorem dX7_get_41 : decode cX7_get 41 = .ok (.pop, 1) := by decide +kernel
theorem dX7_get_42 : decode cX7_get 42 = .ok (.ldc_w 300, 3) := by decide +kernel
theorem dX7_get_45 : decode cX7_get 45 = .ok (.ireturn, 1) := by decide +kernel
theorem dX7_get_46 : decode cX7_get 46 = .ok (.aload_n 0, 1) := by decide +kernel
theorem dX7_get_47 : decode cX7_get 47 = .ok (.getfield 57, 3) := by decide +kernel
theorem dX7_get_50 : decode cX7_get 50 = .ok (.iload_n 1, 1) := by decide +kernel
theorem dX7_get_51 : decode cX7_get 51 = .ok (.iload_n 3, 1) := by decide +kernel
theorem dX7_get_52 : decode cX7_get 52 = .ok (.invokevirtual 163, 3) := by decide +kernel
theorem dX7_get_55 : decode cX7_get 55 = .ok (.ireturn, 1) := by decide +kernel
theorem dX7_copy_0 : decode cX7_copy 0 = .ok (.iload_n 1, 1) := by decide +kernel
theorem dX7_copy_1 : decode cX7_copy 1 = .ok (.invokestatic 152, 3) := by decide +kernel
theorem dX7_copy_4 : decode cX7_copy 4 = .ok (.ifCond .eq 10, 3) := by decide +kernel
theorem dX7_copy_7 : decode cX7_copy 7 = .ok (.iload_n 3, 1) := by decide +kernel
theorem dX7_copy_8 : decode cX7_copy 8 = .ok (.invokestatic 152, 3) := by decide +kernel
theorem dX7_copy_11 : decode cX7_copy 11 = .ok (.ifCond .ne 6, 3) := by decide +kernel
theorem dX7_copy_14 : decode cX7_copy 14 = .ok (.bipush (-2), 2) := by decide +kernel
theorem dX7_copy_16 : decode cX7_copy 16 = .ok (.ireturn, 1) := by decide +kernel
theorem dX7_copy_17 : decode cX7_copy 17 = .ok (.aload_n 0, 1) := by decide +kernel
theorem dX7_copy_18 : decode cX7_copy 18 = .ok (.getfield 57, 3) := by decide +kernel
theorem dX7_copy_21 : decode cX7_copy 21 = .ok (.iload_n 1, 1) := by decide +kernel
theorem dX7_copy_22 : decode cX7_copy 22 = .ok (.invokevirtual 155, 3) := by decide +kernel
theorem dX7_copy_25 : decode cX7_copy 25 = .ok (.ifCond .ne 14, 3) := by decide +kernel
theorem dX7_copy_28 : decode cX7_copy 28 = .ok (.aload_n 0, 1) := by decide +kernel
theorem dX7_copy_29 : decode cX7_copy 29 = .ok (.getfield 57, 3) := by decide +kernel
theorem dX7_copy_32 : decode cX7_copy 32 = .ok (.iload_n 3, 1) := by decide +kernel
theorem dX7_copy_33 : decode cX7_copy 33 = .ok (.invokevirtual 155, 3) := by decide +kernel
theorem dX7_copy_36 : decode cX7_copy 36 = .ok (.ifCond .eq 9, 3) := by decide +kernel
theorem dX7_copy_39 : decode cX7_copy 39 = .ok (.aload_n 0, 1) := by decide +kernel
theorem dX7_copy_40 : decode cX7_copy 40 = .ok (.iconst 1, 1) := by decide +kernel
theorem dX7_copy_41 : decode cX7_copy 41 = .ok (.invokevirtual 158, 3) := by decide +kernel
theorem dX7_copy_44 : decode cX7_copy 44 = .ok (.ireturn, 1) := by decide +kernel
theorem dX7_copy_45 : decode cX7_copy 45 = .ok (.aload_n 0, 1) := by decide +kernel
theorem dX7_copy_46 : decode cX7_copy 46 = .ok (.getfield 57, 3) := by decide +kernel
theorem dX7_copy_49 : decode cX7_copy 49 = .ok (.getfield 301, 3) := by decide +kernel
theorem dX7_copy_52 : decode cX7_copy 52 = .ok (.iload_n 1, 1) := by decide +kernel
theorem dX7_copy_53 : decode cX7_copy 53 = .ok (.iaload, 1) := by decide +kernel
theorem dX7_copy_54 : decode cX7_copy 54 = .ok (.aload_n 0, 1) := by decide +kernel
theorem dX7_copy_55 : decode cX7_copy 55 = .ok (.getfield 57, 3) := by decide +kernel
theorem dX7_copy_58 : decode cX7_copy 58 = .ok (.getfield 301, 3) := by decide +kernel
theorem dX7_copy_61 : decode cX7_copy 61 = .ok (.iload_n 3, 1) := by decide +kernel
theorem dX7_copy_62 : decode cX7_copy 62 = .ok (.iaload, 1) := by decide +kernel
theorem dX7_copy_63 : decode cX7_copy 63 = .ok (.if_icmp .eq 9, 3) := by decide +kernel
theorem dX7_copy_66 : decode cX7_copy 66 = .ok (.aload_n 0, 1) := by decide +kernel
theorem dX7_copy_67 : decode cX7_copy 67 = .ok (.iconst 4, 1) := by decide +kernel
theorem dX7_copy_68 : decode cX7_copy 68 = .ok (.invokevirtual 158, 3) := by decide +kernel
theorem dX7_copy_71 : decode cX7_copy 71 = .ok (.ireturn, 1) := by decide +kernel
theorem dX7_copy_72 : decode cX7_copy 72 = .ok (.aload_n 0, 1) := by decide +kernel
theorem dX7_copy_73 : decode cX7_copy 73 = .ok (.getfield 57, 3) := by decide +kernel
theorem dX7_copy_76 : decode cX7_copy 76 = .ok (.iload_n 1, 1) := by decide +kernel
theorem dX7_copy_77 : decode cX7_copy 77 = .ok (.iload_n 2, 1) := by decide +kernel
theorem dX7_copy_78 : decode cX7_copy 78 = .ok (.iload 5, 2) := by decide +kernel
theorem dX7_copy_80 : decode cX7_copy 80 = .ok (.invokevirtual 304, 3) := by decide +kernel
theorem dX7_copy_83 : decode cX7_copy 83 = .ok (.ifCond .eq 18, 3) := by decide +kernel
theorem dX7_copy_86 : decode cX7_copy 86 = .ok (.aload_n 0, 1) := by decide +kernel
theorem dX7_copy_87 : decode cX7_copy 87 = .ok (.getfield 57, 3) := by decide +kernel
theorem dX7_copy_90 : decode cX7_copy 90 = .ok (.iload_n 3, 1) := by decide +kernel
theorem dX7_copy_91 : decode cX7_copy 91 = .ok (.iload 4, 2) := by decide +kernel
theorem dX7_copy_93 : decode cX7_copy 93 = .ok (.iload 5, 2) := by decide +kernel
theorem dX7_copy_95 : decode cX7_copy 95 = .ok (.invokevirtual 304, 3) := by decide +kernel
theorem dX7_copy_98 : decode cX7_copy 98 = .ok (.ifCond .ne 9, 3) := by decide +kernel
theorem dX7_copy_101 : decode cX7_copy 101 = .ok (.aload_n 0, 1) := by decide +kernel
theorem dX7_copy_102 : decode cX7_copy 102 = .ok (.iconst 2, 1) := by decide +kernel
theorem dX7_copy_103 : decode cX7_copy 103 = .ok (.invokevirtual 158, 3) := by decide +kernel
theorem dX7_copy_106 : decode cX7_copy 106 = .ok (.ireturn, 1) := by decide +kernel
theorem dX7_copy_107 : decode cX7_copy 107 = .ok (.aload_n 0, 1) := by decide +kernel
theorem dX7_copy_108 : decode cX7_copy 108 = .ok (.getfield 57, 3) := by decide +kernel
theorem dX7_copy_111 : decode cX7_copy 111 = .ok (.getfield 307, 3) := by decide +kernel
theorem dX7_copy_114 : decode cX7_copy 114 = .ok (.iload_n 1, 1) := by decide +kernel
theorem dX7_copy_115 : decode cX7_copy 115 = .ok (.bipush 60, 2) := by decide +kernel
theorem dX7_copy_117 : decode cX7_copy 117 = .ok (.imul, 1) := by decide +kernel
theorem dX7_copy_118 : decode cX7_copy 118 = .ok (.iload_n 2, 1) := by decide +kernel
theorem dX7_copy_119 : decode cX7_copy 119 = .ok (.iadd, 1) := by decide +kernel
theorem dX7_copy_120 : decode cX7_copy 120 = .ok (.aload_n 0, 1) := by decide +kernel
theorem dX7_copy_121 : decode cX7_copy 121 = .ok (.getfield 57, 3) := by decide +kernel
theorem dX7_copy_124 : decode cX7_copy 124 = .ok (.getfield 307, 3) := by decide +kernel
theorem dX7_copy_127 : decode cX7_copy 127 = .ok (.iload_n 3, 1) := by decide +kernel
theorem dX7_copy_128 : decode cX7_copy 128 = .ok (.bipush 60, 2) := by decide +kernel
theorem dX7_copy_130 : decode cX7_copy 130 = .ok (.imul, 1) := by decide +kernel
theorem dX7_copy_131 : decode cX7_copy 131 = .ok (.iload 4, 2) := by decide +kernel
theorem dX7_copy_133 : decode cX7_copy 133 = .ok (.iadd, 1) := by decide +kernel
theorem dX7_copy_134 : decode cX7_copy 134 = .ok (.iload 5, 2) := by decide +kernel
theorem dX7_copy_136 : decode cX7_copy 136 = .ok (.invokestatic 310, 3) := by decide +kernel
theorem dX7_copy_139 : decode cX7_copy 139 = .ok (.iconst 1, 1) := by decide +kernel
theorem dX7_copy_140 : decode cX7_copy 140 = .ok (.ireturn, 1) := by decide +kernel
theorem dX7_write_0 : decode cX7_write 0 = .ok (.aload_n 0, 1) := by decide +kernel
theorem dX7_write_1 : decode cX7_write 1 = .ok (.iload_n 1, 1) := by decide +kernel
theorem dX7_write_2 : decode cX7_write 2 = .ok (.invokevirtual 125, 3) := by decide +kernel
theorem dX7_write_5 : decode cX7_write 5 = .ok (.ifCond .eq 10, 3) := by decide +kernel
theorem dX7_write_8 : decode cX7_write 8 = .ok (.iload_n 2, 1) := by decide +kernel
theorem dX7_write_9 : decode cX7_write 9 = .ok (.invokestatic 152, 3) := by decide +kernel
theorem dX7_write_12 : decode cX7_write 12 = .ok (.ifCond .ne 6, 3) := by decide +kernel
theorem dX7_write_15 : decode cX7_write 15 = .ok (.bipush (-2), 2) := by decide +kernel
theorem dX7_write_17 : decode cX7_write 17 = .ok (.ireturn, 1) := by decide +kernel
theorem dX7_write_18 : decode cX7_write 18 = .ok (.aload_n 0, 1) := by decide +kernel
theorem dX7_write_19 : decode cX7_write 19 = .ok (.getfield 57, 3) := by decide +kernel
theorem dX7_write_22 : decode cX7_write 22 = .ok (.iload_n 2, 1) := by decide +kernel
theorem dX7_write_23 : decode cX7_write 23 = .ok (.invokevirtual 155, 3) := by decide +kernel
theorem dX7_write_26 : decode cX7_write 26 = .ok (.ifCond .eq 9, 3) := by decide +kernel
theorem dX7_write_29 : decode cX7_write 29 = .ok (.aload_n 0, 1) := by decide +kernel
theorem dX7_write_30 : decode cX7_write 30 = .ok (.iconst 1, 1) := by decide +kernel
theorem dX7_write_31 : decode cX7_write 31 = .ok (.invokevirtual 158, 3) := by decide +kernel
theorem dX7_write_34 : decode cX7_write 34 = .ok (.ireturn, 1) := by decide +kernel
theorem dX7_write_35 : decode cX7_write 35 = .ok (.aload_n 0, 1) := by decide +kernel
theorem dX7_write_36 : decode cX7_write 36 = .ok (.invokevirtual 186, 3) := by decide +kernel
theorem dX7_write_39 : decode cX7_write 39 = .ok (.aload_n 0, 1) := by decide +kernel
theorem dX7_write_40 : decode cX7_write 40 = .ok (.getfield 57, 3) := by decide +kernel
theorem dX7_write_43 : decode cX7_write 43 = .ok (.getfield 161, 3) := by decide +kernel
theorem dX7_write_46 : decode cX7_write 46 = .ok (.iload_n 2, 1) := by decide +kernel
theorem dX7_write_47 : decode cX7_write 47 = .ok (.iaload, 1) := by decide +kernel
theorem dX7_write_48 : decode cX7_write 48 = .ok (.aload_n 0, 1) := by decide +kernel
theorem dX7_write_49 : decode cX7_write 49 = .ok (.getfield 33, 3) := by decide +kernel
theorem dX7_write_52 : decode cX7_write 52 = .ok (.iload_n 1, 1) := by decide +kernel
theorem dX7_write_53 : decode cX7_write 53 = .ok (.invokevirtual 181, 3) := by decide +kernel
theorem dX7_write_56 : decode cX7_write 56 = .ok (.invokestatic 316, 3) := by decide +kernel
theorem dX7_write_59 : decode cX7_write 59 = .ok (.istore_n 3, 1) := by decide +kernel
theorem dX7_write_60 : decode cX7_write 60 = .ok (.iconst 0, 1) := by decide +kernel
theorem dX7_write_61 : decode cX7_write 61 = .ok (.istore 4, 2) := by decide +kernel
theorem dX7_write_63 : decode cX7_write 63 = .ok (.iload 4, 2) := by decide +kernel
theorem dX7_write_65 : decode cX7_write 65 = .ok (.iload_n 3, 1) := by decide +kernel
theorem dX7_write_66 : decode cX7_write 66 = .ok (.if_icmp .ge 29, 3) := by decide +kernel
theorem dX7_write_69 : decode cX7_write 69 = .ok (.aload_n 0, 1) := by decide +kernel
theorem dX7_write_70 : decode cX7_write 70 = .ok (.getfield 57, 3) := by decide +kernel
theorem dX7_write_73 : decode cX7_write 73 = .ok (.iload_n 2, 1) := by decide +kernel
theorem dX7_write_74 : decode cX7_write 74 = .ok (.iload 4, 2) := by decide +kernel
theorem dX7_write_76 : decode cX7_write 76 = .ok (.aload_n 0, 1) := by decide +kernel
theorem dX7_write_77 : decode cX7_write 77 = .ok (.getfield 33, 3) := by decide +kernel
theorem dX7_write_80 : decode cX7_write 80 = .ok (.iload_n 1, 1) := by decide +kernel
theorem dX7_write_81 : decode cX7_write 81 = .ok (.iload 4, 2) := by decide +kernel
theorem dX7_write_83 : decode cX7_write 83 = .ok (.invokevirtual 189, 3) := by decide +kernel
theorem dX7_write_86 : decode cX7_write 86 = .ok (.invokevirtual 297, 3) := by decide +kernel
theorem dX7_write_89 : decode cX7_write 89 = .ok (.iinc 4 1, 3) := by decide +kernel
theorem dX7_write_92 : decode cX7_write 92 = .ok (.goto (-29), 3) := by decide +kernel
theorem dX7_write_95 : decode cX7_write 95 = .ok (.iload_n 3, 1) := by decide +kernel
theorem dX7_write_96 : decode cX7_write 96 = .ok (.ireturn, 1) := by decide +kernel
theorem dX7_count_0 : decode cX7_count 0 = .ok (.iload_n 1, 1) := by decide +kernel
theorem dX7_count_1 : decode cX7_count 1 = .ok (.tableswitch 124 0 8 #[51, 59, 67, 75, 83, 91, 99, 111, 119], 51) := by decide +kernel
theorem dX7_count_52 : decode cX7_count 52 = .ok (.aload_n 0, 1) := by decide +kernel
theorem dX7_count_53 : decode cX7_count 53 = .ok (.getfield 24, 3) := by decide +kernel
theorem dX7_count_56 : decode cX7_count 56 = .ok (.getfield 217, 3) := by decide +kernel
theorem dX7_count_59 : decode cX7_count 59 = .ok (.ireturn, 1) := by decide +kernel
theorem dX7_count_60 : decode cX7_count 60 = .ok (.aload_n 0, 1) := by decide +kernel
theorem dX7_count_61 : decode cX7_count 61 = .ok (.getfield 24, 3) := by decide +kernel
theorem dX7_count_64 : decode cX7_count 64 = .ok (.getfield 268, 3) := by decide +kernel
theorem dX7_count_67 : decode cX7_count 67 = .ok (.ireturn, 1) := by decide +kernel
theorem dX7_count_68 : decode cX7_count 68 = .ok (.aload_n 0, 1) := by decide +kernel
theorem dX7_count_69 : decode cX7_count 69 = .ok (.getfield 14, 3) := by decide +kernel
theorem dX7_count_72 : decode cX7_count 72 = .ok (.getfield 104, 3) := by decide +kernel
theorem dX7_count_75 : decode cX7_count 75 = .ok (.ireturn, 1) := by decide +kernel
theorem dX7_count_76 : decode cX7_count 76 = .ok (.aload_n 0, 1) := by decide +kernel
theorem dX7_count_77 : decode cX7_count 77 = .ok (.getfield 18, 3) := by decide +kernel
theorem dX7_count_80 : decode cX7_count 80 = .ok (.getfield 104, 3) := by decide +kernel
theorem dX7_count_83 : decode cX7_count 83 = .ok (.ireturn, 1) := by decide +kernel
theorem dX7_count_84 : decode cX7_count 84 = .ok (.aload_n 0, 1) := by decide +kernel
theorem dX7_count_85 : decode cX7_count 85 = .ok (.getfield 40, 3) := by decide +kernel
theorem dX7_count_88 : decode cX7_count 88 = .ok (.getfield 151, 3) := by decide +kernel
theorem dX7_count_91 : decode cX7_count 91 = .ok (.ireturn, 1) := by decide +kernel
theorem dX7_count_92 : decode cX7_count 92 = .ok (.aload_n 0, 1) := by decide +kernel
theorem dX7_count_93 : decode cX7_count 93 = .ok (.getfield 44, 3) := by decide +kernel
theorem dX7_count_96 : decode cX7_count 96 = .ok (.getfield 151, 3) := by decide +kernel
theorem dX7_count_99 : decode cX7_count 99 = .ok (.ireturn, 1) := by decide +kernel
theorem dX7_count_100 : decode cX7_count 100 = .ok (.aload_n 0, 1) := by decide +kernel
theorem dX7_count_101 : decode cX7_count 101 = .ok (.invokevirtual 186, 3) := by decide +kernel
theorem dX7_count_104 : decode cX7_count 104 = .ok (.aload_n 0, 1) := by decide +kernel
theorem dX7_count_105 : decode cX7_count 105 = .ok (.getfield 33, 3) := by decide +kernel
theorem dX7_count_108 : decode cX7_count 108 = .ok (.getfield 284, 3) := by decide +kernel
theorem dX7_count_111 : decode cX7_count 111 = .ok (.ireturn, 1) := by decide +kernel
theorem dX7_count_112 : decode cX7_count 112 = .ok (.aload_n 0, 1) := by decide +kernel
theorem dX7_count_113 : decode cX7_count 113 = .ok (.getfield 50, 3) := by decide +kernel
theorem dX7_count_116 : decode cX7_count 116 = .ok (.getfield 253, 3) := by decide +kernel
theorem dX7_count_119 : decode cX7_count 119 = .ok (.ireturn, 1) := by decide +kernel
theorem dX7_count_120 : decode cX7_count 120 = .ok (.aload_n 0, 1) := by decide +kernel
theorem dX7_count_121 : decode cX7_count 121 = .ok (.getfield 86, 3) := by decide +kernel
theorem dX7_count_124 : decode cX7_count 124 = .ok (.ireturn, 1) := by decide +kernel
theorem dX7_count_125 : decode cX7_count 125 = .ok (.bipush (-2), 2) := by decide +kernel
theorem dX7_count_127 : decode cX7_count 127 = .ok (.ireturn, 1) := by decide +kernel
theorem dX7_digest_0 : decode cX7_digest 0 = .ok (.ldc2_w 321, 3) := by decide +kernel
theorem dX7_digest_3 : decode cX7_digest 3 = .ok (.lstore_n 1, 1) := by decide +kernel
theorem dX7_digest_4 : decode cX7_digest 4 = .ok (.iconst 0, 1) := by decide +kernel
theorem dX7_digest_5 : decode cX7_digest 5 = .ok (.istore_n 3, 1) := by decide +kernel
theorem dX7_digest_6 : decode cX7_digest 6 = .ok (.iload_n 3, 1) := by decide +kernel
theorem dX7_digest_7 : decode cX7_digest 7 = .ok (.bipush 7, 2) := by decide +kernel
theorem dX7_digest_9 : decode cX7_digest 9 = .ok (.if_icmp .gt 20, 3) := by decide +kernel
theorem dX7_digest_12 : decode cX7_digest 12 = .ok (.lload_n 1, 1) := by decide +kernel
theorem dX7_digest_13 : decode cX7_digest 13 = .ok (.aload_n 0, 1) := by decide +kernel
theorem dX7_digest_14 : decode cX7_digest 14 = .ok (.iload_n 3, 1) := by decide +kernel
theorem dX7_digest_15 : decode cX7_digest 15 = .ok (.invokevirtual 323, 3) := by decide +kernel
theorem dX7_digest_18 : decode cX7_digest 18 = .ok (.i2l, 1) := by decide +kernel
theorem dX7_digest_19 : decode cX7_digest 19 = .ok (.invokestatic 326, 3) := by decide +kernel
theorem dX7_digest_22 : decode cX7_digest 22 = .ok (.lstore_n 1, 1) := by decide +kernel
theorem dX7_digest_23 : decode cX7_digest 23 = .ok (.iinc 3 1, 3) := by decide +kernel
theorem dX7_digest_26 : decode cX7_digest 26 = .ok (.goto (-20), 3) := by decide +kernel
theorem dX7_digest_29 : decode cX7_digest 29 = .ok (.lload_n 1, 1) := by decide +kernel
theorem dX7_digest_30 : decode cX7_digest 30 = .ok (.aload_n 0, 1) := by decide +kernel
theorem dX7_digest_31 : decode cX7_digest 31 = .ok (.iconst 0, 1) := by decide +kernel
theorem dX7_digest_32 : decode cX7_digest 32 = .ok (.invokevirtual 330, 3) := by decide +kernel
theorem dX7_digest_35 : decode cX7_digest 35 = .ok (.i2l, 1) := by decide +kernel
theorem dX7_digest_36 : decode cX7_digest 36 = .ok (.invokestatic 326, 3) := by decide +kernel
theorem dX7_digest_39 : decode cX7_digest 39 = .ok (.aload_n 0, 1) := by decide +kernel
theorem dX7_digest_40 : decode cX7_digest 40 = .ok (.iconst 1, 1) := by decide +kernel
theorem dX7_digest_41 : decode cX7_digest 41 = .ok (.invokevirtual 330, 3) := by decide +kernel
theorem dX7_digest_44 : decode cX7_digest 44 = .ok (.i2l, 1) := by decide +kernel
theorem dX7_digest_45 : decode cX7_digest 45 = .ok (.invokestatic 326, 3) := by decide +kernel
theorem dX7_digest_48 : decode cX7_digest 48 = .ok (.lstore_n 1, 1) := by decide +kernel
theorem dX7_digest_49 : decode cX7_digest 49 = .ok (.iconst 0, 1) := by decide +kernel
theorem dX7_digest_50 : decode cX7_digest 50 = .ok (.istore_n 3, 1) := by decide +kernel
theorem dX7_digest_51 : decode cX7_digest 51 = .ok (.iload_n 3, 1) := by decide +kernel
theorem dX7_digest_52 : decode cX7_digest 52 = .ok (.aload_n 0, 1) := by decide +kernel
theorem dX7_digest_53 : decode cX7_digest 53 = .ok (.getfield 24, 3) := by decide +kernel
theorem dX7_digest_56 : decode cX7_digest 56 = .ok (.getfield 217, 3) := by decide +kernel
theorem dX7_digest_59 : decode cX7_digest 59 = .ok (.if_icmp .ge 16, 3) := by decide +kernel
theorem dX7_digest_62 : decode cX7_digest 62 = .ok (.aload_n 0, 1) := by decide +kernel
theorem dX7_digest_63 : decode cX7_digest 63 = .ok (.lload_n 1, 1) := by decide +kernel
theorem dX7_digest_64 : decode cX7_digest 64 = .ok (.iload_n 3, 1) := by decide +kernel
theorem dX7_digest_65 : decode cX7_digest 65 = .ok (.invokevirtual 333, 3) := by decide +kernel
theorem dX7_digest_68 : decode cX7_digest 68 = .ok (.lstore_n 1, 1) := by decide +kernel
theorem dX7_digest_69 : decode cX7_digest 69 = .ok (.iinc 3 1, 3) := by decide +kernel
theorem dX7_digest_72 : decode cX7_digest 72 = .ok (.goto (-21), 3) := by decide +kernel
theorem dX7_digest_75 : decode cX7_digest 75 = .ok (.iconst 0, 1) := by decide +kernel
theorem dX7_digest_76 : decode cX7_digest 76 = .ok (.istore_n 3, 1) := by decide +kernel
theorem dX7_digest_77 : decode cX7_digest 77 = .ok (.iload_n 3, 1) := by decide +kernel
