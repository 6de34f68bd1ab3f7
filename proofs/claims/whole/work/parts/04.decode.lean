theorem dX0_init_0 : decode cX0_init 0 = .ok (.aload_n 0, 1) := by decide +kernel
theorem dX0_init_1 : decode cX0_init 1 = .ok (.invokespecial 3, 3) := by decide +kernel
theorem dX0_init_4 : decode cX0_init 4 = .ok (.aload_n 0, 1) := by decide +kernel
theorem dX0_init_5 : decode cX0_init 5 = .ok (.bipush 12, 2) := by decide +kernel
theorem dX0_init_7 : decode cX0_init 7 = .ok (.newarray .int, 2) := by decide +kernel
theorem dX0_init_9 : decode cX0_init 9 = .ok (.putfield 9, 3) := by decide +kernel
theorem dX0_init_12 : decode cX0_init 12 = .ok (.aload_n 0, 1) := by decide +kernel
theorem dX0_init_13 : decode cX0_init 13 = .ok (.bipush 12, 2) := by decide +kernel
theorem dX0_init_15 : decode cX0_init 15 = .ok (.newarray .int, 2) := by decide +kernel
theorem dX0_init_17 : decode cX0_init 17 = .ok (.putfield 15, 3) := by decide +kernel
theorem dX0_init_20 : decode cX0_init 20 = .ok (.return_, 1) := by decide +kernel
theorem dX0_add_0 : decode cX0_add 0 = .ok (.aload_n 0, 1) := by decide +kernel
theorem dX0_add_1 : decode cX0_add 1 = .ok (.getfield 18, 3) := by decide +kernel
theorem dX0_add_4 : decode cX0_add 4 = .ok (.bipush 12, 2) := by decide +kernel
theorem dX0_add_6 : decode cX0_add 6 = .ok (.if_icmp .ge 33, 3) := by decide +kernel
theorem dX0_add_9 : decode cX0_add 9 = .ok (.aload_n 0, 1) := by decide +kernel
theorem dX0_add_10 : decode cX0_add 10 = .ok (.getfield 9, 3) := by decide +kernel
theorem dX0_add_13 : decode cX0_add 13 = .ok (.aload_n 0, 1) := by decide +kernel
theorem dX0_add_14 : decode cX0_add 14 = .ok (.getfield 18, 3) := by decide +kernel
theorem dX0_add_17 : decode cX0_add 17 = .ok (.iload_n 1, 1) := by decide +kernel
theorem dX0_add_18 : decode cX0_add 18 = .ok (.iastore, 1) := by decide +kernel
theorem dX0_add_19 : decode cX0_add 19 = .ok (.aload_n 0, 1) := by decide +kernel
theorem dX0_add_20 : decode cX0_add 20 = .ok (.getfield 15, 3) := by decide +kernel
theorem dX0_add_23 : decode cX0_add 23 = .ok (.aload_n 0, 1) := by decide +kernel
theorem dX0_add_24 : decode cX0_add 24 = .ok (.getfield 18, 3) := by decide +kernel
theorem dX0_add_27 : decode cX0_add 27 = .ok (.iload_n 2, 1) := by decide +kernel
theorem dX0_add_28 : decode cX0_add 28 = .ok (.iastore, 1) := by decide +kernel
theorem dX0_add_29 : decode cX0_add 29 = .ok (.aload_n 0, 1) := by decide +kernel
theorem dX0_add_30 : decode cX0_add 30 = .ok (.dup, 1) := by decide +kernel
theorem dX0_add_31 : decode cX0_add 31 = .ok (.getfield 18, 3) := by decide +kernel
theorem dX0_add_34 : decode cX0_add 34 = .ok (.iconst 1, 1) := by decide +kernel
theorem dX0_add_35 : decode cX0_add 35 = .ok (.iadd, 1) := by decide +kernel
theorem dX0_add_36 : decode cX0_add 36 = .ok (.putfield 18, 3) := by decide +kernel
theorem dX0_add_39 : decode cX0_add 39 = .ok (.return_, 1) := by decide +kernel
theorem dX0_takeAll_0 : decode cX0_takeAll 0 = .ok (.aload_n 1, 1) := by decide +kernel
theorem dX0_takeAll_1 : decode cX0_takeAll 1 = .ok (.getfield 9, 3) := by decide +kernel
theorem dX0_takeAll_4 : decode cX0_takeAll 4 = .ok (.iconst 0, 1) := by decide +kernel
theorem dX0_takeAll_5 : decode cX0_takeAll 5 = .ok (.aload_n 0, 1) := by decide +kernel
theorem dX0_takeAll_6 : decode cX0_takeAll 6 = .ok (.getfield 9, 3) := by decide +kernel
theorem dX0_takeAll_9 : decode cX0_takeAll 9 = .ok (.iconst 0, 1) := by decide +kernel
theorem dX0_takeAll_10 : decode cX0_takeAll 10 = .ok (.bipush 12, 2) := by decide +kernel
theorem dX0_takeAll_12 : decode cX0_takeAll 12 = .ok (.invokestatic 22, 3) := by decide +kernel
theorem dX0_takeAll_15 : decode cX0_takeAll 15 = .ok (.aload_n 1, 1) := by decide +kernel
theorem dX0_takeAll_16 : decode cX0_takeAll 16 = .ok (.getfield 15, 3) := by decide +kernel
theorem dX0_takeAll_19 : decode cX0_takeAll 19 = .ok (.iconst 0, 1) := by decide +kernel
theorem dX0_takeAll_20 : decode cX0_takeAll 20 = .ok (.aload_n 0, 1) := by decide +kernel
theorem dX0_takeAll_21 : decode cX0_takeAll 21 = .ok (.getfield 15, 3) := by decide +kernel
theorem dX0_takeAll_24 : decode cX0_takeAll 24 = .ok (.iconst 0, 1) := by decide +kernel
theorem dX0_takeAll_25 : decode cX0_takeAll 25 = .ok (.bipush 12, 2) := by decide +kernel
theorem dX0_takeAll_27 : decode cX0_takeAll 27 = .ok (.invokestatic 22, 3) := by decide +kernel
theorem dX0_takeAll_30 : decode cX0_takeAll 30 = .ok (.aload_n 0, 1) := by decide +kernel
theorem dX0_takeAll_31 : decode cX0_takeAll 31 = .ok (.aload_n 1, 1) := by decide +kernel
theorem dX0_takeAll_32 : decode cX0_takeAll 32 = .ok (.getfield 18, 3) := by decide +kernel
theorem dX0_takeAll_35 : decode cX0_takeAll 35 = .ok (.putfield 18, 3) := by decide +kernel
theorem dX0_takeAll_38 : decode cX0_takeAll 38 = .ok (.return_, 1) := by decide +kernel
theorem dX1_init_0 : decode cX1_init 0 = .ok (.aload_n 0, 1) := by decide +kernel
theorem dX1_init_1 : decode cX1_init 1 = .ok (.invokespecial 3, 3) := by decide +kernel
theorem dX1_init_4 : decode cX1_init 4 = .ok (.aload_n 0, 1) := by decide +kernel
theorem dX1_init_5 : decode cX1_init 5 = .ok (.bipush 6, 2) := by decide +kernel
theorem dX1_init_7 : decode cX1_init 7 = .ok (.bipush 8, 2) := by decide +kernel
theorem dX1_init_9 : decode cX1_init 9 = .ok (.multianewarray 9 2, 4) := by decide +kernel
theorem dX1_init_13 : decode cX1_init 13 = .ok (.putfield 11, 3) := by decide +kernel
theorem dX1_init_16 : decode cX1_init 16 = .ok (.aload_n 0, 1) := by decide +kernel
theorem dX1_init_17 : decode cX1_init 17 = .ok (.bipush 6, 2) := by decide +kernel
theorem dX1_init_19 : decode cX1_init 19 = .ok (.newarray .int, 2) := by decide +kernel
theorem dX1_init_21 : decode cX1_init 21 = .ok (.putfield 16, 3) := by decide +kernel
theorem dX1_init_24 : decode cX1_init 24 = .ok (.aload_n 0, 1) := by decide +kernel
theorem dX1_init_25 : decode cX1_init 25 = .ok (.invokevirtual 20, 3) := by decide +kernel
theorem dX1_init_28 : decode cX1_init 28 = .ok (.return_, 1) := by decide +kernel
theorem dX1_clear_0 : decode cX1_clear 0 = .ok (.aload_n 0, 1) := by decide +kernel
theorem dX1_clear_1 : decode cX1_clear 1 = .ok (.getfield 16, 3) := by decide +kernel
theorem dX1_clear_4 : decode cX1_clear 4 = .ok (.iconst (-1), 1) := by decide +kernel
theorem dX1_clear_5 : decode cX1_clear 5 = .ok (.invokestatic 23, 3) := by decide +kernel
theorem dX1_clear_8 : decode cX1_clear 8 = .ok (.return_, 1) := by decide +kernel
theorem dX1_countFound_0 : decode cX1_countFound 0 = .ok (.iconst 0, 1) := by decide +kernel
theorem dX1_countFound_1 : decode cX1_countFound 1 = .ok (.istore_n 1, 1) := by decide +kernel
theorem dX1_countFound_2 : decode cX1_countFound 2 = .ok (.aload_n 0, 1) := by decide +kernel
theorem dX1_countFound_3 : decode cX1_countFound 3 = .ok (.getfield 16, 3) := by decide +kernel
theorem dX1_countFound_6 : decode cX1_countFound 6 = .ok (.astore_n 2, 1) := by decide +kernel
theorem dX1_countFound_7 : decode cX1_countFound 7 = .ok (.aload_n 2, 1) := by decide +kernel
theorem dX1_countFound_8 : decode cX1_countFound 8 = .ok (.arraylength, 1) := by decide +kernel
theorem dX1_countFound_9 : decode cX1_countFound 9 = .ok (.istore_n 3, 1) := by decide +kernel
theorem dX1_countFound_10 : decode cX1_countFound 10 = .ok (.iconst 0, 1) := by decide +kernel
theorem dX1_countFound_11 : decode cX1_countFound 11 = .ok (.istore 4, 2) := by decide +kernel
theorem dX1_countFound_13 : decode cX1_countFound 13 = .ok (.iload 4, 2) := by decide +kernel
theorem dX1_countFound_15 : decode cX1_countFound 15 = .ok (.iload_n 3, 1) := by decide +kernel
theorem dX1_countFound_16 : decode cX1_countFound 16 = .ok (.if_icmp .ge 29, 3) := by decide +kernel
theorem dX1_countFound_19 : decode cX1_countFound 19 = .ok (.aload_n 2, 1) := by decide +kernel
theorem dX1_countFound_20 : decode cX1_countFound 20 = .ok (.iload 4, 2) := by decide +kernel
theorem dX1_countFound_22 : decode cX1_countFound 22 = .ok (.iaload, 1) := by decide +kernel
theorem dX1_countFound_23 : decode cX1_countFound 23 = .ok (.istore 5, 2) := by decide +kernel
theorem dX1_countFound_25 : decode cX1_countFound 25 = .ok (.iload_n 1, 1) := by decide +kernel
theorem dX1_countFound_26 : decode cX1_countFound 26 = .ok (.iload 5, 2) := by decide +kernel
theorem dX1_countFound_28 : decode cX1_countFound 28 = .ok (.iconst (-1), 1) := by decide +kernel
theorem dX1_countFound_29 : decode cX1_countFound 29 = .ok (.if_icmp .ne 7, 3) := by decide +kernel
theorem dX1_countFound_32 : decode cX1_countFound 32 = .ok (.iconst 0, 1) := by decide +kernel
theorem dX1_countFound_33 : decode cX1_countFound 33 = .ok (.goto 4, 3) := by decide +kernel
theorem dX1_countFound_36 : decode cX1_countFound 36 = .ok (.iconst 1, 1) := by decide +kernel
theorem dX1_countFound_37 : decode cX1_countFound 37 = .ok (.iadd, 1) := by decide +kernel
theorem dX1_countFound_38 : decode cX1_countFound 38 = .ok (.istore_n 1, 1) := by decide +kernel
theorem dX1_countFound_39 : decode cX1_countFound 39 = .ok (.iinc 4 1, 3) := by decide +kernel
theorem dX1_countFound_42 : decode cX1_countFound 42 = .ok (.goto (-29), 3) := by decide +kernel
theorem dX1_countFound_45 : decode cX1_countFound 45 = .ok (.iload_n 1, 1) := by decide +kernel
theorem dX1_countFound_46 : decode cX1_countFound 46 = .ok (.ireturn, 1) := by decide +kernel
theorem dX1_fit_0 : decode cX1_fit 0 = .ok (.iconst 0, 1) := by decide +kernel
theorem dX1_fit_1 : decode cX1_fit 1 = .ok (.istore_n 2, 1) := by decide +kernel
theorem dX1_fit_2 : decode cX1_fit 2 = .ok (.iload_n 2, 1) := by decide +kernel
theorem dX1_fit_3 : decode cX1_fit 3 = .ok (.bipush 6, 2) := by decide +kernel
theorem dX1_fit_5 : decode cX1_fit 5 = .ok (.if_icmp .ge 41, 3) := by decide +kernel
theorem dX1_fit_8 : decode cX1_fit 8 = .ok (.aload_n 0, 1) := by decide +kernel
theorem dX1_fit_9 : decode cX1_fit 9 = .ok (.getfield 16, 3) := by decide +kernel
theorem dX1_fit_12 : decode cX1_fit 12 = .ok (.iload_n 2, 1) := by decide +kernel
theorem dX1_fit_13 : decode cX1_fit 13 = .ok (.iaload, 1) := by decide +kernel
theorem dX1_fit_14 : decode cX1_fit 14 = .ok (.iconst (-1), 1) := by decide +kernel
theorem dX1_fit_15 : decode cX1_fit 15 = .ok (.if_icmp .eq 25, 3) := by decide +kernel
theorem dX1_fit_18 : decode cX1_fit 18 = .ok (.aload_n 1, 1) := by decide +kernel
theorem dX1_fit_19 : decode cX1_fit 19 = .ok (.iload_n 2, 1) := by decide +kernel
theorem dX1_fit_20 : decode cX1_fit 20 = .ok (.aload_n 0, 1) := by decide +kernel
theorem dX1_fit_21 : decode cX1_fit 21 = .ok (.getfield 11, 3) := by decide +kernel
theorem dX1_fit_24 : decode cX1_fit 24 = .ok (.iload_n 2, 1) := by decide +kernel
theorem dX1_fit_25 : decode cX1_fit 25 = .ok (.aaload, 1) := by decide +kernel
theorem dX1_fit_26 : decode cX1_fit 26 = .ok (.aload_n 0, 1) := by decide +kernel
theorem dX1_fit_27 : decode cX1_fit 27 = .ok (.getfield 16, 3) := by decide +kernel
theorem dX1_fit_30 : decode cX1_fit 30 = .ok (.iload_n 2, 1) := by decide +kernel
theorem dX1_fit_31 : decode cX1_fit 31 = .ok (.iaload, 1) := by decide +kernel
theorem dX1_fit_32 : decode cX1_fit 32 = .ok (.invokevirtual 29, 3) := by decide +kernel
theorem dX1_fit_35 : decode cX1_fit 35 = .ok (.ifCond .ne 5, 3) := by decide +kernel
theorem dX1_fit_38 : decode cX1_fit 38 = .ok (.iconst 0, 1) := by decide +kernel
theorem dX1_fit_39 : decode cX1_fit 39 = .ok (.ireturn, 1) := by decide +kernel
theorem dX1_fit_40 : decode cX1_fit 40 = .ok (.iinc 2 1, 3) := by decide +kernel
theorem dX1_fit_43 : decode cX1_fit 43 = .ok (.goto (-41), 3) := by decide +kernel
theorem dX1_fit_46 : decode cX1_fit 46 = .ok (.iconst 1, 1) := by decide +kernel
theorem dX1_fit_47 : decode cX1_fit 47 = .ok (.ireturn, 1) := by decide +kernel
theorem dX1_takeAll_0 : decode cX1_takeAll 0 = .ok (.aload_n 1, 1) := by decide +kernel
theorem dX1_takeAll_1 : decode cX1_takeAll 1 = .ok (.getfield 16, 3) := by decide +kernel
theorem dX1_takeAll_4 : decode cX1_takeAll 4 = .ok (.iconst 0, 1) := by decide +kernel
theorem dX1_takeAll_5 : decode cX1_takeAll 5 = .ok (.aload_n 0, 1) := by decide +kernel
theorem dX1_takeAll_6 : decode cX1_takeAll 6 = .ok (.getfield 16, 3) := by decide +kernel
theorem dX1_takeAll_9 : decode cX1_takeAll 9 = .ok (.iconst 0, 1) := by decide +kernel
theorem dX1_takeAll_10 : decode cX1_takeAll 10 = .ok (.bipush 6, 2) := by decide +kernel
theorem dX1_takeAll_12 : decode cX1_takeAll 12 = .ok (.invokestatic 35, 3) := by decide +kernel
theorem dX1_takeAll_15 : decode cX1_takeAll 15 = .ok (.iconst 0, 1) := by decide +kernel
theorem dX1_takeAll_16 : decode cX1_takeAll 16 = .ok (.istore_n 2, 1) := by decide +kernel
theorem dX1_takeAll_17 : decode cX1_takeAll 17 = .ok (.iload_n 2, 1) := by decide +kernel
theorem dX1_takeAll_18 : decode cX1_takeAll 18 = .ok (.bipush 6, 2) := by decide +kernel
theorem dX1_takeAll_20 : decode cX1_takeAll 20 = .ok (.if_icmp .ge 28, 3) := by decide +kernel
theorem dX1_takeAll_23 : decode cX1_takeAll 23 = .ok (.aload_n 1, 1) := by decide +kernel
theorem dX1_takeAll_24 : decode cX1_takeAll 24 = .ok (.getfield 11, 3) := by decide +kernel
theorem dX1_takeAll_27 : decode cX1_takeAll 27 = .ok (.iload_n 2, 1) := by decide +kernel
theorem dX1_takeAll_28 : decode cX1_takeAll 28 = .ok (.aaload, 1) := by decide +kernel
theorem dX1_takeAll_29 : decode cX1_takeAll 29 = .ok (.iconst 0, 1) := by decide +kernel
theorem dX1_takeAll_30 : decode cX1_takeAll 30 = .ok (.aload_n 0, 1) := by decide +kernel
theorem dX1_takeAll_31 : decode cX1_takeAll 31 = .ok (.getfield 11, 3) := by decide +kernel
theorem dX1_takeAll_34 : decode cX1_takeAll 34 = .ok (.iload_n 2, 1) := by decide +kernel
theorem dX1_takeAll_35 : decode cX1_takeAll 35 = .ok (.aaload, 1) := by decide +kernel
theorem dX1_takeAll_36 : decode cX1_takeAll 36 = .ok (.iconst 0, 1) := by decide +kernel
theorem dX1_takeAll_37 : decode cX1_takeAll 37 = .ok (.bipush 8, 2) := by decide +kernel
theorem dX1_takeAll_39 : decode cX1_takeAll 39 = .ok (.invokestatic 35, 3) := by decide +kernel
theorem dX1_takeAll_42 : decode cX1_takeAll 42 = .ok (.iinc 2 1, 3) := by decide +kernel
theorem dX1_takeAll_45 : decode cX1_takeAll 45 = .ok (.goto (-28), 3) := by decide +kernel
theorem dX1_takeAll_48 : decode cX1_takeAll 48 = .ok (.return_, 1) := by decide +kernel
theorem dX2_init_0 : decode cX2_init 0 = .ok (.aload_n 0, 1) := by decide +kernel
theorem dX2_init_1 : decode cX2_init 1 = .ok (.invokespecial 3, 3) := by decide +kernel
theorem dX2_init_4 : decode cX2_init 4 = .ok (.aload_n 0, 1) := by decide +kernel
theorem dX2_init_5 : decode cX2_init 5 = .ok (.bipush 20, 2) := by decide +kernel
theorem dX2_init_7 : decode cX2_init 7 = .ok (.newarray .int, 2) := by decide +kernel
theorem dX2_init_9 : decode cX2_init 9 = .ok (.putfield 9, 3) := by decide +kernel
theorem dX2_init_12 : decode cX2_init 12 = .ok (.return_, 1) := by decide +kernel
theorem dX2_firstFault_0 : decode cX2_firstFault 0 = .ok (.iconst 0, 1) := by decide +kernel
theorem dX2_firstFault_1 : decode cX2_firstFault 1 = .ok (.istore_n 2, 1) := by decide +kernel
theorem dX2_firstFault_2 : decode cX2_firstFault 2 = .ok (.iload_n 2, 1) := by decide +kernel
theorem dX2_firstFault_3 : decode cX2_firstFault 3 = .ok (.aload_n 0, 1) := by decide +kernel
theorem dX2_firstFault_4 : decode cX2_firstFault 4 = .ok (.getfield 15, 3) := by decide +kernel
theorem dX2_firstFault_7 : decode cX2_firstFault 7 = .ok (.if_icmp .ge 33, 3) := by decide +kernel
theorem dX2_firstFault_10 : decode cX2_firstFault 10 = .ok (.iload_n 1, 1) := by decide +kernel
theorem dX2_firstFault_11 : decode cX2_firstFault 11 = .ok (.ifCond .ne 11, 3) := by decide +kernel
theorem dX2_firstFault_14 : decode cX2_firstFault 14 = .ok (.aload_n 0, 1) := by decide +kernel
theorem dX2_firstFault_15 : decode cX2_firstFault 15 = .ok (.iload_n 2, 1) := by decide +kernel
theorem dX2_firstFault_16 : decode cX2_firstFault 16 = .ok (.invokevirtual 19, 3) := by decide +kernel
theorem dX2_firstFault_19 : decode cX2_firstFault 19 = .ok (.goto 8, 3) := by decide +kernel
theorem dX2_firstFault_22 : decode cX2_firstFault 22 = .ok (.aload_n 0, 1) := by decide +kernel
theorem dX2_firstFault_23 : decode cX2_firstFault 23 = .ok (.iload_n 2, 1) := by decide +kernel
theorem dX2_firstFault_24 : decode cX2_firstFault 24 = .ok (.invokevirtual 23, 3) := by decide +kernel
theorem dX2_firstFault_27 : decode cX2_firstFault 27 = .ok (.istore_n 3, 1) := by decide +kernel
theorem dX2_firstFault_28 : decode cX2_firstFault 28 = .ok (.iload_n 3, 1) := by decide +kernel
theorem dX2_firstFault_29 : decode cX2_firstFault 29 = .ok (.ifCond .ne 5, 3) := by decide +kernel
theorem dX2_firstFault_32 : decode cX2_firstFault 32 = .ok (.iload_n 2, 1) := by decide +kernel
theorem dX2_firstFault_33 : decode cX2_firstFault 33 = .ok (.ireturn, 1) := by decide +kernel
theorem dX2_firstFault_34 : decode cX2_firstFault 34 = .ok (.iinc 2 1, 3) := by decide +kernel
theorem dX2_firstFault_37 : decode cX2_firstFault 37 = .ok (.goto (-35), 3) := by decide +kernel
theorem dX2_firstFault_40 : decode cX2_firstFault 40 = .ok (.aload_n 0, 1) := by decide +kernel
theorem dX2_firstFault_41 : decode cX2_firstFault 41 = .ok (.getfield 15, 3) := by decide +kernel
theorem dX2_firstFault_44 : decode cX2_firstFault 44 = .ok (.ireturn, 1) := by decide +kernel
theorem dX2_isStreet_0 : decode cX2_isStreet 0 = .ok (.aload_n 0, 1) := by decide +kernel
theorem dX2_isStreet_1 : decode cX2_isStreet 1 = .ok (.getfield 15, 3) := by decide +kernel
theorem dX2_isStreet_4 : decode cX2_isStreet 4 = .ok (.bipush 17, 2) := by decide +kernel
theorem dX2_isStreet_6 : decode cX2_isStreet 6 = .ok (.if_icmp .ne 19, 3) := by decide +kernel
theorem dX2_isStreet_9 : decode cX2_isStreet 9 = .ok (.aload_n 0, 1) := by decide +kernel
theorem dX2_isStreet_10 : decode cX2_isStreet 10 = .ok (.iconst 0, 1) := by decide +kernel
theorem dX2_isStreet_11 : decode cX2_isStreet 11 = .ok (.invokevirtual 26, 3) := by decide +kernel
theorem dX2_isStreet_14 : decode cX2_isStreet 14 = .ok (.aload_n 0, 1) := by decide +kernel
theorem dX2_isStreet_15 : decode cX2_isStreet 15 = .ok (.getfield 15, 3) := by decide +kernel
theorem dX2_isStreet_18 : decode cX2_isStreet 18 = .ok (.if_icmp .ne 7, 3) := by decide +kernel
theorem dX2_isStreet_21 : decode cX2_isStreet 21 = .ok (.iconst 1, 1) := by decide +kernel
theorem dX2_isStreet_22 : decode cX2_isStreet 22 = .ok (.goto 4, 3) := by decide +kernel
theorem dX2_isStreet_25 : decode cX2_isStreet 25 = .ok (.iconst 0, 1) := by decide +kernel
theorem dX2_isStreet_26 : decode cX2_isStreet 26 = .ok (.ireturn, 1) := by decide +kernel
theorem dX2_isWord_0 : decode cX2_isWord 0 = .ok (.aload_n 0, 1) := by decide +kernel
theorem dX2_isWord_1 : decode cX2_isWord 1 = .ok (.getfield 15, 3) := by decide +kernel
theorem dX2_isWord_4 : decode cX2_isWord 4 = .ok (.ifCond .le 19, 3) := by decide +kernel
theorem dX2_isWord_7 : decode cX2_isWord 7 = .ok (.aload_n 0, 1) := by decide +kernel
theorem dX2_isWord_8 : decode cX2_isWord 8 = .ok (.iconst 1, 1) := by decide +kernel
theorem dX2_isWord_9 : decode cX2_isWord 9 = .ok (.invokevirtual 26, 3) := by decide +kernel
theorem dX2_isWord_12 : decode cX2_isWord 12 = .ok (.aload_n 0, 1) := by decide +kernel
theorem dX2_isWord_13 : decode cX2_isWord 13 = .ok (.getfield 15, 3) := by decide +kernel
theorem dX2_isWord_16 : decode cX2_isWord 16 = .ok (.if_icmp .ne 7, 3) := by decide +kernel
theorem dX2_isWord_19 : decode cX2_isWord 19 = .ok (.iconst 1, 1) := by decide +kernel
theorem dX2_isWord_20 : decode cX2_isWord 20 = .ok (.goto 4, 3) := by decide +kernel
theorem dX2_isWord_23 : decode cX2_isWord 23 = .ok (.iconst 0, 1) := by decide +kernel
theorem dX2_isWord_24 : decode cX2_isWord 24 = .ok (.ireturn, 1) := by decide +kernel
theorem dX2_kindAt_0 : decode cX2_kindAt 0 = .ok (.ldc 30, 2) := by decide +kernel
theorem dX2_kindAt_2 : decode cX2_kindAt 2 = .ok (.aload_n 0, 1) := by decide +kernel
theorem dX2_kindAt_3 : decode cX2_kindAt 3 = .ok (.getfield 9, 3) := by decide +kernel
theorem dX2_kindAt_6 : decode cX2_kindAt 6 = .ok (.iload_n 1, 1) := by decide +kernel
theorem dX2_kindAt_7 : decode cX2_kindAt 7 = .ok (.iaload, 1) := by decide +kernel
theorem dX2_kindAt_8 : decode cX2_kindAt 8 = .ok (.i2c, 1) := by decide +kernel
theorem dX2_kindAt_9 : decode cX2_kindAt 9 = .ok (.invokevirtual 32, 3) := by decide +kernel
theorem dX2_kindAt_12 : decode cX2_kindAt 12 = .ok (.ireturn, 1) := by decide +kernel
theorem dX2_flowAt_0 : decode cX2_flowAt 0 = .ok (.aload_n 0, 1) := by decide +kernel
theorem dX2_flowAt_1 : decode cX2_flowAt 1 = .ok (.getfield 9, 3) := by decide +kernel
theorem dX2_flowAt_4 : decode cX2_flowAt 4 = .ok (.iload_n 1, 1) := by decide +kernel
theorem dX2_flowAt_5 : decode cX2_flowAt 5 = .ok (.iaload, 1) := by decide +kernel
theorem dX2_flowAt_6 : decode cX2_flowAt 6 = .ok (.istore_n 3, 1) := by decide +kernel
theorem dX2_flowAt_7 : decode cX2_flowAt 7 = .ok (.iload_n 3, 1) := by decide +kernel
theorem dX2_flowAt_8 : decode cX2_flowAt 8 = .ok (.bipush 45, 2) := by decide +kernel
theorem dX2_flowAt_10 : decode cX2_flowAt 10 = .ok (.if_icmp .ne 5, 3) := by decide +kernel
theorem dX2_flowAt_13 : decode cX2_flowAt 13 = .ok (.iconst (-1), 1) := by decide +kernel
theorem dX2_flowAt_14 : decode cX2_flowAt 14 = .ok (.ireturn, 1) := by decide +kernel
theorem dX2_flowAt_15 : decode cX2_flowAt 15 = .ok (.iload_n 3, 1) := by decide +kernel
theorem dX2_flowAt_16 : decode cX2_flowAt 16 = .ok (.bipush 48, 2) := by decide +kernel
theorem dX2_flowAt_18 : decode cX2_flowAt 18 = .ok (.isub, 1) := by decide +kernel
theorem dX2_flowAt_19 : decode cX2_flowAt 19 = .ok (.istore 4, 2) := by decide +kernel
theorem dX2_flowAt_21 : decode cX2_flowAt 21 = .ok (.iload 4, 2) := by decide +kernel
theorem dX2_flowAt_23 : decode cX2_flowAt 23 = .ok (.iload_n 2, 1) := by decide +kernel
theorem dX2_flowAt_24 : decode cX2_flowAt 24 = .ok (.if_icmp .le 15, 3) := by decide +kernel
theorem dX2_flowAt_27 : decode cX2_flowAt 27 = .ok (.iload 4, 2) := by decide +kernel
theorem dX2_flowAt_29 : decode cX2_flowAt 29 = .ok (.bipush 6, 2) := by decide +kernel
theorem dX2_flowAt_31 : decode cX2_flowAt 31 = .ok (.if_icmp .ge 8, 3) := by decide +kernel
theorem dX2_flowAt_34 : decode cX2_flowAt 34 = .ok (.iload 4, 2) := by decide +kernel
theorem dX2_flowAt_36 : decode cX2_flowAt 36 = .ok (.goto 5, 3) := by decide +kernel
theorem dX2_flowAt_39 : decode cX2_flowAt 39 = .ok (.bipush (-101), 2) := by decide +kernel
theorem dX2_flowAt_41 : decode cX2_flowAt 41 = .ok (.ireturn, 1) := by decide +kernel
theorem dX2_copyLetters_0 : decode cX2_copyLetters 0 = .ok (.iconst 0, 1) := by decide +kernel
theorem dX2_copyLetters_1 : decode cX2_copyLetters 1 = .ok (.istore_n 2, 1) := by decide +kernel
theorem dX2_copyLetters_2 : decode cX2_copyLetters 2 = .ok (.iload_n 2, 1) := by decide +kernel
theorem dX2_copyLetters_3 : decode cX2_copyLetters 3 = .ok (.aload_n 0, 1) := by decide +kernel
theorem dX2_copyLetters_4 : decode cX2_copyLetters 4 = .ok (.getfield 15, 3) := by decide +kernel
theorem dX2_copyLetters_7 : decode cX2_copyLetters 7 = .ok (.if_icmp .ge 27, 3) := by decide +kernel
theorem dX2_copyLetters_10 : decode cX2_copyLetters 10 = .ok (.iload_n 2, 1) := by decide +kernel
theorem dX2_copyLetters_11 : decode cX2_copyLetters 11 = .ok (.aload_n 1, 1) := by decide +kernel
theorem dX2_copyLetters_12 : decode cX2_copyLetters 12 = .ok (.arraylength, 1) := by decide +kernel
theorem dX2_copyLetters_13 : decode cX2_copyLetters 13 = .ok (.if_icmp .ge 21, 3) := by decide +kernel
theorem dX2_copyLetters_16 : decode cX2_copyLetters 16 = .ok (.aload_n 1, 1) := by decide +kernel
theorem dX2_copyLetters_17 : decode cX2_copyLetters 17 = .ok (.iload_n 2, 1) := by decide +kernel
theorem dX2_copyLetters_18 : decode cX2_copyLetters 18 = .ok (.aload_n 0, 1) := by decide +kernel
theorem dX2_copyLetters_19 : decode cX2_copyLetters 19 = .ok (.getfield 9, 3) := by decide +kernel
theorem dX2_copyLetters_22 : decode cX2_copyLetters 22 = .ok (.iload_n 2, 1) := by decide +kernel
theorem dX2_copyLetters_23 : decode cX2_copyLetters 23 = .ok (.iaload, 1) := by decide +kernel
theorem dX2_copyLetters_24 : decode cX2_copyLetters 24 = .ok (.bipush 97, 2) := by decide +kernel
theorem dX2_copyLetters_26 : decode cX2_copyLetters 26 = .ok (.isub, 1) := by decide +kernel
theorem dX2_copyLetters_27 : decode cX2_copyLetters 27 = .ok (.iastore, 1) := by decide +kernel
theorem dX2_copyLetters_28 : decode cX2_copyLetters 28 = .ok (.iinc 2 1, 3) := by decide +kernel
theorem dX2_copyLetters_31 : decode cX2_copyLetters 31 = .ok (.goto (-29), 3) := by decide +kernel
theorem dX2_copyLetters_34 : decode cX2_copyLetters 34 = .ok (.return_, 1) := by decide +kernel
theorem dX2_fitsStreet_0 : decode cX2_fitsStreet 0 = .ok (.iload_n 1, 1) := by decide +kernel
theorem dX2_fitsStreet_1 : decode cX2_fitsStreet 1 = .ok (.bipush 17, 2) := by decide +kernel
theorem dX2_fitsStreet_3 : decode cX2_fitsStreet 3 = .ok (.if_icmp .lt 5, 3) := by decide +kernel
theorem dX2_fitsStreet_6 : decode cX2_fitsStreet 6 = .ok (.iconst 0, 1) := by decide +kernel
theorem dX2_fitsStreet_7 : decode cX2_fitsStreet 7 = .ok (.ireturn, 1) := by decide +kernel
theorem dX2_fitsStreet_8 : decode cX2_fitsStreet 8 = .ok (.iload_n 1, 1) := by decide +kernel
theorem dX2_fitsStreet_9 : decode cX2_fitsStreet 9 = .ok (.iconst 3, 1) := by decide +kernel
theorem dX2_fitsStreet_10 : decode cX2_fitsStreet 10 = .ok (.irem, 1) := by decide +kernel
theorem dX2_fitsStreet_11 : decode cX2_fitsStreet 11 = .ok (.lookupswitch 58 #[(0, 25), (1, 39)], 25) := by decide +kernel
theorem dX2_fitsStreet_36 : decode cX2_fitsStreet 36 = .ok (.aload_n 0, 1) := by decide +kernel
theorem dX2_fitsStreet_37 : decode cX2_fitsStreet 37 = .ok (.iload_n 1, 1) := by decide +kernel
theorem dX2_fitsStreet_38 : decode cX2_fitsStreet 38 = .ok (.invokevirtual 37, 3) := by decide +kernel
theorem dX2_fitsStreet_41 : decode cX2_fitsStreet 41 = .ok (.ifCond .lt 7, 3) := by decide +kernel
theorem dX2_fitsStreet_44 : decode cX2_fitsStreet 44 = .ok (.iconst 1, 1) := by decide +kernel
theorem dX2_fitsStreet_45 : decode cX2_fitsStreet 45 = .ok (.goto 4, 3) := by decide +kernel
theorem dX2_fitsStreet_48 : decode cX2_fitsStreet 48 = .ok (.iconst 0, 1) := by decide +kernel
theorem dX2_fitsStreet_49 : decode cX2_fitsStreet 49 = .ok (.ireturn, 1) := by decide +kernel
theorem dX2_fitsStreet_50 : decode cX2_fitsStreet 50 = .ok (.aload_n 0, 1) := by decide +kernel
theorem dX2_fitsStreet_51 : decode cX2_fitsStreet 51 = .ok (.iload_n 1, 1) := by decide +kernel
theorem dX2_fitsStreet_52 : decode cX2_fitsStreet 52 = .ok (.iload_n 1, 1) := by decide +kernel
theorem dX2_fitsStreet_53 : decode cX2_fitsStreet 53 = .ok (.iconst 3, 1) := by decide +kernel
theorem dX2_fitsStreet_54 : decode cX2_fitsStreet 54 = .ok (.idiv, 1) := by decide +kernel
theorem dX2_fitsStreet_55 : decode cX2_fitsStreet 55 = .ok (.invokevirtual 40, 3) := by decide +kernel
theorem dX2_fitsStreet_58 : decode cX2_fitsStreet 58 = .ok (.bipush (-101), 2) := by decide +kernel
theorem dX2_fitsStreet_60 : decode cX2_fitsStreet 60 = .ok (.if_icmp .eq 7, 3) := by decide +kernel
theorem dX2_fitsStreet_63 : decode cX2_fitsStreet 63 = .ok (.iconst 1, 1) := by decide +kernel
theorem dX2_fitsStreet_64 : decode cX2_fitsStreet 64 = .ok (.goto 4, 3) := by decide +kernel
theorem dX2_fitsStreet_67 : decode cX2_fitsStreet 67 = .ok (.iconst 0, 1) := by decide +kernel
theorem dX2_fitsStreet_68 : decode cX2_fitsStreet 68 = .ok (.ireturn, 1) := by decide +kernel
theorem dX2_fitsStreet_69 : decode cX2_fitsStreet 69 = .ok (.aload_n 0, 1) := by decide +kernel
theorem dX2_fitsStreet_70 : decode cX2_fitsStreet 70 = .ok (.getfield 9, 3) := by decide +kernel
theorem dX2_fitsStreet_73 : decode cX2_fitsStreet 73 = .ok (.iload_n 1, 1) := by decide +kernel
theorem dX2_fitsStreet_74 : decode cX2_fitsStreet 74 = .ok (.iaload, 1) := by decide +kernel
theorem dX2_fitsStreet_75 : decode cX2_fitsStreet 75 = .ok (.bipush 44, 2) := by decide +kernel
theorem dX2_fitsStreet_77 : decode cX2_fitsStreet 77 = .ok (.if_icmp .ne 7, 3) := by decide +kernel
theorem dX2_fitsStreet_80 : decode cX2_fitsStreet 80 = .ok (.iconst 1, 1) := by decide +kernel
theorem dX2_fitsStreet_81 : decode cX2_fitsStreet 81 = .ok (.goto 4, 3) := by decide +kernel
theorem dX2_fitsStreet_84 : decode cX2_fitsStreet 84 = .ok (.iconst 0, 1) := by decide +kernel
theorem dX2_fitsStreet_85 : decode cX2_fitsStreet 85 = .ok (.ireturn, 1) := by decide +kernel
theorem dX2_fitsWord_0 : decode cX2_fitsWord 0 = .ok (.iload_n 1, 1) := by decide +kernel
theorem dX2_fitsWord_1 : decode cX2_fitsWord 1 = .ok (.bipush 8, 2) := by decide +kernel
theorem dX2_fitsWord_3 : decode cX2_fitsWord 3 = .ok (.if_icmp .ge 22, 3) := by decide +kernel
theorem dX2_fitsWord_6 : decode cX2_fitsWord 6 = .ok (.aload_n 0, 1) := by decide +kernel
theorem dX2_fitsWord_7 : decode cX2_fitsWord 7 = .ok (.getfield 9, 3) := by decide +kernel
theorem dX2_fitsWord_10 : decode cX2_fitsWord 10 = .ok (.iload_n 1, 1) := by decide +kernel
theorem dX2_fitsWord_11 : decode cX2_fitsWord 11 = .ok (.iaload, 1) := by decide +kernel
theorem dX2_fitsWord_12 : decode cX2_fitsWord 12 = .ok (.bipush 97, 2) := by decide +kernel
theorem dX2_fitsWord_14 : decode cX2_fitsWord 14 = .ok (.isub, 1) := by decide +kernel
theorem dX2_fitsWord_15 : decode cX2_fitsWord 15 = .ok (.invokestatic 44, 3) := by decide +kernel
theorem dX2_fitsWord_18 : decode cX2_fitsWord 18 = .ok (.ifCond .eq 7, 3) := by decide +kernel
theorem dX2_fitsWord_21 : decode cX2_fitsWord 21 = .ok (.iconst 1, 1) := by decide +kernel
theorem dX2_fitsWord_22 : decode cX2_fitsWord 22 = .ok (.goto 4, 3) := by decide +kernel
theorem dX2_fitsWord_25 : decode cX2_fitsWord 25 = .ok (.iconst 0, 1) := by decide +kernel
theorem dX2_fitsWord_26 : decode cX2_fitsWord 26 = .ok (.ireturn, 1) := by decide +kernel
theorem dX3_init_0 : decode cX3_init 0 = .ok (.aload_n 0, 1) := by decide +kernel
theorem dX3_init_1 : decode cX3_init 1 = .ok (.invokespecial 1, 3) := by decide +kernel
theorem dX3_init_4 : decode cX3_init 4 = .ok (.aload_n 0, 1) := by decide +kernel
theorem dX3_init_5 : decode cX3_init 5 = .ok (.new 7, 3) := by decide +kernel
theorem dX3_init_8 : decode cX3_init 8 = .ok (.dup, 1) := by decide +kernel
theorem dX3_init_9 : decode cX3_init 9 = .ok (.invokespecial 9, 3) := by decide +kernel
theorem dX3_init_12 : decode cX3_init 12 = .ok (.putfield 10, 3) := by decide +kernel
theorem dX3_init_15 : decode cX3_init 15 = .ok (.aload_n 0, 1) := by decide +kernel
theorem dX3_init_16 : decode cX3_init 16 = .ok (.new 16, 3) := by decide +kernel
theorem dX3_init_19 : decode cX3_init 19 = .ok (.dup, 1) := by decide +kernel
theorem dX3_init_20 : decode cX3_init 20 = .ok (.invokespecial 18, 3) := by decide +kernel
theorem dX3_init_23 : decode cX3_init 23 = .ok (.putfield 19, 3) := by decide +kernel
theorem dX3_init_26 : decode cX3_init 26 = .ok (.aload_n 0, 1) := by decide +kernel
theorem dX3_init_27 : decode cX3_init 27 = .ok (.new 23, 3) := by decide +kernel
theorem dX3_init_30 : decode cX3_init 30 = .ok (.dup, 1) := by decide +kernel
theorem dX3_init_31 : decode cX3_init 31 = .ok (.invokespecial 25, 3) := by decide +kernel
theorem dX3_init_34 : decode cX3_init 34 = .ok (.putfield 26, 3) := by decide +kernel
theorem dX3_init_37 : decode cX3_init 37 = .ok (.return_, 1) := by decide +kernel
theorem dX3_takeAll_0 : decode cX3_takeAll 0 = .ok (.aload_n 0, 1) := by decide +kernel
theorem dX3_takeAll_1 : decode cX3_takeAll 1 = .ok (.getfield 10, 3) := by decide +kernel
theorem dX3_takeAll_4 : decode cX3_takeAll 4 = .ok (.aload_n 1, 1) := by decide +kernel
theorem dX3_takeAll_5 : decode cX3_takeAll 5 = .ok (.getfield 10, 3) := by decide +kernel
theorem dX3_takeAll_8 : decode cX3_takeAll 8 = .ok (.invokevirtual 30, 3) := by decide +kernel
theorem dX3_takeAll_11 : decode cX3_takeAll 11 = .ok (.aload_n 0, 1) := by decide +kernel
theorem dX3_takeAll_12 : decode cX3_takeAll 12 = .ok (.getfield 19, 3) := by decide +kernel
theorem dX3_takeAll_15 : decode cX3_takeAll 15 = .ok (.aload_n 1, 1) := by decide +kernel
theorem dX3_takeAll_16 : decode cX3_takeAll 16 = .ok (.getfield 19, 3) := by decide +kernel
theorem dX3_takeAll_19 : decode cX3_takeAll 19 = .ok (.invokevirtual 34, 3) := by decide +kernel
theorem dX3_takeAll_22 : decode cX3_takeAll 22 = .ok (.aload_n 0, 1) := by decide +kernel
theorem dX3_takeAll_23 : decode cX3_takeAll 23 = .ok (.getfield 26, 3) := by decide +kernel
theorem dX3_takeAll_26 : decode cX3_takeAll 26 = .ok (.aload_n 1, 1) := by decide +kernel
theorem dX3_takeAll_27 : decode cX3_takeAll 27 = .ok (.getfield 26, 3) := by decide +kernel
theorem dX3_takeAll_30 : decode cX3_takeAll 30 = .ok (.invokevirtual 37, 3) := by decide +kernel
theorem dX3_takeAll_33 : decode cX3_takeAll 33 = .ok (.return_, 1) := by decide +kernel
theorem dX4_init_0 : decode cX4_init 0 = .ok (.aload_n 0, 1) := by decide +kernel
theorem dX4_init_1 : decode cX4_init 1 = .ok (.invokespecial 3, 3) := by decide +kernel
theorem dX4_init_4 : decode cX4_init 4 = .ok (.aload_n 0, 1) := by decide +kernel
theorem dX4_init_5 : decode cX4_init 5 = .ok (.bipush 6, 2) := by decide +kernel
theorem dX4_init_7 : decode cX4_init 7 = .ok (.newarray .int, 2) := by decide +kernel
theorem dX4_init_9 : decode cX4_init 9 = .ok (.putfield 9, 3) := by decide +kernel
theorem dX4_init_12 : decode cX4_init 12 = .ok (.aload_n 0, 1) := by decide +kernel
theorem dX4_init_13 : decode cX4_init 13 = .ok (.bipush 6, 2) := by decide +kernel
theorem dX4_init_15 : decode cX4_init 15 = .ok (.newarray .int, 2) := by decide +kernel
theorem dX4_init_17 : decode cX4_init 17 = .ok (.putfield 15, 3) := by decide +kernel
theorem dX4_init_20 : decode cX4_init 20 = .ok (.aload_n 0, 1) := by decide +kernel
theorem dX4_init_21 : decode cX4_init 21 = .ok (.bipush 6, 2) := by decide +kernel
theorem dX4_init_23 : decode cX4_init 23 = .ok (.newarray .int, 2) := by decide +kernel
theorem dX4_init_25 : decode cX4_init 25 = .ok (.putfield 18, 3) := by decide +kernel
theorem dX4_init_28 : decode cX4_init 28 = .ok (.aload_n 0, 1) := by decide +kernel
theorem dX4_init_29 : decode cX4_init 29 = .ok (.bipush 6, 2) := by decide +kernel
theorem dX4_init_31 : decode cX4_init 31 = .ok (.newarray .int, 2) := by decide +kernel
theorem dX4_init_33 : decode cX4_init 33 = .ok (.putfield 21, 3) := by decide +kernel
theorem dX4_init_36 : decode cX4_init 36 = .ok (.aload_n 0, 1) := by decide +kernel
theorem dX4_init_37 : decode cX4_init 37 = .ok (.bipush 6, 2) := by decide +kernel
theorem dX4_init_39 : decode cX4_init 39 = .ok (.newarray .int, 2) := by decide +kernel
theorem dX4_init_41 : decode cX4_init 41 = .ok (.putfield 24, 3) := by decide +kernel
theorem dX4_init_44 : decode cX4_init 44 = .ok (.aload_n 0, 1) := by decide +kernel
theorem dX4_init_45 : decode cX4_init 45 = .ok (.bipush 6, 2) := by decide +kernel
theorem dX4_init_47 : decode cX4_init 47 = .ok (.newarray .int, 2) := by decide +kernel
theorem dX4_init_49 : decode cX4_init 49 = .ok (.putfield 27, 3) := by decide +kernel
theorem dX4_init_52 : decode cX4_init 52 = .ok (.aload_n 0, 1) := by decide +kernel
theorem dX4_init_53 : decode cX4_init 53 = .ok (.bipush 6, 2) := by decide +kernel
theorem dX4_init_55 : decode cX4_init 55 = .ok (.newarray .int, 2) := by decide +kernel
theorem dX4_init_57 : decode cX4_init 57 = .ok (.putfield 30, 3) := by decide +kernel
theorem dX4_init_60 : decode cX4_init 60 = .ok (.aload_n 0, 1) := by decide +kernel
theorem dX4_init_61 : decode cX4_init 61 = .ok (.bipush 6, 2) := by decide +kernel
theorem dX4_init_63 : decode cX4_init 63 = .ok (.bipush 12, 2) := by decide +kernel
theorem dX4_init_65 : decode cX4_init 65 = .ok (.multianewarray 33 2, 4) := by decide +kernel
theorem dX4_init_69 : decode cX4_init 69 = .ok (.putfield 35, 3) := by decide +kernel
theorem dX4_init_72 : decode cX4_init 72 = .ok (.return_, 1) := by decide +kernel
theorem dX4_clear_0 : decode cX4_clear 0 = .ok (.aload_n 0, 1) := by decide +kernel
theorem dX4_clear_1 : decode cX4_clear 1 = .ok (.getfield 18, 3) := by decide +kernel
theorem dX4_clear_4 : decode cX4_clear 4 = .ok (.iconst (-1), 1) := by decide +kernel
theorem dX4_clear_5 : decode cX4_clear 5 = .ok (.invokestatic 38, 3) := by decide +kernel
theorem dX4_clear_8 : decode cX4_clear 8 = .ok (.aload_n 0, 1) := by decide +kernel
theorem dX4_clear_9 : decode cX4_clear 9 = .ok (.getfield 21, 3) := by decide +kernel
theorem dX4_clear_12 : decode cX4_clear 12 = .ok (.iconst 0, 1) := by decide +kernel
theorem dX4_clear_13 : decode cX4_clear 13 = .ok (.invokestatic 38, 3) := by decide +kernel
theorem dX4_clear_16 : decode cX4_clear 16 = .ok (.aload_n 0, 1) := by decide +kernel
theorem dX4_clear_17 : decode cX4_clear 17 = .ok (.getfield 24, 3) := by decide +kernel
theorem dX4_clear_20 : decode cX4_clear 20 = .ok (.iconst 0, 1) := by decide +kernel
theorem dX4_clear_21 : decode cX4_clear 21 = .ok (.invokestatic 38, 3) := by decide +kernel
theorem dX4_clear_24 : decode cX4_clear 24 = .ok (.aload_n 0, 1) := by decide +kernel
theorem dX4_clear_25 : decode cX4_clear 25 = .ok (.getfield 27, 3) := by decide +kernel
theorem dX4_clear_28 : decode cX4_clear 28 = .ok (.iconst 0, 1) := by decide +kernel
theorem dX4_clear_29 : decode cX4_clear 29 = .ok (.invokestatic 38, 3) := by decide +kernel
theorem dX4_clear_32 : decode cX4_clear 32 = .ok (.aload_n 0, 1) := by decide +kernel
theorem dX4_clear_33 : decode cX4_clear 33 = .ok (.getfield 30, 3) := by decide +kernel
theorem dX4_clear_36 : decode cX4_clear 36 = .ok (.iconst 0, 1) := by decide +kernel
theorem dX4_clear_37 : decode cX4_clear 37 = .ok (.invokestatic 38, 3) := by decide +kernel
theorem dX4_clear_40 : decode cX4_clear 40 = .ok (.return_, 1) := by decide +kernel
theorem dX4_layLike_0 : decode cX4_layLike 0 = .ok (.aload_n 1, 1) := by decide +kernel
theorem dX4_layLike_1 : decode cX4_layLike 1 = .ok (.getfield 9, 3) := by decide +kernel
theorem dX4_layLike_4 : decode cX4_layLike 4 = .ok (.iconst 0, 1) := by decide +kernel
theorem dX4_layLike_5 : decode cX4_layLike 5 = .ok (.aload_n 0, 1) := by decide +kernel
theorem dX4_layLike_6 : decode cX4_layLike 6 = .ok (.getfield 9, 3) := by decide +kernel
theorem dX4_layLike_9 : decode cX4_layLike 9 = .ok (.iconst 0, 1) := by decide +kernel
theorem dX4_layLike_10 : decode cX4_layLike 10 = .ok (.bipush 6, 2) := by decide +kernel
theorem dX4_layLike_12 : decode cX4_layLike 12 = .ok (.invokestatic 44, 3) := by decide +kernel
theorem dX4_layLike_15 : decode cX4_layLike 15 = .ok (.aload_n 1, 1) := by decide +kernel
theorem dX4_layLike_16 : decode cX4_layLike 16 = .ok (.getfield 15, 3) := by decide +kernel
theorem dX4_layLike_19 : decode cX4_layLike 19 = .ok (.iconst 0, 1) := by decide +kernel
theorem dX4_layLike_20 : decode cX4_layLike 20 = .ok (.aload_n 0, 1) := by decide +kernel
theorem dX4_layLike_21 : decode cX4_layLike 21 = .ok (.getfield 15, 3) := by decide +kernel
theorem dX4_layLike_24 : decode cX4_layLike 24 = .ok (.iconst 0, 1) := by decide +kernel
theorem dX4_layLike_25 : decode cX4_layLike 25 = .ok (.bipush 6, 2) := by decide +kernel
theorem dX4_layLike_27 : decode cX4_layLike 27 = .ok (.invokestatic 44, 3) := by decide +kernel
theorem dX4_layLike_30 : decode cX4_layLike 30 = .ok (.aload_n 0, 1) := by decide +kernel
theorem dX4_layLike_31 : decode cX4_layLike 31 = .ok (.invokevirtual 50, 3) := by decide +kernel
theorem dX4_layLike_34 : decode cX4_layLike 34 = .ok (.return_, 1) := by decide +kernel
theorem dX4_takeAll_0 : decode cX4_takeAll 0 = .ok (.aload_n 0, 1) := by decide +kernel
theorem dX4_takeAll_1 : decode cX4_takeAll 1 = .ok (.aload_n 1, 1) := by decide +kernel
theorem dX4_takeAll_2 : decode cX4_takeAll 2 = .ok (.invokevirtual 53, 3) := by decide +kernel
theorem dX4_takeAll_5 : decode cX4_takeAll 5 = .ok (.aload_n 1, 1) := by decide +kernel
theorem dX4_takeAll_6 : decode cX4_takeAll 6 = .ok (.getfield 18, 3) := by decide +kernel
theorem dX4_takeAll_9 : decode cX4_takeAll 9 = .ok (.iconst 0, 1) := by decide +kernel
theorem dX4_takeAll_10 : decode cX4_takeAll 10 = .ok (.aload_n 0, 1) := by decide +kernel
theorem dX4_takeAll_11 : decode cX4_takeAll 11 = .ok (.getfield 18, 3) := by decide +kernel
theorem dX4_takeAll_14 : decode cX4_takeAll 14 = .ok (.iconst 0, 1) := by decide +kernel
theorem dX4_takeAll_15 : decode cX4_takeAll 15 = .ok (.bipush 6, 2) := by decide +kernel
theorem dX4_takeAll_17 : decode cX4_takeAll 17 = .ok (.invokestatic 44, 3) := by decide +kernel
theorem dX4_takeAll_20 : decode cX4_takeAll 20 = .ok (.aload_n 1, 1) := by decide +kernel
theorem dX4_takeAll_21 : decode cX4_takeAll 21 = .ok (.getfield 21, 3) := by decide +kernel
theorem dX4_takeAll_24 : decode cX4_takeAll 24 = .ok (.iconst 0, 1) := by decide +kernel
theorem dX4_takeAll_25 : decode cX4_takeAll 25 = .ok (.aload_n 0, 1) := by decide +kernel
theorem dX4_takeAll_26 : decode cX4_takeAll 26 = .ok (.getfield 21, 3) := by decide +kernel
theorem dX4_takeAll_29 : decode cX4_takeAll 29 = .ok (.iconst 0, 1) := by decide +kernel
theorem dX4_takeAll_30 : decode cX4_takeAll 30 = .ok (.bipush 6, 2) := by decide +kernel
theorem dX4_takeAll_32 : decode cX4_takeAll 32 = .ok (.invokestatic 44, 3) := by decide +kernel
theorem dX4_takeAll_35 : decode cX4_takeAll 35 = .ok (.aload_n 1, 1) := by decide +kernel
theorem dX4_takeAll_36 : decode cX4_takeAll 36 = .ok (.getfield 24, 3) := by decide +kernel
theorem dX4_takeAll_39 : decode cX4_takeAll 39 = .ok (.iconst 0, 1) := by decide +kernel
theorem dX4_takeAll_40 : decode cX4_takeAll 40 = .ok (.aload_n 0, 1) := by decide +kernel
theorem dX4_takeAll_41 : decode cX4_takeAll 41 = .ok (.getfield 24, 3) := by decide +kernel
theorem dX4_takeAll_44 : decode cX4_takeAll 44 = .ok (.iconst 0, 1) := by decide +kernel
theorem dX4_takeAll_45 : decode cX4_takeAll 45 = .ok (.bipush 6, 2) := by decide +kernel
theorem dX4_takeAll_47 : decode cX4_takeAll 47 = .ok (.invokestatic 44, 3) := by decide +kernel
theorem dX4_takeAll_50 : decode cX4_takeAll 50 = .ok (.aload_n 1, 1) := by decide +kernel
theorem dX4_takeAll_51 : decode cX4_takeAll 51 = .ok (.getfield 27, 3) := by decide +kernel
theorem dX4_takeAll_54 : decode cX4_takeAll 54 = .ok (.iconst 0, 1) := by decide +kernel
theorem dX4_takeAll_55 : decode cX4_takeAll 55 = .ok (.aload_n 0, 1) := by decide +kernel
theorem dX4_takeAll_56 : decode cX4_takeAll 56 = .ok (.getfield 27, 3) := by decide +kernel
theorem dX4_takeAll_59 : decode cX4_takeAll 59 = .ok (.iconst 0, 1) := by decide +kernel
theorem dX4_takeAll_60 : decode cX4_takeAll 60 = .ok (.bipush 6, 2) := by decide +kernel
theorem dX4_takeAll_62 : decode cX4_takeAll 62 = .ok (.invokestatic 44, 3) := by decide +kernel
theorem dX4_takeAll_65 : decode cX4_takeAll 65 = .ok (.aload_n 1, 1) := by decide +kernel
theorem dX4_takeAll_66 : decode cX4_takeAll 66 = .ok (.getfield 30, 3) := by decide +kernel
theorem dX4_takeAll_69 : decode cX4_takeAll 69 = .ok (.iconst 0, 1) := by decide +kernel
theorem dX4_takeAll_70 : decode cX4_takeAll 70 = .ok (.aload_n 0, 1) := by decide +kernel
theorem dX4_takeAll_71 : decode cX4_takeAll 71 = .ok (.getfield 30, 3) := by decide +kernel
theorem dX4_takeAll_74 : decode cX4_takeAll 74 = .ok (.iconst 0, 1) := by decide +kernel
theorem dX4_takeAll_75 : decode cX4_takeAll 75 = .ok (.bipush 6, 2) := by decide +kernel
theorem dX4_takeAll_77 : decode cX4_takeAll 77 = .ok (.invokestatic 44, 3) := by decide +kernel
theorem dX4_takeAll_80 : decode cX4_takeAll 80 = .ok (.iconst 0, 1) := by decide +kernel
theorem dX4_takeAll_81 : decode cX4_takeAll 81 = .ok (.istore_n 2, 1) := by decide +kernel
theorem dX4_takeAll_82 : decode cX4_takeAll 82 = .ok (.iload_n 2, 1) := by decide +kernel
theorem dX4_takeAll_83 : decode cX4_takeAll 83 = .ok (.bipush 6, 2) := by decide +kernel
theorem dX4_takeAll_85 : decode cX4_takeAll 85 = .ok (.if_icmp .ge 28, 3) := by decide +kernel
theorem dX4_takeAll_88 : decode cX4_takeAll 88 = .ok (.aload_n 1, 1) := by decide +kernel
theorem dX4_takeAll_89 : decode cX4_takeAll 89 = .ok (.getfield 35, 3) := by decide +kernel
theorem dX4_takeAll_92 : decode cX4_takeAll 92 = .ok (.iload_n 2, 1) := by decide +kernel
theorem dX4_takeAll_93 : decode cX4_takeAll 93 = .ok (.aaload, 1) := by decide +kernel
theorem dX4_takeAll_94 : decode cX4_takeAll 94 = .ok (.iconst 0, 1) := by decide +kernel
theorem dX4_takeAll_95 : decode cX4_takeAll 95 = .ok (.aload_n 0, 1) := by decide +kernel
theorem dX4_takeAll_96 : decode cX4_takeAll 96 = .ok (.getfield 35, 3) := by decide +kernel
theorem dX4_takeAll_99 : decode cX4_takeAll 99 = .ok (.iload_n 2, 1) := by decide +kernel
theorem dX4_takeAll_100 : decode cX4_takeAll 100 = .ok (.aaload, 1) := by decide +kernel
theorem dX4_takeAll_101 : decode cX4_takeAll 101 = .ok (.iconst 0, 1) := by decide +kernel
theorem dX4_takeAll_102 : decode cX4_takeAll 102 = .ok (.bipush 12, 2) := by decide +kernel
theorem dX4_takeAll_104 : decode cX4_takeAll 104 = .ok (.invokestatic 44, 3) := by decide +kernel
theorem dX4_takeAll_107 : decode cX4_takeAll 107 = .ok (.iinc 2 1, 3) := by decide +kernel
theorem dX4_takeAll_110 : decode cX4_takeAll 110 = .ok (.goto (-28), 3) := by decide +kernel
theorem dX4_takeAll_113 : decode cX4_takeAll 113 = .ok (.return_, 1) := by decide +kernel
theorem dX4_flowBy_0 : decode cX4_flowBy 0 = .ok (.iload_n 1, 1) := by decide +kernel
theorem dX4_flowBy_1 : decode cX4_flowBy 1 = .ok (.istore_n 2, 1) := by decide +kernel
theorem dX4_flowBy_2 : decode cX4_flowBy 2 = .ok (.iconst 0, 1) := by decide +kernel
theorem dX4_flowBy_3 : decode cX4_flowBy 3 = .ok (.istore_n 3, 1) := by decide +kernel
theorem dX4_flowBy_4 : decode cX4_flowBy 4 = .ok (.iload_n 3, 1) := by decide +kernel
theorem dX4_flowBy_5 : decode cX4_flowBy 5 = .ok (.bipush 6, 2) := by decide +kernel
theorem dX4_flowBy_7 : decode cX4_flowBy 7 = .ok (.if_icmp .ge 45, 3) := by decide +kernel
theorem dX4_flowBy_10 : decode cX4_flowBy 10 = .ok (.bipush 6, 2) := by decide +kernel
theorem dX4_flowBy_12 : decode cX4_flowBy 12 = .ok (.iload_n 3, 1) := by decide +kernel
theorem dX4_flowBy_13 : decode cX4_flowBy 13 = .ok (.isub, 1) := by decide +kernel
theorem dX4_flowBy_14 : decode cX4_flowBy 14 = .ok (.istore 4, 2) := by decide +kernel
theorem dX4_flowBy_16 : decode cX4_flowBy 16 = .ok (.iload_n 2, 1) := by decide +kernel
theorem dX4_flowBy_17 : decode cX4_flowBy 17 = .ok (.iload 4, 2) := by decide +kernel
theorem dX4_flowBy_19 : decode cX4_flowBy 19 = .ok (.irem, 1) := by decide +kernel
theorem dX4_flowBy_20 : decode cX4_flowBy 20 = .ok (.istore 5, 2) := by decide +kernel
theorem dX4_flowBy_22 : decode cX4_flowBy 22 = .ok (.iload_n 2, 1) := by decide +kernel
theorem dX4_flowBy_23 : decode cX4_flowBy 23 = .ok (.iload 4, 2) := by decide +kernel
theorem dX4_flowBy_25 : decode cX4_flowBy 25 = .ok (.idiv, 1) := by decide +kernel
theorem dX4_flowBy_26 : decode cX4_flowBy 26 = .ok (.istore_n 2, 1) := by decide +kernel
theorem dX4_flowBy_27 : decode cX4_flowBy 27 = .ok (.aload_n 0, 1) := by decide +kernel
theorem dX4_flowBy_28 : decode cX4_flowBy 28 = .ok (.getfield 15, 3) := by decide +kernel
theorem dX4_flowBy_31 : decode cX4_flowBy 31 = .ok (.iload_n 3, 1) := by decide +kernel
theorem dX4_flowBy_32 : decode cX4_flowBy 32 = .ok (.iload 5, 2) := by decide +kernel
theorem dX4_flowBy_34 : decode cX4_flowBy 34 = .ok (.ifCond .ne 7, 3) := by decide +kernel
theorem dX4_flowBy_37 : decode cX4_flowBy 37 = .ok (.iconst (-1), 1) := by decide +kernel
theorem dX4_flowBy_38 : decode cX4_flowBy 38 = .ok (.goto 7, 3) := by decide +kernel
theorem dX4_flowBy_41 : decode cX4_flowBy 41 = .ok (.iload_n 3, 1) := by decide +kernel
theorem dX4_flowBy_42 : decode cX4_flowBy 42 = .ok (.iload 5, 2) := by decide +kernel
theorem dX4_flowBy_44 : decode cX4_flowBy 44 = .ok (.iadd, 1) := by decide +kernel
theorem dX4_flowBy_45 : decode cX4_flowBy 45 = .ok (.iastore, 1) := by decide +kernel
theorem dX4_flowBy_46 : decode cX4_flowBy 46 = .ok (.iinc 3 1, 3) := by decide +kernel
theorem dX4_flowBy_49 : decode cX4_flowBy 49 = .ok (.goto (-45), 3) := by decide +kernel
theorem dX4_flowBy_52 : decode cX4_flowBy 52 = .ok (.return_, 1) := by decide +kernel
theorem dX4_unlikeFlows_0 : decode cX4_unlikeFlows 0 = .ok (.iconst 0, 1) := by decide +kernel
theorem dX4_unlikeFlows_1 : decode cX4_unlikeFlows 1 = .ok (.istore_n 2, 1) := by decide +kernel
theorem dX4_unlikeFlows_2 : decode cX4_unlikeFlows 2 = .ok (.iconst 0, 1) := by decide +kernel
theorem dX4_unlikeFlows_3 : decode cX4_unlikeFlows 3 = .ok (.istore_n 3, 1) := by decide +kernel
theorem dX4_unlikeFlows_4 : decode cX4_unlikeFlows 4 = .ok (.iload_n 3, 1) := by decide +kernel
theorem dX4_unlikeFlows_5 : decode cX4_unlikeFlows 5 = .ok (.bipush 6, 2) := by decide +kernel
theorem dX4_unlikeFlows_7 : decode cX4_unlikeFlows 7 = .ok (.if_icmp .ge 30, 3) := by decide +kernel
theorem dX4_unlikeFlows_10 : decode cX4_unlikeFlows 10 = .ok (.aload_n 0, 1) := by decide +kernel
theorem dX4_unlikeFlows_11 : decode cX4_unlikeFlows 11 = .ok (.getfield 15, 3) := by decide +kernel
theorem dX4_unlikeFlows_14 : decode cX4_unlikeFlows 14 = .ok (.iload_n 3, 1) := by decide +kernel
theorem dX4_unlikeFlows_15 : decode cX4_unlikeFlows 15 = .ok (.iaload, 1) := by decide +kernel
theorem dX4_unlikeFlows_16 : decode cX4_unlikeFlows 16 = .ok (.aload_n 1, 1) := by decide +kernel
theorem dX4_unlikeFlows_17 : decode cX4_unlikeFlows 17 = .ok (.getfield 15, 3) := by decide +kernel
theorem dX4_unlikeFlows_20 : decode cX4_unlikeFlows 20 = .ok (.iload_n 3, 1) := by decide +kernel
theorem dX4_unlikeFlows_21 : decode cX4_unlikeFlows 21 = .ok (.iaload, 1) := by decide +kernel
theorem dX4_unlikeFlows_22 : decode cX4_unlikeFlows 22 = .ok (.if_icmp .eq 9, 3) := by decide +kernel
theorem dX4_unlikeFlows_25 : decode cX4_unlikeFlows 25 = .ok (.iload_n 2, 1) := by decide +kernel
theorem dX4_unlikeFlows_26 : decode cX4_unlikeFlows 26 = .ok (.iconst 1, 1) := by decide +kernel
theorem dX4_unlikeFlows_27 : decode cX4_unlikeFlows 27 = .ok (.iload_n 3, 1) := by decide +kernel
theorem dX4_unlikeFlows_28 : decode cX4_unlikeFlows 28 = .ok (.ishl, 1) := by decide +kernel
theorem dX4_unlikeFlows_29 : decode cX4_unlikeFlows 29 = .ok (.ior, 1) := by decide +kernel
theorem dX4_unlikeFlows_30 : decode cX4_unlikeFlows 30 = .ok (.istore_n 2, 1) := by decide +kernel
theorem dX4_unlikeFlows_31 : decode cX4_unlikeFlows 31 = .ok (.iinc 3 1, 3) := by decide +kernel
theorem dX4_unlikeFlows_34 : decode cX4_unlikeFlows 34 = .ok (.goto (-30), 3) := by decide +kernel
theorem dX4_unlikeFlows_37 : decode cX4_unlikeFlows 37 = .ok (.iload_n 2, 1) := by decide +kernel
theorem dX4_unlikeFlows_38 : decode cX4_unlikeFlows 38 = .ok (.ireturn, 1) := by decide +kernel
theorem dX4_runAll_0 : decode cX4_runAll 0 = .ok (.iconst 0, 1) := by decide +kernel
theorem dX4_runAll_1 : decode cX4_runAll 1 = .ok (.istore 4, 2) := by decide +kernel
theorem dX4_runAll_3 : decode cX4_runAll 3 = .ok (.iload 4, 2) := by decide +kernel
theorem dX4_runAll_5 : decode cX4_runAll 5 = .ok (.aload_n 1, 1) := by decide +kernel
theorem dX4_runAll_6 : decode cX4_runAll 6 = .ok (.getfield 57, 3) := by decide +kernel
theorem dX4_runAll_9 : decode cX4_runAll 9 = .ok (.if_icmp .ge 38, 3) := by decide +kernel
theorem dX4_runAll_12 : decode cX4_runAll 12 = .ok (.aload_n 0, 1) := by decide +kernel
theorem dX4_runAll_13 : decode cX4_runAll 13 = .ok (.aload_n 1, 1) := by decide +kernel
theorem dX4_runAll_14 : decode cX4_runAll 14 = .ok (.getfield 63, 3) := by decide +kernel
theorem dX4_runAll_17 : decode cX4_runAll 17 = .ok (.iload 4, 2) := by decide +kernel
theorem dX4_runAll_19 : decode cX4_runAll 19 = .ok (.iaload, 1) := by decide +kernel
theorem dX4_runAll_20 : decode cX4_runAll 20 = .ok (.iload 4, 2) := by decide +kernel
theorem dX4_runAll_22 : decode cX4_runAll 22 = .ok (.iload_n 2, 1) := by decide +kernel
theorem dX4_runAll_23 : decode cX4_runAll 23 = .ok (.if_icmp .ne 7, 3) := by decide +kernel
theorem dX4_runAll_26 : decode cX4_runAll 26 = .ok (.iload_n 3, 1) := by decide +kernel
theorem dX4_runAll_27 : decode cX4_runAll 27 = .ok (.goto 10, 3) := by decide +kernel
theorem dX4_runAll_30 : decode cX4_runAll 30 = .ok (.aload_n 1, 1) := by decide +kernel
theorem dX4_runAll_31 : decode cX4_runAll 31 = .ok (.getfield 66, 3) := by decide +kernel
theorem dX4_runAll_34 : decode cX4_runAll 34 = .ok (.iload 4, 2) := by decide +kernel
theorem dX4_runAll_36 : decode cX4_runAll 36 = .ok (.iaload, 1) := by decide +kernel
theorem dX4_runAll_37 : decode cX4_runAll 37 = .ok (.invokevirtual 69, 3) := by decide +kernel
theorem dX4_runAll_40 : decode cX4_runAll 40 = .ok (.pop, 1) := by decide +kernel
theorem dX4_runAll_41 : decode cX4_runAll 41 = .ok (.iinc 4 1, 3) := by decide +kernel
theorem dX4_runAll_44 : decode cX4_runAll 44 = .ok (.goto (-41), 3) := by decide +kernel
theorem dX4_runAll_47 : decode cX4_runAll 47 = .ok (.return_, 1) := by decide +kernel
theorem dX4_run_0 : decode cX4_run 0 = .ok (.iload_n 1, 1) := by decide +kernel
theorem dX4_run_1 : decode cX4_run 1 = .ok (.istore_n 3, 1) := by decide +kernel
theorem dX4_run_2 : decode cX4_run 2 = .ok (.iload_n 2, 1) := by decide +kernel
theorem dX4_run_3 : decode cX4_run 3 = .ok (.istore 4, 2) := by decide +kernel
theorem dX4_run_5 : decode cX4_run 5 = .ok (.iconst 0, 1) := by decide +kernel
theorem dX4_run_6 : decode cX4_run 6 = .ok (.istore 5, 2) := by decide +kernel
theorem dX4_run_8 : decode cX4_run 8 = .ok (.iload 5, 2) := by decide +kernel
theorem dX4_run_10 : decode cX4_run 10 = .ok (.bipush 6, 2) := by decide +kernel
theorem dX4_run_12 : decode cX4_run 12 = .ok (.if_icmp .ge 62, 3) := by decide +kernel
theorem dX4_run_15 : decode cX4_run 15 = .ok (.iload_n 3, 1) := by decide +kernel
theorem dX4_run_16 : decode cX4_run 16 = .ok (.ifCond .lt 58, 3) := by decide +kernel
theorem dX4_run_19 : decode cX4_run 19 = .ok (.iload_n 3, 1) := by decide +kernel
theorem dX4_run_20 : decode cX4_run 20 = .ok (.bipush 6, 2) := by decide +kernel
theorem dX4_run_22 : decode cX4_run 22 = .ok (.if_icmp .ge 52, 3) := by decide +kernel
theorem dX4_run_25 : decode cX4_run 25 = .ok (.aload_n 0, 1) := by decide +kernel
theorem dX4_run_26 : decode cX4_run 26 = .ok (.iload_n 3, 1) := by decide +kernel
theorem dX4_run_27 : decode cX4_run 27 = .ok (.iload 4, 2) := by decide +kernel
theorem dX4_run_29 : decode cX4_run 29 = .ok (.invokevirtual 73, 3) := by decide +kernel
theorem dX4_run_32 : decode cX4_run 32 = .ok (.istore 4, 2) := by decide +kernel
theorem dX4_run_34 : decode cX4_run 34 = .ok (.iload 4, 2) := by decide +kernel
theorem dX4_run_36 : decode cX4_run 36 = .ok (.iconst (-1), 1) := by decide +kernel
theorem dX4_run_37 : decode cX4_run 37 = .ok (.if_icmp .ne 5, 3) := by decide +kernel
theorem dX4_run_40 : decode cX4_run 40 = .ok (.iconst (-1), 1) := by decide +kernel
theorem dX4_run_41 : decode cX4_run 41 = .ok (.ireturn, 1) := by decide +kernel
theorem dX4_run_42 : decode cX4_run 42 = .ok (.aload_n 0, 1) := by decide +kernel
theorem dX4_run_43 : decode cX4_run 43 = .ok (.getfield 15, 3) := by decide +kernel
theorem dX4_run_46 : decode cX4_run 46 = .ok (.iload_n 3, 1) := by decide +kernel
theorem dX4_run_47 : decode cX4_run 47 = .ok (.iaload, 1) := by decide +kernel
theorem dX4_run_48 : decode cX4_run 48 = .ok (.iconst (-1), 1) := by decide +kernel
theorem dX4_run_49 : decode cX4_run 49 = .ok (.if_icmp .ne 12, 3) := by decide +kernel
theorem dX4_run_52 : decode cX4_run 52 = .ok (.aload_n 0, 1) := by decide +kernel
theorem dX4_run_53 : decode cX4_run 53 = .ok (.iload_n 3, 1) := by decide +kernel
theorem dX4_run_54 : decode cX4_run 54 = .ok (.iload 4, 2) := by decide +kernel
theorem dX4_run_56 : decode cX4_run 56 = .ok (.invokevirtual 76, 3) := by decide +kernel
theorem dX4_run_59 : decode cX4_run 59 = .ok (.iload_n 3, 1) := by decide +kernel
theorem dX4_run_60 : decode cX4_run 60 = .ok (.ireturn, 1) := by decide +kernel
theorem dX4_run_61 : decode cX4_run 61 = .ok (.aload_n 0, 1) := by decide +kernel
theorem dX4_run_62 : decode cX4_run 62 = .ok (.getfield 15, 3) := by decide +kernel
theorem dX4_run_65 : decode cX4_run 65 = .ok (.iload_n 3, 1) := by decide +kernel
theorem dX4_run_66 : decode cX4_run 66 = .ok (.iaload, 1) := by decide +kernel
theorem dX4_run_67 : decode cX4_run 67 = .ok (.istore_n 3, 1) := by decide +kernel
theorem dX4_run_68 : decode cX4_run 68 = .ok (.iinc 5 1, 3) := by decide +kernel
theorem dX4_run_71 : decode cX4_run 71 = .ok (.goto (-63), 3) := by decide +kernel
theorem dX4_run_74 : decode cX4_run 74 = .ok (.iconst (-1), 1) := by decide +kernel
theorem dX4_run_75 : decode cX4_run 75 = .ok (.ireturn, 1) := by decide +kernel
theorem dX4_wordIs_0 : decode cX4_wordIs 0 = .ok (.aload_n 0, 1) := by decide +kernel
theorem dX4_wordIs_1 : decode cX4_wordIs 1 = .ok (.getfield 30, 3) := by decide +kernel
theorem dX4_wordIs_4 : decode cX4_wordIs 4 = .ok (.iload_n 1, 1) := by decide +kernel
theorem dX4_wordIs_5 : decode cX4_wordIs 5 = .ok (.iaload, 1) := by decide +kernel
theorem dX4_wordIs_6 : decode cX4_wordIs 6 = .ok (.iload_n 3, 1) := by decide +kernel
theorem dX4_wordIs_7 : decode cX4_wordIs 7 = .ok (.if_icmp .eq 5, 3) := by decide +kernel
theorem dX4_wordIs_10 : decode cX4_wordIs 10 = .ok (.iconst 0, 1) := by decide +kernel
theorem dX4_wordIs_11 : decode cX4_wordIs 11 = .ok (.ireturn, 1) := by decide +kernel
theorem dX4_wordIs_12 : decode cX4_wordIs 12 = .ok (.iconst 0, 1) := by decide +kernel
theorem dX4_wordIs_13 : decode cX4_wordIs 13 = .ok (.istore 4, 2) := by decide +kernel
theorem dX4_wordIs_15 : decode cX4_wordIs 15 = .ok (.iload 4, 2) := by decide +kernel
theorem dX4_wordIs_17 : decode cX4_wordIs 17 = .ok (.iload_n 3, 1) := by decide +kernel
theorem dX4_wordIs_18 : decode cX4_wordIs 18 = .ok (.if_icmp .ge 34, 3) := by decide +kernel
theorem dX4_wordIs_21 : decode cX4_wordIs 21 = .ok (.iload 4, 2) := by decide +kernel
theorem dX4_wordIs_23 : decode cX4_wordIs 23 = .ok (.aload_n 2, 1) := by decide +kernel
theorem dX4_wordIs_24 : decode cX4_wordIs 24 = .ok (.arraylength, 1) := by decide +kernel
theorem dX4_wordIs_25 : decode cX4_wordIs 25 = .ok (.if_icmp .ge 27, 3) := by decide +kernel
theorem dX4_wordIs_28 : decode cX4_wordIs 28 = .ok (.aload_n 0, 1) := by decide +kernel
theorem dX4_wordIs_29 : decode cX4_wordIs 29 = .ok (.getfield 35, 3) := by decide +kernel
theorem dX4_wordIs_32 : decode cX4_wordIs 32 = .ok (.iload_n 1, 1) := by decide +kernel
theorem dX4_wordIs_33 : decode cX4_wordIs 33 = .ok (.aaload, 1) := by decide +kernel
theorem dX4_wordIs_34 : decode cX4_wordIs 34 = .ok (.iload 4, 2) := by decide +kernel
theorem dX4_wordIs_36 : decode cX4_wordIs 36 = .ok (.iaload, 1) := by decide +kernel
theorem dX4_wordIs_37 : decode cX4_wordIs 37 = .ok (.aload_n 2, 1) := by decide +kernel
theorem dX4_wordIs_38 : decode cX4_wordIs 38 = .ok (.iload 4, 2) := by decide +kernel
theorem dX4_wordIs_40 : decode cX4_wordIs 40 = .ok (.iaload, 1) := by decide +kernel
theorem dX4_wordIs_41 : decode cX4_wordIs 41 = .ok (.if_icmp .eq 5, 3) := by decide +kernel
theorem dX4_wordIs_44 : decode cX4_wordIs 44 = .ok (.iconst 0, 1) := by decide +kernel
theorem dX4_wordIs_45 : decode cX4_wordIs 45 = .ok (.ireturn, 1) := by decide +kernel
theorem dX4_wordIs_46 : decode cX4_wordIs 46 = .ok (.iinc 4 1, 3) := by decide +kernel
theorem dX4_wordIs_49 : decode cX4_wordIs 49 = .ok (.goto (-34), 3) := by decide +kernel
theorem dX4_wordIs_52 : decode cX4_wordIs 52 = .ok (.iconst 1, 1) := by decide +kernel
theorem dX4_wordIs_53 : decode cX4_wordIs 53 = .ok (.ireturn, 1) := by decide +kernel
theorem dX4_wordCode_0 : decode cX4_wordCode 0 = .ok (.iconst 1, 1) := by decide +kernel
theorem dX4_wordCode_1 : decode cX4_wordCode 1 = .ok (.istore_n 2, 1) := by decide +kernel
theorem dX4_wordCode_2 : decode cX4_wordCode 2 = .ok (.iconst 0, 1) := by decide +kernel
theorem dX4_wordCode_3 : decode cX4_wordCode 3 = .ok (.istore_n 3, 1) := by decide +kernel
theorem dX4_wordCode_4 : decode cX4_wordCode 4 = .ok (.iload_n 3, 1) := by decide +kernel
theorem dX4_wordCode_5 : decode cX4_wordCode 5 = .ok (.aload_n 0, 1) := by decide +kernel
theorem dX4_wordCode_6 : decode cX4_wordCode 6 = .ok (.getfield 30, 3) := by decide +kernel
theorem dX4_wordCode_9 : decode cX4_wordCode 9 = .ok (.iload_n 1, 1) := by decide +kernel
theorem dX4_wordCode_10 : decode cX4_wordCode 10 = .ok (.iaload, 1) := by decide +kernel
theorem dX4_wordCode_11 : decode cX4_wordCode 11 = .ok (.if_icmp .ge 22, 3) := by decide +kernel
theorem dX4_wordCode_14 : decode cX4_wordCode 14 = .ok (.iload_n 2, 1) := by decide +kernel
theorem dX4_wordCode_15 : decode cX4_wordCode 15 = .ok (.iconst 5, 1) := by decide +kernel
theorem dX4_wordCode_16 : decode cX4_wordCode 16 = .ok (.imul, 1) := by decide +kernel
theorem dX4_wordCode_17 : decode cX4_wordCode 17 = .ok (.aload_n 0, 1) := by decide +kernel
theorem dX4_wordCode_18 : decode cX4_wordCode 18 = .ok (.getfield 35, 3) := by decide +kernel
theorem dX4_wordCode_21 : decode cX4_wordCode 21 = .ok (.iload_n 1, 1) := by decide +kernel
theorem dX4_wordCode_22 : decode cX4_wordCode 22 = .ok (.aaload, 1) := by decide +kernel
theorem dX4_wordCode_23 : decode cX4_wordCode 23 = .ok (.iload_n 3, 1) := by decide +kernel
theorem dX4_wordCode_24 : decode cX4_wordCode 24 = .ok (.iaload, 1) := by decide +kernel
theorem dX4_wordCode_25 : decode cX4_wordCode 25 = .ok (.iadd, 1) := by decide +kernel
theorem dX4_wordCode_26 : decode cX4_wordCode 26 = .ok (.istore_n 2, 1) := by decide +kernel
theorem dX4_wordCode_27 : decode cX4_wordCode 27 = .ok (.iinc 3 1, 3) := by decide +kernel
theorem dX4_wordCode_30 : decode cX4_wordCode 30 = .ok (.goto (-26), 3) := by decide +kernel
theorem dX4_wordCode_33 : decode cX4_wordCode 33 = .ok (.iload_n 2, 1) := by decide +kernel
theorem dX4_wordCode_34 : decode cX4_wordCode 34 = .ok (.ireturn, 1) := by decide +kernel
theorem dX4_countOut_0 : decode cX4_countOut 0 = .ok (.iconst 0, 1) := by decide +kernel
theorem dX4_countOut_1 : decode cX4_countOut 1 = .ok (.istore_n 1, 1) := by decide +kernel
theorem dX4_countOut_2 : decode cX4_countOut 2 = .ok (.aload_n 0, 1) := by decide +kernel
theorem dX4_countOut_3 : decode cX4_countOut 3 = .ok (.getfield 15, 3) := by decide +kernel
theorem dX4_countOut_6 : decode cX4_countOut 6 = .ok (.astore_n 2, 1) := by decide +kernel
theorem dX4_countOut_7 : decode cX4_countOut 7 = .ok (.aload_n 2, 1) := by decide +kernel
theorem dX4_countOut_8 : decode cX4_countOut 8 = .ok (.arraylength, 1) := by decide +kernel
theorem dX4_countOut_9 : decode cX4_countOut 9 = .ok (.istore_n 3, 1) := by decide +kernel
theorem dX4_countOut_10 : decode cX4_countOut 10 = .ok (.iconst 0, 1) := by decide +kernel
theorem dX4_countOut_11 : decode cX4_countOut 11 = .ok (.istore 4, 2) := by decide +kernel
theorem dX4_countOut_13 : decode cX4_countOut 13 = .ok (.iload 4, 2) := by decide +kernel
theorem dX4_countOut_15 : decode cX4_countOut 15 = .ok (.iload_n 3, 1) := by decide +kernel
theorem dX4_countOut_16 : decode cX4_countOut 16 = .ok (.if_icmp .ge 29, 3) := by decide +kernel
theorem dX4_countOut_19 : decode cX4_countOut 19 = .ok (.aload_n 2, 1) := by decide +kernel
theorem dX4_countOut_20 : decode cX4_countOut 20 = .ok (.iload 4, 2) := by decide +kernel
theorem dX4_countOut_22 : decode cX4_countOut 22 = .ok (.iaload, 1) := by decide +kernel
theorem dX4_countOut_23 : decode cX4_countOut 23 = .ok (.istore 5, 2) := by decide +kernel
theorem dX4_countOut_25 : decode cX4_countOut 25 = .ok (.iload_n 1, 1) := by decide +kernel
theorem dX4_countOut_26 : decode cX4_countOut 26 = .ok (.iload 5, 2) := by decide +kernel
theorem dX4_countOut_28 : decode cX4_countOut 28 = .ok (.iconst (-1), 1) := by decide +kernel
theorem dX4_countOut_29 : decode cX4_countOut 29 = .ok (.if_icmp .ne 7, 3) := by decide +kernel
theorem dX4_countOut_32 : decode cX4_countOut 32 = .ok (.iconst 1, 1) := by decide +kernel
theorem dX4_countOut_33 : decode cX4_countOut 33 = .ok (.goto 4, 3) := by decide +kernel
theorem dX4_countOut_36 : decode cX4_countOut 36 = .ok (.iconst 0, 1) := by decide +kernel
theorem dX4_countOut_37 : decode cX4_countOut 37 = .ok (.iadd, 1) := by decide +kernel
theorem dX4_countOut_38 : decode cX4_countOut 38 = .ok (.istore_n 1, 1) := by decide +kernel
theorem dX4_countOut_39 : decode cX4_countOut 39 = .ok (.iinc 4 1, 3) := by decide +kernel
theorem dX4_countOut_42 : decode cX4_countOut 42 = .ok (.goto (-29), 3) := by decide +kernel
theorem dX4_countOut_45 : decode cX4_countOut 45 = .ok (.iload_n 1, 1) := by decide +kernel
theorem dX4_countOut_46 : decode cX4_countOut 46 = .ok (.ireturn, 1) := by decide +kernel
theorem dX4_lettersOut_0 : decode cX4_lettersOut 0 = .ok (.aload_n 0, 1) := by decide +kernel
theorem dX4_lettersOut_1 : decode cX4_lettersOut 1 = .ok (.getfield 30, 3) := by decide +kernel
theorem dX4_lettersOut_4 : decode cX4_lettersOut 4 = .ok (.invokestatic 80, 3) := by decide +kernel
theorem dX4_lettersOut_7 : decode cX4_lettersOut 7 = .ok (.ireturn, 1) := by decide +kernel
theorem dX4_lettersLost_0 : decode cX4_lettersLost 0 = .ok (.aload_n 0, 1) := by decide +kernel
theorem dX4_lettersLost_1 : decode cX4_lettersLost 1 = .ok (.getfield 27, 3) := by decide +kernel
theorem dX4_lettersLost_4 : decode cX4_lettersLost 4 = .ok (.invokestatic 80, 3) := by decide +kernel
theorem dX4_lettersLost_7 : decode cX4_lettersLost 7 = .ok (.ireturn, 1) := by decide +kernel
theorem dX4_fullBowls_0 : decode cX4_fullBowls 0 = .ok (.iconst 0, 1) := by decide +kernel
theorem dX4_fullBowls_1 : decode cX4_fullBowls 1 = .ok (.istore_n 1, 1) := by decide +kernel
theorem dX4_fullBowls_2 : decode cX4_fullBowls 2 = .ok (.iconst 0, 1) := by decide +kernel
theorem dX4_fullBowls_3 : decode cX4_fullBowls 3 = .ok (.istore_n 2, 1) := by decide +kernel
theorem dX4_fullBowls_4 : decode cX4_fullBowls 4 = .ok (.iload_n 2, 1) := by decide +kernel
theorem dX4_fullBowls_5 : decode cX4_fullBowls 5 = .ok (.bipush 6, 2) := by decide +kernel
theorem dX4_fullBowls_7 : decode cX4_fullBowls 7 = .ok (.if_icmp .ge 37, 3) := by decide +kernel
theorem dX4_fullBowls_10 : decode cX4_fullBowls 10 = .ok (.iload_n 1, 1) := by decide +kernel
theorem dX4_fullBowls_11 : decode cX4_fullBowls 11 = .ok (.aload_n 0, 1) := by decide +kernel
theorem dX4_fullBowls_12 : decode cX4_fullBowls 12 = .ok (.getfield 9, 3) := by decide +kernel
theorem dX4_fullBowls_15 : decode cX4_fullBowls 15 = .ok (.iload_n 2, 1) := by decide +kernel
theorem dX4_fullBowls_16 : decode cX4_fullBowls 16 = .ok (.iaload, 1) := by decide +kernel
theorem dX4_fullBowls_17 : decode cX4_fullBowls 17 = .ok (.iconst 1, 1) := by decide +kernel
theorem dX4_fullBowls_18 : decode cX4_fullBowls 18 = .ok (.if_icmp .ne 17, 3) := by decide +kernel
theorem dX4_fullBowls_21 : decode cX4_fullBowls 21 = .ok (.aload_n 0, 1) := by decide +kernel
theorem dX4_fullBowls_22 : decode cX4_fullBowls 22 = .ok (.getfield 18, 3) := by decide +kernel
theorem dX4_fullBowls_25 : decode cX4_fullBowls 25 = .ok (.iload_n 2, 1) := by decide +kernel
theorem dX4_fullBowls_26 : decode cX4_fullBowls 26 = .ok (.iaload, 1) := by decide +kernel
theorem dX4_fullBowls_27 : decode cX4_fullBowls 27 = .ok (.iconst (-1), 1) := by decide +kernel
theorem dX4_fullBowls_28 : decode cX4_fullBowls 28 = .ok (.if_icmp .eq 7, 3) := by decide +kernel
theorem dX4_fullBowls_31 : decode cX4_fullBowls 31 = .ok (.iconst 1, 1) := by decide +kernel
theorem dX4_fullBowls_32 : decode cX4_fullBowls 32 = .ok (.goto 4, 3) := by decide +kernel
theorem dX4_fullBowls_35 : decode cX4_fullBowls 35 = .ok (.iconst 0, 1) := by decide +kernel
theorem dX4_fullBowls_36 : decode cX4_fullBowls 36 = .ok (.iadd, 1) := by decide +kernel
theorem dX4_fullBowls_37 : decode cX4_fullBowls 37 = .ok (.istore_n 1, 1) := by decide +kernel
theorem dX4_fullBowls_38 : decode cX4_fullBowls 38 = .ok (.iinc 2 1, 3) := by decide +kernel
theorem dX4_fullBowls_41 : decode cX4_fullBowls 41 = .ok (.goto (-37), 3) := by decide +kernel
theorem dX4_fullBowls_44 : decode cX4_fullBowls 44 = .ok (.iload_n 1, 1) := by decide +kernel
theorem dX4_fullBowls_45 : decode cX4_fullBowls 45 = .ok (.ireturn, 1) := by decide +kernel
theorem dX4_sum_0 : decode cX4_sum 0 = .ok (.iconst 0, 1) := by decide +kernel
theorem dX4_sum_1 : decode cX4_sum 1 = .ok (.istore_n 1, 1) := by decide +kernel
theorem dX4_sum_2 : decode cX4_sum 2 = .ok (.aload_n 0, 1) := by decide +kernel
theorem dX4_sum_3 : decode cX4_sum 3 = .ok (.astore_n 2, 1) := by decide +kernel
theorem dX4_sum_4 : decode cX4_sum 4 = .ok (.aload_n 2, 1) := by decide +kernel
theorem dX4_sum_5 : decode cX4_sum 5 = .ok (.arraylength, 1) := by decide +kernel
theorem dX4_sum_6 : decode cX4_sum 6 = .ok (.istore_n 3, 1) := by decide +kernel
theorem dX4_sum_7 : decode cX4_sum 7 = .ok (.iconst 0, 1) := by decide +kernel
theorem dX4_sum_8 : decode cX4_sum 8 = .ok (.istore 4, 2) := by decide +kernel
theorem dX4_sum_10 : decode cX4_sum 10 = .ok (.iload 4, 2) := by decide +kernel
theorem dX4_sum_12 : decode cX4_sum 12 = .ok (.iload_n 3, 1) := by decide +kernel
theorem dX4_sum_13 : decode cX4_sum 13 = .ok (.if_icmp .ge 20, 3) := by decide +kernel
theorem dX4_sum_16 : decode cX4_sum 16 = .ok (.aload_n 2, 1) := by decide +kernel
theorem dX4_sum_17 : decode cX4_sum 17 = .ok (.iload 4, 2) := by decide +kernel
theorem dX4_sum_19 : decode cX4_sum 19 = .ok (.iaload, 1) := by decide +kernel
theorem dX4_sum_20 : decode cX4_sum 20 = .ok (.istore 5, 2) := by decide +kernel
theorem dX4_sum_22 : decode cX4_sum 22 = .ok (.iload_n 1, 1) := by decide +kernel
theorem dX4_sum_23 : decode cX4_sum 23 = .ok (.iload 5, 2) := by decide +kernel
theorem dX4_sum_25 : decode cX4_sum 25 = .ok (.iadd, 1) := by decide +kernel
theorem dX4_sum_26 : decode cX4_sum 26 = .ok (.istore_n 1, 1) := by decide +kernel
theorem dX4_sum_27 : decode cX4_sum 27 = .ok (.iinc 4 1, 3) := by decide +kernel
theorem dX4_sum_30 : decode cX4_sum 30 = .ok (.goto (-20), 3) := by decide +kernel
theorem dX4_sum_33 : decode cX4_sum 33 = .ok (.iload_n 1, 1) := by decide +kernel
theorem dX4_sum_34 : decode cX4_sum 34 = .ok (.ireturn, 1) := by decide +kernel
theorem dX4_runOut_0 : decode cX4_runOut 0 = .ok (.aload_n 0, 1) := by decide +kernel
theorem dX4_runOut_1 : decode cX4_runOut 1 = .ok (.getfield 30, 3) := by decide +kernel
theorem dX4_runOut_4 : decode cX4_runOut 4 = .ok (.iload_n 1, 1) := by decide +kernel
theorem dX4_runOut_5 : decode cX4_runOut 5 = .ok (.iaload, 1) := by decide +kernel
theorem dX4_runOut_6 : decode cX4_runOut 6 = .ok (.bipush 12, 2) := by decide +kernel
theorem dX4_runOut_8 : decode cX4_runOut 8 = .ok (.if_icmp .ge 27, 3) := by decide +kernel
theorem dX4_runOut_11 : decode cX4_runOut 11 = .ok (.aload_n 0, 1) := by decide +kernel
theorem dX4_runOut_12 : decode cX4_runOut 12 = .ok (.getfield 35, 3) := by decide +kernel
theorem dX4_runOut_15 : decode cX4_runOut 15 = .ok (.iload_n 1, 1) := by decide +kernel
theorem dX4_runOut_16 : decode cX4_runOut 16 = .ok (.aaload, 1) := by decide +kernel
theorem dX4_runOut_17 : decode cX4_runOut 17 = .ok (.aload_n 0, 1) := by decide +kernel
theorem dX4_runOut_18 : decode cX4_runOut 18 = .ok (.getfield 30, 3) := by decide +kernel
theorem dX4_runOut_21 : decode cX4_runOut 21 = .ok (.iload_n 1, 1) := by decide +kernel
theorem dX4_runOut_22 : decode cX4_runOut 22 = .ok (.iaload, 1) := by decide +kernel
theorem dX4_runOut_23 : decode cX4_runOut 23 = .ok (.iload_n 2, 1) := by decide +kernel
theorem dX4_runOut_24 : decode cX4_runOut 24 = .ok (.iastore, 1) := by decide +kernel
theorem dX4_runOut_25 : decode cX4_runOut 25 = .ok (.aload_n 0, 1) := by decide +kernel
theorem dX4_runOut_26 : decode cX4_runOut 26 = .ok (.getfield 30, 3) := by decide +kernel
theorem dX4_runOut_29 : decode cX4_runOut 29 = .ok (.iload_n 1, 1) := by decide +kernel
theorem dX4_runOut_30 : decode cX4_runOut 30 = .ok (.dup2, 1) := by decide +kernel
theorem dX4_runOut_31 : decode cX4_runOut 31 = .ok (.iaload, 1) := by decide +kernel
theorem dX4_runOut_32 : decode cX4_runOut 32 = .ok (.iconst 1, 1) := by decide +kernel
theorem dX4_runOut_33 : decode cX4_runOut 33 = .ok (.iadd, 1) := by decide +kernel
theorem dX4_runOut_34 : decode cX4_runOut 34 = .ok (.iastore, 1) := by decide +kernel
theorem dX4_runOut_35 : decode cX4_runOut 35 = .ok (.return_, 1) := by decide +kernel
theorem dX4_passOn_0 : decode cX4_passOn 0 = .ok (.aload_n 0, 1) := by decide +kernel
theorem dX4_passOn_1 : decode cX4_passOn 1 = .ok (.getfield 24, 3) := by decide +kernel
theorem dX4_passOn_4 : decode cX4_passOn 4 = .ok (.iload_n 1, 1) := by decide +kernel
theorem dX4_passOn_5 : decode cX4_passOn 5 = .ok (.dup2, 1) := by decide +kernel
theorem dX4_passOn_6 : decode cX4_passOn 6 = .ok (.iaload, 1) := by decide +kernel
theorem dX4_passOn_7 : decode cX4_passOn 7 = .ok (.iconst 1, 1) := by decide +kernel
theorem dX4_passOn_8 : decode cX4_passOn 8 = .ok (.iadd, 1) := by decide +kernel
theorem dX4_passOn_9 : decode cX4_passOn 9 = .ok (.iastore, 1) := by decide +kernel
theorem dX4_passOn_10 : decode cX4_passOn 10 = .ok (.aload_n 0, 1) := by decide +kernel
theorem dX4_passOn_11 : decode cX4_passOn 11 = .ok (.getfield 9, 3) := by decide +kernel
theorem dX4_passOn_14 : decode cX4_passOn 14 = .ok (.iload_n 1, 1) := by decide +kernel
theorem dX4_passOn_15 : decode cX4_passOn 15 = .ok (.iaload, 1) := by decide +kernel
theorem dX4_passOn_16 : decode cX4_passOn 16 = .ok (.iconst 1, 1) := by decide +kernel
theorem dX4_passOn_17 : decode cX4_passOn 17 = .ok (.if_icmp .ne 19, 3) := by decide +kernel
theorem dX4_passOn_20 : decode cX4_passOn 20 = .ok (.aload_n 0, 1) := by decide +kernel
theorem dX4_passOn_21 : decode cX4_passOn 21 = .ok (.getfield 18, 3) := by decide +kernel
theorem dX4_passOn_24 : decode cX4_passOn 24 = .ok (.iload_n 1, 1) := by decide +kernel
theorem dX4_passOn_25 : decode cX4_passOn 25 = .ok (.iaload, 1) := by decide +kernel
theorem dX4_passOn_26 : decode cX4_passOn 26 = .ok (.istore_n 3, 1) := by decide +kernel
theorem dX4_passOn_27 : decode cX4_passOn 27 = .ok (.aload_n 0, 1) := by decide +kernel
theorem dX4_passOn_28 : decode cX4_passOn 28 = .ok (.getfield 18, 3) := by decide +kernel
theorem dX4_passOn_31 : decode cX4_passOn 31 = .ok (.iload_n 1, 1) := by decide +kernel
theorem dX4_passOn_32 : decode cX4_passOn 32 = .ok (.iload_n 2, 1) := by decide +kernel
theorem dX4_passOn_33 : decode cX4_passOn 33 = .ok (.iastore, 1) := by decide +kernel
theorem dX4_passOn_34 : decode cX4_passOn 34 = .ok (.iload_n 3, 1) := by decide +kernel
theorem dX4_passOn_35 : decode cX4_passOn 35 = .ok (.ireturn, 1) := by decide +kernel
theorem dX4_passOn_36 : decode cX4_passOn 36 = .ok (.aload_n 0, 1) := by decide +kernel
theorem dX4_passOn_37 : decode cX4_passOn 37 = .ok (.iload_n 1, 1) := by decide +kernel
theorem dX4_passOn_38 : decode cX4_passOn 38 = .ok (.iload_n 2, 1) := by decide +kernel
theorem dX4_passOn_39 : decode cX4_passOn 39 = .ok (.invokevirtual 84, 3) := by decide +kernel
theorem dX4_passOn_42 : decode cX4_passOn 42 = .ok (.ifCond .eq 5, 3) := by decide +kernel
theorem dX4_passOn_45 : decode cX4_passOn 45 = .ok (.iload_n 2, 1) := by decide +kernel
theorem dX4_passOn_46 : decode cX4_passOn 46 = .ok (.ireturn, 1) := by decide +kernel
theorem dX4_passOn_47 : decode cX4_passOn 47 = .ok (.aload_n 0, 1) := by decide +kernel
theorem dX4_passOn_48 : decode cX4_passOn 48 = .ok (.getfield 27, 3) := by decide +kernel
theorem dX4_passOn_51 : decode cX4_passOn 51 = .ok (.iload_n 1, 1) := by decide +kernel
theorem dX4_passOn_52 : decode cX4_passOn 52 = .ok (.dup2, 1) := by decide +kernel
theorem dX4_passOn_53 : decode cX4_passOn 53 = .ok (.iaload, 1) := by decide +kernel
theorem dX4_passOn_54 : decode cX4_passOn 54 = .ok (.iconst 1, 1) := by decide +kernel
theorem dX4_passOn_55 : decode cX4_passOn 55 = .ok (.iadd, 1) := by decide +kernel
theorem dX4_passOn_56 : decode cX4_passOn 56 = .ok (.iastore, 1) := by decide +kernel
theorem dX4_passOn_57 : decode cX4_passOn 57 = .ok (.iconst (-1), 1) := by decide +kernel
theorem dX4_passOn_58 : decode cX4_passOn 58 = .ok (.ireturn, 1) := by decide +kernel
theorem dX4_letsThrough_0 : decode cX4_letsThrough 0 = .ok (.aload_n 0, 1) := by decide +kernel
theorem dX4_letsThrough_1 : decode cX4_letsThrough 1 = .ok (.getfield 18, 3) := by decide +kernel
theorem dX4_letsThrough_4 : decode cX4_letsThrough 4 = .ok (.iload_n 1, 1) := by decide +kernel
theorem dX4_letsThrough_5 : decode cX4_letsThrough 5 = .ok (.iaload, 1) := by decide +kernel
theorem dX4_letsThrough_6 : decode cX4_letsThrough 6 = .ok (.iload_n 2, 1) := by decide +kernel
theorem dX4_letsThrough_7 : decode cX4_letsThrough 7 = .ok (.if_icmp .eq 7, 3) := by decide +kernel
theorem dX4_letsThrough_10 : decode cX4_letsThrough 10 = .ok (.iconst 1, 1) := by decide +kernel
theorem dX4_letsThrough_11 : decode cX4_letsThrough 11 = .ok (.goto 4, 3) := by decide +kernel
theorem dX4_letsThrough_14 : decode cX4_letsThrough 14 = .ok (.iconst 0, 1) := by decide +kernel
theorem dX4_letsThrough_15 : decode cX4_letsThrough 15 = .ok (.istore_n 3, 1) := by decide +kernel
theorem dX4_letsThrough_16 : decode cX4_letsThrough 16 = .ok (.aload_n 0, 1) := by decide +kernel
theorem dX4_letsThrough_17 : decode cX4_letsThrough 17 = .ok (.getfield 9, 3) := by decide +kernel
theorem dX4_letsThrough_20 : decode cX4_letsThrough 20 = .ok (.iload_n 1, 1) := by decide +kernel
theorem dX4_letsThrough_21 : decode cX4_letsThrough 21 = .ok (.iaload, 1) := by decide +kernel
theorem dX4_letsThrough_22 : decode cX4_letsThrough 22 = .ok (.tableswitch 97 2 4 #[26, 35, 50], 26) := by decide +kernel
theorem dX4_letsThrough_48 : decode cX4_letsThrough 48 = .ok (.aload_n 0, 1) := by decide +kernel
theorem dX4_letsThrough_49 : decode cX4_letsThrough 49 = .ok (.getfield 18, 3) := by decide +kernel
theorem dX4_letsThrough_52 : decode cX4_letsThrough 52 = .ok (.iload_n 1, 1) := by decide +kernel
theorem dX4_letsThrough_53 : decode cX4_letsThrough 53 = .ok (.iload_n 2, 1) := by decide +kernel
theorem dX4_letsThrough_54 : decode cX4_letsThrough 54 = .ok (.iastore, 1) := by decide +kernel
theorem dX4_letsThrough_55 : decode cX4_letsThrough 55 = .ok (.iload_n 3, 1) := by decide +kernel
theorem dX4_letsThrough_56 : decode cX4_letsThrough 56 = .ok (.ireturn, 1) := by decide +kernel
theorem dX4_letsThrough_57 : decode cX4_letsThrough 57 = .ok (.iload_n 2, 1) := by decide +kernel
theorem dX4_letsThrough_58 : decode cX4_letsThrough 58 = .ok (.ifCond .eq 12, 3) := by decide +kernel
theorem dX4_letsThrough_61 : decode cX4_letsThrough 61 = .ok (.iload_n 2, 1) := by decide +kernel
theorem dX4_letsThrough_62 : decode cX4_letsThrough 62 = .ok (.iconst 4, 1) := by decide +kernel
theorem dX4_letsThrough_63 : decode cX4_letsThrough 63 = .ok (.if_icmp .eq 7, 3) := by decide +kernel
theorem dX4_letsThrough_66 : decode cX4_letsThrough 66 = .ok (.iconst 1, 1) := by decide +kernel
theorem dX4_letsThrough_67 : decode cX4_letsThrough 67 = .ok (.goto 4, 3) := by decide +kernel
theorem dX4_letsThrough_70 : decode cX4_letsThrough 70 = .ok (.iconst 0, 1) := by decide +kernel
theorem dX4_letsThrough_71 : decode cX4_letsThrough 71 = .ok (.ireturn, 1) := by decide +kernel
theorem dX4_letsThrough_72 : decode cX4_letsThrough 72 = .ok (.aload_n 0, 1) := by decide +kernel
theorem dX4_letsThrough_73 : decode cX4_letsThrough 73 = .ok (.getfield 18, 3) := by decide +kernel
theorem dX4_letsThrough_76 : decode cX4_letsThrough 76 = .ok (.iload_n 1, 1) := by decide +kernel
theorem dX4_letsThrough_77 : decode cX4_letsThrough 77 = .ok (.iload_n 2, 1) := by decide +kernel
theorem dX4_letsThrough_78 : decode cX4_letsThrough 78 = .ok (.iastore, 1) := by decide +kernel
theorem dX4_letsThrough_79 : decode cX4_letsThrough 79 = .ok (.aload_n 0, 1) := by decide +kernel
theorem dX4_letsThrough_80 : decode cX4_letsThrough 80 = .ok (.getfield 21, 3) := by decide +kernel
theorem dX4_letsThrough_83 : decode cX4_letsThrough 83 = .ok (.iload_n 1, 1) := by decide +kernel
theorem dX4_letsThrough_84 : decode cX4_letsThrough 84 = .ok (.dup2, 1) := by decide +kernel
theorem dX4_letsThrough_85 : decode cX4_letsThrough 85 = .ok (.iaload, 1) := by decide +kernel
theorem dX4_letsThrough_86 : decode cX4_letsThrough 86 = .ok (.iload_n 3, 1) := by decide +kernel
theorem dX4_letsThrough_87 : decode cX4_letsThrough 87 = .ok (.ifCond .eq 7, 3) := by decide +kernel
theorem dX4_letsThrough_90 : decode cX4_letsThrough 90 = .ok (.iconst 1, 1) := by decide +kernel
theorem dX4_letsThrough_91 : decode cX4_letsThrough 91 = .ok (.goto 4, 3) := by decide +kernel
theorem dX4_letsThrough_94 : decode cX4_letsThrough 94 = .ok (.iconst 0, 1) := by decide +kernel
theorem dX4_letsThrough_95 : decode cX4_letsThrough 95 = .ok (.iadd, 1) := by decide +kernel
theorem dX4_letsThrough_96 : decode cX4_letsThrough 96 = .ok (.iastore, 1) := by decide +kernel
theorem dX4_letsThrough_97 : decode cX4_letsThrough 97 = .ok (.iload_n 3, 1) := by decide +kernel
theorem dX4_letsThrough_98 : decode cX4_letsThrough 98 = .ok (.ifCond .eq 19, 3) := by decide +kernel
theorem dX4_letsThrough_101 : decode cX4_letsThrough 101 = .ok (.aload_n 0, 1) := by decide +kernel
theorem dX4_letsThrough_102 : decode cX4_letsThrough 102 = .ok (.getfield 21, 3) := by decide +kernel
theorem dX4_letsThrough_105 : decode cX4_letsThrough 105 = .ok (.iload_n 1, 1) := by decide +kernel
theorem dX4_letsThrough_106 : decode cX4_letsThrough 106 = .ok (.iaload, 1) := by decide +kernel
theorem dX4_letsThrough_107 : decode cX4_letsThrough 107 = .ok (.iconst 2, 1) := by decide +kernel
theorem dX4_letsThrough_108 : decode cX4_letsThrough 108 = .ok (.irem, 1) := by decide +kernel
theorem dX4_letsThrough_109 : decode cX4_letsThrough 109 = .ok (.iconst 1, 1) := by decide +kernel
theorem dX4_letsThrough_110 : decode cX4_letsThrough 110 = .ok (.if_icmp .ne 7, 3) := by decide +kernel
theorem dX4_letsThrough_113 : decode cX4_letsThrough 113 = .ok (.iconst 1, 1) := by decide +kernel
theorem dX4_letsThrough_114 : decode cX4_letsThrough 114 = .ok (.goto 4, 3) := by decide +kernel
theorem dX4_letsThrough_117 : decode cX4_letsThrough 117 = .ok (.iconst 0, 1) := by decide +kernel
theorem dX4_letsThrough_118 : decode cX4_letsThrough 118 = .ok (.ireturn, 1) := by decide +kernel
theorem dX4_letsThrough_119 : decode cX4_letsThrough 119 = .ok (.iconst 1, 1) := by decide +kernel
theorem dX4_letsThrough_120 : decode cX4_letsThrough 120 = .ok (.ireturn, 1) := by decide +kernel
theorem dX5_init_0 : decode cX5_init 0 = .ok (.aload_n 0, 1) := by decide +kernel
theorem dX5_init_1 : decode cX5_init 1 = .ok (.invokespecial 3, 3) := by decide +kernel
theorem dX5_init_4 : decode cX5_init 4 = .ok (.return_, 1) := by decide +kernel
theorem dX5_clear_0 : decode cX5_clear 0 = .ok (.aload_n 0, 1) := by decide +kernel
theorem dX5_clear_1 : decode cX5_clear 1 = .ok (.bipush 6, 2) := by decide +kernel
theorem dX5_clear_3 : decode cX5_clear 3 = .ok (.putfield 9, 3) := by decide +kernel
theorem dX5_clear_6 : decode cX5_clear 6 = .ok (.aload_n 0, 1) := by decide +kernel
theorem dX5_clear_7 : decode cX5_clear 7 = .ok (.iconst 0, 1) := by decide +kernel
theorem dX5_clear_8 : decode cX5_clear 8 = .ok (.putfield 15, 3) := by decide +kernel
theorem dX5_clear_11 : decode cX5_clear 11 = .ok (.aload_n 0, 1) := by decide +kernel
theorem dX5_clear_12 : decode cX5_clear 12 = .ok (.iconst 0, 1) := by decide +kernel
theorem dX5_clear_13 : decode cX5_clear 13 = .ok (.putfield 18, 3) := by decide +kernel
theorem dX5_clear_16 : decode cX5_clear 16 = .ok (.return_, 1) := by decide +kernel
theorem dX5_add_0 : decode cX5_add 0 = .ok (.iload_n 1, 1) := by decide +kernel
theorem dX5_add_1 : decode cX5_add 1 = .ok (.invokestatic 21, 3) := by decide +kernel
theorem dX5_add_4 : decode cX5_add 4 = .ok (.istore_n 2, 1) := by decide +kernel
theorem dX5_add_5 : decode cX5_add 5 = .ok (.aload_n 0, 1) := by decide +kernel
theorem dX5_add_6 : decode cX5_add 6 = .ok (.getfield 18, 3) := by decide +kernel
theorem dX5_add_9 : decode cX5_add 9 = .ok (.ifCond .eq 11, 3) := by decide +kernel
theorem dX5_add_12 : decode cX5_add 12 = .ok (.iload_n 2, 1) := by decide +kernel
theorem dX5_add_13 : decode cX5_add 13 = .ok (.aload_n 0, 1) := by decide +kernel
theorem dX5_add_14 : decode cX5_add 14 = .ok (.getfield 9, 3) := by decide +kernel
theorem dX5_add_17 : decode cX5_add 17 = .ok (.if_icmp .ge 21, 3) := by decide +kernel
theorem dX5_add_20 : decode cX5_add 20 = .ok (.aload_n 0, 1) := by decide +kernel
theorem dX5_add_21 : decode cX5_add 21 = .ok (.iload_n 2, 1) := by decide +kernel
theorem dX5_add_22 : decode cX5_add 22 = .ok (.putfield 9, 3) := by decide +kernel
theorem dX5_add_25 : decode cX5_add 25 = .ok (.aload_n 0, 1) := by decide +kernel
theorem dX5_add_26 : decode cX5_add 26 = .ok (.iload_n 1, 1) := by decide +kernel
theorem dX5_add_27 : decode cX5_add 27 = .ok (.putfield 15, 3) := by decide +kernel
theorem dX5_add_30 : decode cX5_add 30 = .ok (.aload_n 0, 1) := by decide +kernel
theorem dX5_add_31 : decode cX5_add 31 = .ok (.iconst 1, 1) := by decide +kernel
theorem dX5_add_32 : decode cX5_add 32 = .ok (.putfield 18, 3) := by decide +kernel
theorem dX5_add_35 : decode cX5_add 35 = .ok (.goto 33, 3) := by decide +kernel
theorem dX5_add_38 : decode cX5_add 38 = .ok (.iload_n 2, 1) := by decide +kernel
theorem dX5_add_39 : decode cX5_add 39 = .ok (.aload_n 0, 1) := by decide +kernel
theorem dX5_add_40 : decode cX5_add 40 = .ok (.getfield 9, 3) := by decide +kernel
theorem dX5_add_43 : decode cX5_add 43 = .ok (.if_icmp .ne 25, 3) := by decide +kernel
theorem dX5_add_46 : decode cX5_add 46 = .ok (.aload_n 0, 1) := by decide +kernel
theorem dX5_add_47 : decode cX5_add 47 = .ok (.aload_n 0, 1) := by decide +kernel
theorem dX5_add_48 : decode cX5_add 48 = .ok (.getfield 15, 3) := by decide +kernel
theorem dX5_add_51 : decode cX5_add 51 = .ok (.iload_n 1, 1) := by decide +kernel
theorem dX5_add_52 : decode cX5_add 52 = .ok (.invokestatic 27, 3) := by decide +kernel
theorem dX5_add_55 : decode cX5_add 55 = .ok (.putfield 15, 3) := by decide +kernel
theorem dX5_add_58 : decode cX5_add 58 = .ok (.aload_n 0, 1) := by decide +kernel
theorem dX5_add_59 : decode cX5_add 59 = .ok (.dup, 1) := by decide +kernel
theorem dX5_add_60 : decode cX5_add 60 = .ok (.getfield 18, 3) := by decide +kernel
theorem dX5_add_63 : decode cX5_add 63 = .ok (.iconst 1, 1) := by decide +kernel
theorem dX5_add_64 : decode cX5_add 64 = .ok (.iadd, 1) := by decide +kernel
theorem dX5_add_65 : decode cX5_add 65 = .ok (.putfield 18, 3) := by decide +kernel
theorem dX5_add_68 : decode cX5_add 68 = .ok (.return_, 1) := by decide +kernel
theorem dX5_tell_0 : decode cX5_tell 0 = .ok (.aload_n 0, 1) := by decide +kernel
theorem dX5_tell_1 : decode cX5_tell 1 = .ok (.getfield 18, 3) := by decide +kernel
theorem dX5_tell_4 : decode cX5_tell 4 = .ok (.ifCond .ne 5, 3) := by decide +kernel
theorem dX5_tell_7 : decode cX5_tell 7 = .ok (.iconst (-1), 1) := by decide +kernel
theorem dX5_tell_8 : decode cX5_tell 8 = .ok (.ireturn, 1) := by decide +kernel
theorem dX5_tell_9 : decode cX5_tell 9 = .ok (.iload_n 1, 1) := by decide +kernel
theorem dX5_tell_10 : decode cX5_tell 10 = .ok (.lookupswitch 36 #[(0, 26), (1, 31)], 26) := by decide +kernel
theorem dX5_tell_36 : decode cX5_tell 36 = .ok (.aload_n 0, 1) := by decide +kernel
theorem dX5_tell_37 : decode cX5_tell 37 = .ok (.getfield 9, 3) := by decide +kernel
theorem dX5_tell_40 : decode cX5_tell 40 = .ok (.ireturn, 1) := by decide +kernel
theorem dX5_tell_41 : decode cX5_tell 41 = .ok (.aload_n 0, 1) := by decide +kernel
theorem dX5_tell_42 : decode cX5_tell 42 = .ok (.getfield 15, 3) := by decide +kernel
theorem dX5_tell_45 : decode cX5_tell 45 = .ok (.ireturn, 1) := by decide +kernel
theorem dX5_tell_46 : decode cX5_tell 46 = .ok (.aload_n 0, 1) := by decide +kernel
theorem dX5_tell_47 : decode cX5_tell 47 = .ok (.getfield 18, 3) := by decide +kernel
theorem dX5_tell_50 : decode cX5_tell 50 = .ok (.ireturn, 1) := by decide +kernel
theorem dX6_init_0 : decode cX6_init 0 = .ok (.aload_n 0, 1) := by decide +kernel
theorem dX6_init_1 : decode cX6_init 1 = .ok (.invokespecial 1, 3) := by decide +kernel
theorem dX6_init_4 : decode cX6_init 4 = .ok (.aload_n 0, 1) := by decide +kernel
theorem dX6_init_5 : decode cX6_init 5 = .ok (.new 7, 3) := by decide +kernel
theorem dX6_init_8 : decode cX6_init 8 = .ok (.dup, 1) := by decide +kernel
theorem dX6_init_9 : decode cX6_init 9 = .ok (.invokespecial 9, 3) := by decide +kernel
theorem dX6_init_12 : decode cX6_init 12 = .ok (.putfield 10, 3) := by decide +kernel
theorem dX6_init_15 : decode cX6_init 15 = .ok (.aload_n 0, 1) := by decide +kernel
theorem dX6_init_16 : decode cX6_init 16 = .ok (.new 16, 3) := by decide +kernel
theorem dX6_init_19 : decode cX6_init 19 = .ok (.dup, 1) := by decide +kernel
theorem dX6_init_20 : decode cX6_init 20 = .ok (.invokespecial 18, 3) := by decide +kernel
theorem dX6_init_23 : decode cX6_init 23 = .ok (.putfield 19, 3) := by decide +kernel
theorem dX6_init_26 : decode cX6_init 26 = .ok (.aload_n 0, 1) := by decide +kernel
theorem dX6_init_27 : decode cX6_init 27 = .ok (.new 16, 3) := by decide +kernel
theorem dX6_init_30 : decode cX6_init 30 = .ok (.dup, 1) := by decide +kernel
theorem dX6_init_31 : decode cX6_init 31 = .ok (.invokespecial 18, 3) := by decide +kernel
theorem dX6_init_34 : decode cX6_init 34 = .ok (.putfield 23, 3) := by decide +kernel
theorem dX6_init_37 : decode cX6_init 37 = .ok (.aload_n 0, 1) := by decide +kernel
theorem dX6_init_38 : decode cX6_init 38 = .ok (.new 26, 3) := by decide +kernel
theorem dX6_init_41 : decode cX6_init 41 = .ok (.dup, 1) := by decide +kernel
theorem dX6_init_42 : decode cX6_init 42 = .ok (.invokespecial 28, 3) := by decide +kernel
theorem dX6_init_45 : decode cX6_init 45 = .ok (.putfield 29, 3) := by decide +kernel
theorem dX6_init_48 : decode cX6_init 48 = .ok (.aload_n 0, 1) := by decide +kernel
theorem dX6_init_49 : decode cX6_init 49 = .ok (.new 33, 3) := by decide +kernel
theorem dX6_init_52 : decode cX6_init 52 = .ok (.dup, 1) := by decide +kernel
theorem dX6_init_53 : decode cX6_init 53 = .ok (.invokespecial 35, 3) := by decide +kernel
theorem dX6_init_56 : decode cX6_init 56 = .ok (.putfield 36, 3) := by decide +kernel
theorem dX6_init_59 : decode cX6_init 59 = .ok (.aload_n 0, 1) := by decide +kernel
theorem dX6_init_60 : decode cX6_init 60 = .ok (.bipush 8, 2) := by decide +kernel
theorem dX6_init_62 : decode cX6_init 62 = .ok (.newarray .int, 2) := by decide +kernel
theorem dX6_init_64 : decode cX6_init 64 = .ok (.putfield 40, 3) := by decide +kernel
theorem dX6_init_67 : decode cX6_init 67 = .ok (.aload_n 0, 1) := by decide +kernel
theorem dX6_init_68 : decode cX6_init 68 = .ok (.bipush 6, 2) := by decide +kernel
theorem dX6_init_70 : decode cX6_init 70 = .ok (.newarray .int, 2) := by decide +kernel
theorem dX6_init_72 : decode cX6_init 72 = .ok (.putfield 44, 3) := by decide +kernel
theorem dX6_init_75 : decode cX6_init 75 = .ok (.aload_n 0, 1) := by decide +kernel
theorem dX6_init_76 : decode cX6_init 76 = .ok (.sipush 977, 3) := by decide +kernel
theorem dX6_init_79 : decode cX6_init 79 = .ok (.newarray .int, 2) := by decide +kernel
theorem dX6_init_81 : decode cX6_init 81 = .ok (.putfield 47, 3) := by decide +kernel
theorem dX6_init_84 : decode cX6_init 84 = .ok (.return_, 1) := by decide +kernel
theorem dX6_letter_0 : decode cX6_letter 0 = .ok (.iload_n 1, 1) := by decide +kernel
theorem dX6_letter_1 : decode cX6_letter 1 = .ok (.iconst 1, 1) := by decide +kernel
theorem dX6_letter_2 : decode cX6_letter 2 = .ok (.if_icmp .lt 9, 3) := by decide +kernel
theorem dX6_letter_5 : decode cX6_letter 5 = .ok (.iload_n 1, 1) := by decide +kernel
theorem dX6_letter_6 : decode cX6_letter 6 = .ok (.bipush 126, 2) := by decide +kernel
theorem dX6_letter_8 : decode cX6_letter 8 = .ok (.if_icmp .le 6, 3) := by decide +kernel
theorem dX6_letter_11 : decode cX6_letter 11 = .ok (.bipush (-102), 2) := by decide +kernel
theorem dX6_letter_13 : decode cX6_letter 13 = .ok (.ireturn, 1) := by decide +kernel
theorem dX6_letter_14 : decode cX6_letter 14 = .ok (.aload_n 0, 1) := by decide +kernel
theorem dX6_letter_15 : decode cX6_letter 15 = .ok (.getfield 10, 3) := by decide +kernel
theorem dX6_letter_18 : decode cX6_letter 18 = .ok (.getfield 50, 3) := by decide +kernel
theorem dX6_letter_21 : decode cX6_letter 21 = .ok (.bipush 20, 2) := by decide +kernel
theorem dX6_letter_23 : decode cX6_letter 23 = .ok (.if_icmp .lt 6, 3) := by decide +kernel
theorem dX6_letter_26 : decode cX6_letter 26 = .ok (.bipush (-104), 2) := by decide +kernel
theorem dX6_letter_28 : decode cX6_letter 28 = .ok (.ireturn, 1) := by decide +kernel
theorem dX6_letter_29 : decode cX6_letter 29 = .ok (.aload_n 0, 1) := by decide +kernel
theorem dX6_letter_30 : decode cX6_letter 30 = .ok (.getfield 10, 3) := by decide +kernel
theorem dX6_letter_33 : decode cX6_letter 33 = .ok (.getfield 54, 3) := by decide +kernel
theorem dX6_letter_36 : decode cX6_letter 36 = .ok (.aload_n 0, 1) := by decide +kernel
theorem dX6_letter_37 : decode cX6_letter 37 = .ok (.getfield 10, 3) := by decide +kernel
theorem dX6_letter_40 : decode cX6_letter 40 = .ok (.getfield 50, 3) := by decide +kernel
theorem dX6_letter_43 : decode cX6_letter 43 = .ok (.iload_n 1, 1) := by decide +kernel
theorem dX6_letter_44 : decode cX6_letter 44 = .ok (.iastore, 1) := by decide +kernel
theorem dX6_letter_45 : decode cX6_letter 45 = .ok (.aload_n 0, 1) := by decide +kernel
theorem dX6_letter_46 : decode cX6_letter 46 = .ok (.getfield 10, 3) := by decide +kernel
theorem dX6_letter_49 : decode cX6_letter 49 = .ok (.dup, 1) := by decide +kernel
theorem dX6_letter_50 : decode cX6_letter 50 = .ok (.getfield 50, 3) := by decide +kernel
theorem dX6_letter_53 : decode cX6_letter 53 = .ok (.iconst 1, 1) := by decide +kernel
theorem dX6_letter_54 : decode cX6_letter 54 = .ok (.iadd, 1) := by decide +kernel
theorem dX6_letter_55 : decode cX6_letter 55 = .ok (.putfield 50, 3) := by decide +kernel
theorem dX6_letter_58 : decode cX6_letter 58 = .ok (.aload_n 0, 1) := by decide +kernel
theorem dX6_letter_59 : decode cX6_letter 59 = .ok (.getfield 10, 3) := by decide +kernel
theorem dX6_letter_62 : decode cX6_letter 62 = .ok (.getfield 50, 3) := by decide +kernel
theorem dX6_letter_65 : decode cX6_letter 65 = .ok (.ireturn, 1) := by decide +kernel
theorem dX6_blank_0 : decode cX6_blank 0 = .ok (.aload_n 0, 1) := by decide +kernel
theorem dX6_blank_1 : decode cX6_blank 1 = .ok (.getfield 10, 3) := by decide +kernel
theorem dX6_blank_4 : decode cX6_blank 4 = .ok (.getfield 50, 3) := by decide +kernel
theorem dX6_blank_7 : decode cX6_blank 7 = .ok (.istore_n 1, 1) := by decide +kernel
theorem dX6_blank_8 : decode cX6_blank 8 = .ok (.aload_n 0, 1) := by decide +kernel
theorem dX6_blank_9 : decode cX6_blank 9 = .ok (.getfield 10, 3) := by decide +kernel
theorem dX6_blank_12 : decode cX6_blank 12 = .ok (.iconst 0, 1) := by decide +kernel
theorem dX6_blank_13 : decode cX6_blank 13 = .ok (.putfield 50, 3) := by decide +kernel
theorem dX6_blank_16 : decode cX6_blank 16 = .ok (.iload_n 1, 1) := by decide +kernel
theorem dX6_blank_17 : decode cX6_blank 17 = .ok (.ireturn, 1) := by decide +kernel
theorem dX6_fault_0 : decode cX6_fault 0 = .ok (.iload_n 1, 1) := by decide +kernel
theorem dX6_fault_1 : decode cX6_fault 1 = .ok (.ifCond .eq 11, 3) := by decide +kernel
theorem dX6_fault_4 : decode cX6_fault 4 = .ok (.iload_n 1, 1) := by decide +kernel
theorem dX6_fault_5 : decode cX6_fault 5 = .ok (.iconst 1, 1) := by decide +kernel
theorem dX6_fault_6 : decode cX6_fault 6 = .ok (.if_icmp .eq 6, 3) := by decide +kernel
theorem dX6_fault_9 : decode cX6_fault 9 = .ok (.bipush (-102), 2) := by decide +kernel
theorem dX6_fault_11 : decode cX6_fault 11 = .ok (.ireturn, 1) := by decide +kernel
theorem dX6_fault_12 : decode cX6_fault 12 = .ok (.aload_n 0, 1) := by decide +kernel
theorem dX6_fault_13 : decode cX6_fault 13 = .ok (.getfield 10, 3) := by decide +kernel
theorem dX6_fault_16 : decode cX6_fault 16 = .ok (.iload_n 1, 1) := by decide +kernel
theorem dX6_fault_17 : decode cX6_fault 17 = .ok (.invokevirtual 57, 3) := by decide +kernel
theorem dX6_fault_20 : decode cX6_fault 20 = .ok (.ireturn, 1) := by decide +kernel
theorem dX6_street_0 : decode cX6_street 0 = .ok (.aload_n 0, 1) := by decide +kernel
theorem dX6_street_1 : decode cX6_street 1 = .ok (.getfield 10, 3) := by decide +kernel
theorem dX6_street_4 : decode cX6_street 4 = .ok (.invokevirtual 61, 3) := by decide +kernel
theorem dX6_street_7 : decode cX6_street 7 = .ok (.ifCond .ne 6, 3) := by decide +kernel
theorem dX6_street_10 : decode cX6_street 10 = .ok (.bipush (-103), 2) := by decide +kernel
theorem dX6_street_12 : decode cX6_street 12 = .ok (.ireturn, 1) := by decide +kernel
theorem dX6_street_13 : decode cX6_street 13 = .ok (.iconst 0, 1) := by decide +kernel
theorem dX6_street_14 : decode cX6_street 14 = .ok (.istore_n 1, 1) := by decide +kernel
theorem dX6_street_15 : decode cX6_street 15 = .ok (.iload_n 1, 1) := by decide +kernel
theorem dX6_street_16 : decode cX6_street 16 = .ok (.bipush 6, 2) := by decide +kernel
theorem dX6_street_18 : decode cX6_street 18 = .ok (.if_icmp .ge 56, 3) := by decide +kernel
theorem dX6_street_21 : decode cX6_street 21 = .ok (.aload_n 0, 1) := by decide +kernel
theorem dX6_street_22 : decode cX6_street 22 = .ok (.getfield 19, 3) := by decide +kernel
theorem dX6_street_25 : decode cX6_street 25 = .ok (.getfield 65, 3) := by decide +kernel
theorem dX6_street_28 : decode cX6_street 28 = .ok (.getfield 68, 3) := by decide +kernel
theorem dX6_street_31 : decode cX6_street 31 = .ok (.iload_n 1, 1) := by decide +kernel
theorem dX6_street_32 : decode cX6_street 32 = .ok (.aload_n 0, 1) := by decide +kernel
theorem dX6_street_33 : decode cX6_street 33 = .ok (.getfield 10, 3) := by decide +kernel
theorem dX6_street_36 : decode cX6_street 36 = .ok (.iload_n 1, 1) := by decide +kernel
theorem dX6_street_37 : decode cX6_street 37 = .ok (.iconst 3, 1) := by decide +kernel
theorem dX6_street_38 : decode cX6_street 38 = .ok (.imul, 1) := by decide +kernel
theorem dX6_street_39 : decode cX6_street 39 = .ok (.invokevirtual 71, 3) := by decide +kernel
theorem dX6_street_42 : decode cX6_street 42 = .ok (.iastore, 1) := by decide +kernel
theorem dX6_street_43 : decode cX6_street 43 = .ok (.aload_n 0, 1) := by decide +kernel
theorem dX6_street_44 : decode cX6_street 44 = .ok (.getfield 19, 3) := by decide +kernel
theorem dX6_street_47 : decode cX6_street 47 = .ok (.getfield 65, 3) := by decide +kernel
theorem dX6_street_50 : decode cX6_street 50 = .ok (.getfield 74, 3) := by decide +kernel
theorem dX6_street_53 : decode cX6_street 53 = .ok (.iload_n 1, 1) := by decide +kernel
theorem dX6_street_54 : decode cX6_street 54 = .ok (.aload_n 0, 1) := by decide +kernel
theorem dX6_street_55 : decode cX6_street 55 = .ok (.getfield 10, 3) := by decide +kernel
theorem dX6_street_58 : decode cX6_street 58 = .ok (.iload_n 1, 1) := by decide +kernel
theorem dX6_street_59 : decode cX6_street 59 = .ok (.iconst 3, 1) := by decide +kernel
theorem dX6_street_60 : decode cX6_street 60 = .ok (.imul, 1) := by decide +kernel
theorem dX6_street_61 : decode cX6_street 61 = .ok (.iconst 1, 1) := by decide +kernel
theorem dX6_street_62 : decode cX6_street 62 = .ok (.iadd, 1) := by decide +kernel
theorem dX6_street_63 : decode cX6_street 63 = .ok (.iload_n 1, 1) := by decide +kernel
theorem dX6_street_64 : decode cX6_street 64 = .ok (.invokevirtual 77, 3) := by decide +kernel
theorem dX6_street_67 : decode cX6_street 67 = .ok (.iastore, 1) := by decide +kernel
theorem dX6_street_68 : decode cX6_street 68 = .ok (.iinc 1 1, 3) := by decide +kernel
theorem dX6_street_71 : decode cX6_street 71 = .ok (.goto (-56), 3) := by decide +kernel
theorem dX6_street_74 : decode cX6_street 74 = .ok (.aload_n 0, 1) := by decide +kernel
theorem dX6_street_75 : decode cX6_street 75 = .ok (.getfield 19, 3) := by decide +kernel
theorem dX6_street_78 : decode cX6_street 78 = .ok (.getfield 65, 3) := by decide +kernel
theorem dX6_street_81 : decode cX6_street 81 = .ok (.invokevirtual 81, 3) := by decide +kernel
theorem dX6_street_84 : decode cX6_street 84 = .ok (.aload_n 0, 1) := by decide +kernel
theorem dX6_street_85 : decode cX6_street 85 = .ok (.getfield 19, 3) := by decide +kernel
theorem dX6_street_88 : decode cX6_street 88 = .ok (.getfield 84, 3) := by decide +kernel
theorem dX6_street_91 : decode cX6_street 91 = .ok (.iconst 0, 1) := by decide +kernel
theorem dX6_street_92 : decode cX6_street 92 = .ok (.putfield 88, 3) := by decide +kernel
theorem dX6_street_95 : decode cX6_street 95 = .ok (.aload_n 0, 1) := by decide +kernel
theorem dX6_street_96 : decode cX6_street 96 = .ok (.getfield 19, 3) := by decide +kernel
theorem dX6_street_99 : decode cX6_street 99 = .ok (.getfield 91, 3) := by decide +kernel
theorem dX6_street_102 : decode cX6_street 102 = .ok (.invokevirtual 95, 3) := by decide +kernel
theorem dX6_street_105 : decode cX6_street 105 = .ok (.aload_n 0, 1) := by decide +kernel
theorem dX6_street_106 : decode cX6_street 106 = .ok (.iconst 0, 1) := by decide +kernel
theorem dX6_street_107 : decode cX6_street 107 = .ok (.putfield 98, 3) := by decide +kernel
theorem dX6_street_110 : decode cX6_street 110 = .ok (.aload_n 0, 1) := by decide +kernel
theorem dX6_street_111 : decode cX6_street 111 = .ok (.dup, 1) := by decide +kernel
theorem dX6_street_112 : decode cX6_street 112 = .ok (.getfield 102, 3) := by decide +kernel
theorem dX6_street_115 : decode cX6_street 115 = .ok (.iconst 1, 1) := by decide +kernel
theorem dX6_street_116 : decode cX6_street 116 = .ok (.iadd, 1) := by decide +kernel
theorem dX6_street_117 : decode cX6_street 117 = .ok (.putfield 102, 3) := by decide +kernel
theorem dX6_street_120 : decode cX6_street 120 = .ok (.aload_n 0, 1) := by decide +kernel
theorem dX6_street_121 : decode cX6_street 121 = .ok (.getfield 10, 3) := by decide +kernel
theorem dX6_street_124 : decode cX6_street 124 = .ok (.iconst 0, 1) := by decide +kernel
theorem dX6_street_125 : decode cX6_street 125 = .ok (.putfield 50, 3) := by decide +kernel
theorem dX6_street_128 : decode cX6_street 128 = .ok (.aload_n 0, 1) := by decide +kernel
theorem dX6_street_129 : decode cX6_street 129 = .ok (.getfield 19, 3) := by decide +kernel
theorem dX6_street_132 : decode cX6_street 132 = .ok (.getfield 65, 3) := by decide +kernel
theorem dX6_street_135 : decode cX6_street 135 = .ok (.invokevirtual 105, 3) := by decide +kernel
theorem dX6_street_138 : decode cX6_street 138 = .ok (.ireturn, 1) := by decide +kernel
theorem dX6_about_0 : decode cX6_about 0 = .ok (.aload_n 0, 1) := by decide +kernel
theorem dX6_about_1 : decode cX6_about 1 = .ok (.iload_n 1, 1) := by decide +kernel
theorem dX6_about_2 : decode cX6_about 2 = .ok (.invokevirtual 109, 3) := by decide +kernel
theorem dX6_about_5 : decode cX6_about 5 = .ok (.ifCond .ne 6, 3) := by decide +kernel
theorem dX6_about_8 : decode cX6_about 8 = .ok (.bipush (-101), 2) := by decide +kernel
theorem dX6_about_10 : decode cX6_about 10 = .ok (.ireturn, 1) := by decide +kernel
theorem dX6_about_11 : decode cX6_about 11 = .ok (.iload_n 2, 1) := by decide +kernel
theorem dX6_about_12 : decode cX6_about 12 = .ok (.tableswitch 118 0 5 #[40, 53, 66, 79, 92, 105], 40) := by decide +kernel
theorem dX6_about_52 : decode cX6_about 52 = .ok (.aload_n 0, 1) := by decide +kernel
theorem dX6_about_53 : decode cX6_about 53 = .ok (.getfield 19, 3) := by decide +kernel
theorem dX6_about_56 : decode cX6_about 56 = .ok (.getfield 65, 3) := by decide +kernel
theorem dX6_about_59 : decode cX6_about 59 = .ok (.getfield 68, 3) := by decide +kernel
theorem dX6_about_62 : decode cX6_about 62 = .ok (.iload_n 1, 1) := by decide +kernel
theorem dX6_about_63 : decode cX6_about 63 = .ok (.iaload, 1) := by decide +kernel
theorem dX6_about_64 : decode cX6_about 64 = .ok (.ireturn, 1) := by decide +kernel
theorem dX6_about_65 : decode cX6_about 65 = .ok (.aload_n 0, 1) := by decide +kernel
theorem dX6_about_66 : decode cX6_about 66 = .ok (.getfield 19, 3) := by decide +kernel
theorem dX6_about_69 : decode cX6_about 69 = .ok (.getfield 65, 3) := by decide +kernel
theorem dX6_about_72 : decode cX6_about 72 = .ok (.getfield 74, 3) := by decide +kernel
theorem dX6_about_75 : decode cX6_about 75 = .ok (.iload_n 1, 1) := by decide +kernel
theorem dX6_about_76 : decode cX6_about 76 = .ok (.iaload, 1) := by decide +kernel
theorem dX6_about_77 : decode cX6_about 77 = .ok (.ireturn, 1) := by decide +kernel
theorem dX6_about_78 : decode cX6_about 78 = .ok (.aload_n 0, 1) := by decide +kernel
theorem dX6_about_79 : decode cX6_about 79 = .ok (.getfield 19, 3) := by decide +kernel
theorem dX6_about_82 : decode cX6_about 82 = .ok (.getfield 65, 3) := by decide +kernel
theorem dX6_about_85 : decode cX6_about 85 = .ok (.getfield 113, 3) := by decide +kernel
theorem dX6_about_88 : decode cX6_about 88 = .ok (.iload_n 1, 1) := by decide +kernel
theorem dX6_about_89 : decode cX6_about 89 = .ok (.iaload, 1) := by decide +kernel
theorem dX6_about_90 : decode cX6_about 90 = .ok (.ireturn, 1) := by decide +kernel
theorem dX6_about_91 : decode cX6_about 91 = .ok (.aload_n 0, 1) := by decide +kernel
theorem dX6_about_92 : decode cX6_about 92 = .ok (.getfield 19, 3) := by decide +kernel
theorem dX6_about_95 : decode cX6_about 95 = .ok (.getfield 65, 3) := by decide +kernel
theorem dX6_about_98 : decode cX6_about 98 = .ok (.getfield 116, 3) := by decide +kernel
theorem dX6_about_101 : decode cX6_about 101 = .ok (.iload_n 1, 1) := by decide +kernel
theorem dX6_about_102 : decode cX6_about 102 = .ok (.iaload, 1) := by decide +kernel
theorem dX6_about_103 : decode cX6_about 103 = .ok (.ireturn, 1) := by decide +kernel
theorem dX6_about_104 : decode cX6_about 104 = .ok (.aload_n 0, 1) := by decide +kernel
theorem dX6_about_105 : decode cX6_about 105 = .ok (.getfield 19, 3) := by decide +kernel
theorem dX6_about_108 : decode cX6_about 108 = .ok (.getfield 65, 3) := by decide +kernel
theorem dX6_about_111 : decode cX6_about 111 = .ok (.getfield 119, 3) := by decide +kernel
theorem dX6_about_114 : decode cX6_about 114 = .ok (.iload_n 1, 1) := by decide +kernel
theorem dX6_about_115 : decode cX6_about 115 = .ok (.iaload, 1) := by decide +kernel
theorem dX6_about_116 : decode cX6_about 116 = .ok (.ireturn, 1) := by decide +kernel
theorem dX6_about_117 : decode cX6_about 117 = .ok (.aload_n 0, 1) := by decide +kernel
theorem dX6_about_118 : decode cX6_about 118 = .ok (.getfield 19, 3) := by decide +kernel
theorem dX6_about_121 : decode cX6_about 121 = .ok (.getfield 65, 3) := by decide +kernel
theorem dX6_about_124 : decode cX6_about 124 = .ok (.getfield 122, 3) := by decide +kernel
theorem dX6_about_127 : decode cX6_about 127 = .ok (.iload_n 1, 1) := by decide +kernel
theorem dX6_about_128 : decode cX6_about 128 = .ok (.iaload, 1) := by decide +kernel
theorem dX6_about_129 : decode cX6_about 129 = .ok (.ireturn, 1) := by decide +kernel
theorem dX6_about_130 : decode cX6_about 130 = .ok (.bipush (-102), 2) := by decide +kernel
theorem dX6_about_132 : decode cX6_about 132 = .ok (.ireturn, 1) := by decide +kernel
theorem dX6_as_0 : decode cX6_as 0 = .ok (.aload_n 0, 1) := by decide +kernel
theorem dX6_as_1 : decode cX6_as 1 = .ok (.iload_n 1, 1) := by decide +kernel
theorem dX6_as_2 : decode cX6_as 2 = .ok (.invokevirtual 109, 3) := by decide +kernel
theorem dX6_as_5 : decode cX6_as 5 = .ok (.ifCond .ne 6, 3) := by decide +kernel
theorem dX6_as_8 : decode cX6_as 8 = .ok (.bipush (-101), 2) := by decide +kernel
theorem dX6_as_10 : decode cX6_as 10 = .ok (.ireturn, 1) := by decide +kernel
theorem dX6_as_11 : decode cX6_as 11 = .ok (.iload_n 2, 1) := by decide +kernel
theorem dX6_as_12 : decode cX6_as 12 = .ok (.ifCond .lt 8, 3) := by decide +kernel
theorem dX6_as_15 : decode cX6_as 15 = .ok (.iload_n 2, 1) := by decide +kernel
theorem dX6_as_16 : decode cX6_as 16 = .ok (.iconst 5, 1) := by decide +kernel
theorem dX6_as_17 : decode cX6_as 17 = .ok (.if_icmp .lt 6, 3) := by decide +kernel
theorem dX6_as_20 : decode cX6_as 20 = .ok (.bipush (-102), 2) := by decide +kernel
theorem dX6_as_22 : decode cX6_as 22 = .ok (.ireturn, 1) := by decide +kernel
theorem dX6_as_23 : decode cX6_as 23 = .ok (.aload_n 0, 1) := by decide +kernel
theorem dX6_as_24 : decode cX6_as 24 = .ok (.getfield 19, 3) := by decide +kernel
theorem dX6_as_27 : decode cX6_as 27 = .ok (.getfield 65, 3) := by decide +kernel
theorem dX6_as_30 : decode cX6_as 30 = .ok (.getfield 68, 3) := by decide +kernel
theorem dX6_as_33 : decode cX6_as 33 = .ok (.iload_n 1, 1) := by decide +kernel
theorem dX6_as_34 : decode cX6_as 34 = .ok (.iaload, 1) := by decide +kernel
theorem dX6_as_35 : decode cX6_as 35 = .ok (.istore_n 3, 1) := by decide +kernel
theorem dX6_as_36 : decode cX6_as 36 = .ok (.iload_n 2, 1) := by decide +kernel
theorem dX6_as_37 : decode cX6_as 37 = .ok (.ifCond .eq 18, 3) := by decide +kernel
theorem dX6_as_40 : decode cX6_as 40 = .ok (.iload_n 2, 1) := by decide +kernel
theorem dX6_as_41 : decode cX6_as 41 = .ok (.iload_n 3, 1) := by decide +kernel
theorem dX6_as_42 : decode cX6_as 42 = .ok (.if_icmp .eq 13, 3) := by decide +kernel
theorem dX6_as_45 : decode cX6_as 45 = .ok (.iload_n 2, 1) := by decide +kernel
theorem dX6_as_46 : decode cX6_as 46 = .ok (.iconst 2, 1) := by decide +kernel
theorem dX6_as_47 : decode cX6_as 47 = .ok (.if_icmp .ne 12, 3) := by decide +kernel
theorem dX6_as_50 : decode cX6_as 50 = .ok (.iload_n 3, 1) := by decide +kernel
theorem dX6_as_51 : decode cX6_as 51 = .ok (.iconst 4, 1) := by decide +kernel
theorem dX6_as_52 : decode cX6_as 52 = .ok (.if_icmp .ne 7, 3) := by decide +kernel
theorem dX6_as_55 : decode cX6_as 55 = .ok (.iconst 1, 1) := by decide +kernel
theorem dX6_as_56 : decode cX6_as 56 = .ok (.goto 4, 3) := by decide +kernel
theorem dX6_as_59 : decode cX6_as 59 = .ok (.iconst 0, 1) := by decide +kernel
theorem dX6_as_60 : decode cX6_as 60 = .ok (.istore 4, 2) := by decide +kernel
theorem dX6_as_62 : decode cX6_as 62 = .ok (.iload 4, 2) := by decide +kernel
theorem dX6_as_64 : decode cX6_as 64 = .ok (.ifCond .eq 7, 3) := by decide +kernel
theorem dX6_as_67 : decode cX6_as 67 = .ok (.iload_n 1, 1) := by decide +kernel
theorem dX6_as_68 : decode cX6_as 68 = .ok (.goto 4, 3) := by decide +kernel
theorem dX6_as_71 : decode cX6_as 71 = .ok (.iconst (-1), 1) := by decide +kernel
theorem dX6_as_72 : decode cX6_as 72 = .ok (.ireturn, 1) := by decide +kernel
theorem dX6_word_0 : decode cX6_word 0 = .ok (.aload_n 0, 1) := by decide +kernel
theorem dX6_word_1 : decode cX6_word 1 = .ok (.iload_n 1, 1) := by decide +kernel
theorem dX6_word_2 : decode cX6_word 2 = .ok (.invokevirtual 109, 3) := by decide +kernel
theorem dX6_word_5 : decode cX6_word 5 = .ok (.ifCond .eq 23, 3) := by decide +kernel
theorem dX6_word_8 : decode cX6_word 8 = .ok (.iload_n 2, 1) := by decide +kernel
theorem dX6_word_9 : decode cX6_word 9 = .ok (.ifCond .lt 19, 3) := by decide +kernel
theorem dX6_word_12 : decode cX6_word 12 = .ok (.iload_n 2, 1) := by decide +kernel
theorem dX6_word_13 : decode cX6_word 13 = .ok (.aload_n 0, 1) := by decide +kernel
theorem dX6_word_14 : decode cX6_word 14 = .ok (.getfield 19, 3) := by decide +kernel
theorem dX6_word_17 : decode cX6_word 17 = .ok (.getfield 65, 3) := by decide +kernel
theorem dX6_word_20 : decode cX6_word 20 = .ok (.getfield 119, 3) := by decide +kernel
theorem dX6_word_23 : decode cX6_word 23 = .ok (.iload_n 1, 1) := by decide +kernel
theorem dX6_word_24 : decode cX6_word 24 = .ok (.iaload, 1) := by decide +kernel
theorem dX6_word_25 : decode cX6_word 25 = .ok (.if_icmp .lt 6, 3) := by decide +kernel
theorem dX6_word_28 : decode cX6_word 28 = .ok (.bipush (-101), 2) := by decide +kernel
theorem dX6_word_30 : decode cX6_word 30 = .ok (.ireturn, 1) := by decide +kernel
theorem dX6_word_31 : decode cX6_word 31 = .ok (.aload_n 0, 1) := by decide +kernel
theorem dX6_word_32 : decode cX6_word 32 = .ok (.getfield 19, 3) := by decide +kernel
theorem dX6_word_35 : decode cX6_word 35 = .ok (.getfield 65, 3) := by decide +kernel
theorem dX6_word_38 : decode cX6_word 38 = .ok (.getfield 125, 3) := by decide +kernel
theorem dX6_word_41 : decode cX6_word 41 = .ok (.iload_n 1, 1) := by decide +kernel
theorem dX6_word_42 : decode cX6_word 42 = .ok (.aaload, 1) := by decide +kernel
theorem dX6_word_43 : decode cX6_word 43 = .ok (.iload_n 2, 1) := by decide +kernel
theorem dX6_word_44 : decode cX6_word 44 = .ok (.iaload, 1) := by decide +kernel
theorem dX6_word_45 : decode cX6_word 45 = .ok (.ireturn, 1) := by decide +kernel
theorem dX6_drop_0 : decode cX6_drop 0 = .ok (.aload_n 0, 1) := by decide +kernel
theorem dX6_drop_1 : decode cX6_drop 1 = .ok (.iload_n 1, 1) := by decide +kernel
theorem dX6_drop_2 : decode cX6_drop 2 = .ok (.invokevirtual 109, 3) := by decide +kernel
theorem dX6_drop_5 : decode cX6_drop 5 = .ok (.ifCond .ne 6, 3) := by decide +kernel
theorem dX6_drop_8 : decode cX6_drop 8 = .ok (.bipush (-101), 2) := by decide +kernel
theorem dX6_drop_10 : decode cX6_drop 10 = .ok (.ireturn, 1) := by decide +kernel
theorem dX6_drop_11 : decode cX6_drop 11 = .ok (.iload_n 2, 1) := by decide +kernel
theorem dX6_drop_12 : decode cX6_drop 12 = .ok (.invokestatic 129, 3) := by decide +kernel
theorem dX6_drop_15 : decode cX6_drop 15 = .ok (.ifCond .ne 6, 3) := by decide +kernel
theorem dX6_drop_18 : decode cX6_drop 18 = .ok (.bipush (-102), 2) := by decide +kernel
theorem dX6_drop_20 : decode cX6_drop 20 = .ok (.ireturn, 1) := by decide +kernel
theorem dX6_drop_21 : decode cX6_drop 21 = .ok (.aload_n 0, 1) := by decide +kernel
theorem dX6_drop_22 : decode cX6_drop 22 = .ok (.getfield 19, 3) := by decide +kernel
theorem dX6_drop_25 : decode cX6_drop 25 = .ok (.getfield 84, 3) := by decide +kernel
theorem dX6_drop_28 : decode cX6_drop 28 = .ok (.getfield 88, 3) := by decide +kernel
theorem dX6_drop_31 : decode cX6_drop 31 = .ok (.bipush 12, 2) := by decide +kernel
theorem dX6_drop_33 : decode cX6_drop 33 = .ok (.if_icmp .lt 6, 3) := by decide +kernel
theorem dX6_drop_36 : decode cX6_drop 36 = .ok (.bipush (-104), 2) := by decide +kernel
theorem dX6_drop_38 : decode cX6_drop 38 = .ok (.ireturn, 1) := by decide +kernel
theorem dX6_drop_39 : decode cX6_drop 39 = .ok (.aload_n 0, 1) := by decide +kernel
theorem dX6_drop_40 : decode cX6_drop 40 = .ok (.getfield 19, 3) := by decide +kernel
theorem dX6_drop_43 : decode cX6_drop 43 = .ok (.getfield 84, 3) := by decide +kernel
theorem dX6_drop_46 : decode cX6_drop 46 = .ok (.iload_n 1, 1) := by decide +kernel
theorem dX6_drop_47 : decode cX6_drop 47 = .ok (.iload_n 2, 1) := by decide +kernel
theorem dX6_drop_48 : decode cX6_drop 48 = .ok (.invokevirtual 132, 3) := by decide +kernel
theorem dX6_drop_51 : decode cX6_drop 51 = .ok (.aload_n 0, 1) := by decide +kernel
theorem dX6_drop_52 : decode cX6_drop 52 = .ok (.getfield 19, 3) := by decide +kernel
theorem dX6_drop_55 : decode cX6_drop 55 = .ok (.getfield 65, 3) := by decide +kernel
theorem dX6_drop_58 : decode cX6_drop 58 = .ok (.iload_n 1, 1) := by decide +kernel
theorem dX6_drop_59 : decode cX6_drop 59 = .ok (.iload_n 2, 1) := by decide +kernel
theorem dX6_drop_60 : decode cX6_drop 60 = .ok (.invokevirtual 136, 3) := by decide +kernel
theorem dX6_drop_63 : decode cX6_drop 63 = .ok (.ireturn, 1) := by decide +kernel
theorem dX6_rain_0 : decode cX6_rain 0 = .ok (.aload_n 0, 1) := by decide +kernel
theorem dX6_rain_1 : decode cX6_rain 1 = .ok (.iload_n 1, 1) := by decide +kernel
theorem dX6_rain_2 : decode cX6_rain 2 = .ok (.invokevirtual 139, 3) := by decide +kernel
theorem dX6_rain_5 : decode cX6_rain 5 = .ok (.ifCond .ne 6, 3) := by decide +kernel
theorem dX6_rain_8 : decode cX6_rain 8 = .ok (.bipush (-101), 2) := by decide +kernel
theorem dX6_rain_10 : decode cX6_rain 10 = .ok (.ireturn, 1) := by decide +kernel
theorem dX6_rain_11 : decode cX6_rain 11 = .ok (.iload_n 2, 1) := by decide +kernel
theorem dX6_rain_12 : decode cX6_rain 12 = .ok (.ifCond .eq 11, 3) := by decide +kernel
theorem dX6_rain_15 : decode cX6_rain 15 = .ok (.iload_n 2, 1) := by decide +kernel
theorem dX6_rain_16 : decode cX6_rain 16 = .ok (.iconst 1, 1) := by decide +kernel
theorem dX6_rain_17 : decode cX6_rain 17 = .ok (.if_icmp .eq 6, 3) := by decide +kernel
theorem dX6_rain_20 : decode cX6_rain 20 = .ok (.bipush (-102), 2) := by decide +kernel
theorem dX6_rain_22 : decode cX6_rain 22 = .ok (.ireturn, 1) := by decide +kernel
theorem dX6_rain_23 : decode cX6_rain 23 = .ok (.iload_n 2, 1) := by decide +kernel
theorem dX6_rain_24 : decode cX6_rain 24 = .ok (.ifCond .ne 18, 3) := by decide +kernel
theorem dX6_rain_27 : decode cX6_rain 27 = .ok (.aload_n 0, 1) := by decide +kernel
theorem dX6_rain_28 : decode cX6_rain 28 = .ok (.getfield 19, 3) := by decide +kernel
theorem dX6_rain_31 : decode cX6_rain 31 = .ok (.getfield 84, 3) := by decide +kernel
theorem dX6_rain_34 : decode cX6_rain 34 = .ok (.getfield 142, 3) := by decide +kernel
theorem dX6_rain_37 : decode cX6_rain 37 = .ok (.iload_n 1, 1) := by decide +kernel
theorem dX6_rain_38 : decode cX6_rain 38 = .ok (.iaload, 1) := by decide +kernel
theorem dX6_rain_39 : decode cX6_rain 39 = .ok (.goto 15, 3) := by decide +kernel
theorem dX6_rain_42 : decode cX6_rain 42 = .ok (.aload_n 0, 1) := by decide +kernel
theorem dX6_rain_43 : decode cX6_rain 43 = .ok (.getfield 19, 3) := by decide +kernel
theorem dX6_rain_46 : decode cX6_rain 46 = .ok (.getfield 84, 3) := by decide +kernel
theorem dX6_rain_49 : decode cX6_rain 49 = .ok (.getfield 145, 3) := by decide +kernel
theorem dX6_rain_52 : decode cX6_rain 52 = .ok (.iload_n 1, 1) := by decide +kernel
theorem dX6_rain_53 : decode cX6_rain 53 = .ok (.iaload, 1) := by decide +kernel
theorem dX6_rain_54 : decode cX6_rain 54 = .ok (.ireturn, 1) := by decide +kernel
theorem dX6_dry_0 : decode cX6_dry 0 = .ok (.aload_n 0, 1) := by decide +kernel
theorem dX6_dry_1 : decode cX6_dry 1 = .ok (.invokevirtual 148, 3) := by decide +kernel
theorem dX6_dry_4 : decode cX6_dry 4 = .ok (.ifCond .ne 6, 3) := by decide +kernel
theorem dX6_dry_7 : decode cX6_dry 7 = .ok (.bipush (-103), 2) := by decide +kernel
theorem dX6_dry_9 : decode cX6_dry 9 = .ok (.ireturn, 1) := by decide +kernel
theorem dX6_dry_10 : decode cX6_dry 10 = .ok (.aload_n 0, 1) := by decide +kernel
theorem dX6_dry_11 : decode cX6_dry 11 = .ok (.getfield 19, 3) := by decide +kernel
theorem dX6_dry_14 : decode cX6_dry 14 = .ok (.getfield 84, 3) := by decide +kernel
theorem dX6_dry_17 : decode cX6_dry 17 = .ok (.getfield 88, 3) := by decide +kernel
theorem dX6_dry_20 : decode cX6_dry 20 = .ok (.istore_n 1, 1) := by decide +kernel
theorem dX6_dry_21 : decode cX6_dry 21 = .ok (.aload_n 0, 1) := by decide +kernel
theorem dX6_dry_22 : decode cX6_dry 22 = .ok (.getfield 19, 3) := by decide +kernel
theorem dX6_dry_25 : decode cX6_dry 25 = .ok (.getfield 84, 3) := by decide +kernel
theorem dX6_dry_28 : decode cX6_dry 28 = .ok (.iconst 0, 1) := by decide +kernel
theorem dX6_dry_29 : decode cX6_dry 29 = .ok (.putfield 88, 3) := by decide +kernel
theorem dX6_dry_32 : decode cX6_dry 32 = .ok (.aload_n 0, 1) := by decide +kernel
theorem dX6_dry_33 : decode cX6_dry 33 = .ok (.getfield 19, 3) := by decide +kernel
theorem dX6_dry_36 : decode cX6_dry 36 = .ok (.getfield 65, 3) := by decide +kernel
theorem dX6_dry_39 : decode cX6_dry 39 = .ok (.invokevirtual 81, 3) := by decide +kernel
theorem dX6_dry_42 : decode cX6_dry 42 = .ok (.iload_n 1, 1) := by decide +kernel
theorem dX6_dry_43 : decode cX6_dry 43 = .ok (.ireturn, 1) := by decide +kernel
theorem dX6_turn_0 : decode cX6_turn 0 = .ok (.aload_n 0, 1) := by decide +kernel
theorem dX6_turn_1 : decode cX6_turn 1 = .ok (.iload_n 1, 1) := by decide +kernel
theorem dX6_turn_2 : decode cX6_turn 2 = .ok (.invokevirtual 109, 3) := by decide +kernel
theorem dX6_turn_5 : decode cX6_turn 5 = .ok (.ifCond .ne 6, 3) := by decide +kernel
theorem dX6_turn_8 : decode cX6_turn 8 = .ok (.bipush (-101), 2) := by decide +kernel
theorem dX6_turn_10 : decode cX6_turn 10 = .ok (.ireturn, 1) := by decide +kernel
theorem dX6_turn_11 : decode cX6_turn 11 = .ok (.iload_n 2, 1) := by decide +kernel
theorem dX6_turn_12 : decode cX6_turn 12 = .ok (.iconst (-1), 1) := by decide +kernel
theorem dX6_turn_13 : decode cX6_turn 13 = .ok (.if_icmp .eq 17, 3) := by decide +kernel
theorem dX6_turn_16 : decode cX6_turn 16 = .ok (.iload_n 2, 1) := by decide +kernel
theorem dX6_turn_17 : decode cX6_turn 17 = .ok (.iload_n 1, 1) := by decide +kernel
theorem dX6_turn_18 : decode cX6_turn 18 = .ok (.if_icmp .le 9, 3) := by decide +kernel
theorem dX6_turn_21 : decode cX6_turn 21 = .ok (.iload_n 2, 1) := by decide +kernel
theorem dX6_turn_22 : decode cX6_turn 22 = .ok (.bipush 6, 2) := by decide +kernel
theorem dX6_turn_24 : decode cX6_turn 24 = .ok (.if_icmp .lt 6, 3) := by decide +kernel
theorem dX6_turn_27 : decode cX6_turn 27 = .ok (.bipush (-102), 2) := by decide +kernel
theorem dX6_turn_29 : decode cX6_turn 29 = .ok (.ireturn, 1) := by decide +kernel
theorem dX6_turn_30 : decode cX6_turn 30 = .ok (.aload_n 0, 1) := by decide +kernel
theorem dX6_turn_31 : decode cX6_turn 31 = .ok (.getfield 19, 3) := by decide +kernel
theorem dX6_turn_34 : decode cX6_turn 34 = .ok (.getfield 65, 3) := by decide +kernel
theorem dX6_turn_37 : decode cX6_turn 37 = .ok (.getfield 74, 3) := by decide +kernel
theorem dX6_turn_40 : decode cX6_turn 40 = .ok (.iload_n 1, 1) := by decide +kernel
theorem dX6_turn_41 : decode cX6_turn 41 = .ok (.iaload, 1) := by decide +kernel
theorem dX6_turn_42 : decode cX6_turn 42 = .ok (.istore_n 3, 1) := by decide +kernel
theorem dX6_turn_43 : decode cX6_turn 43 = .ok (.aload_n 0, 1) := by decide +kernel
theorem dX6_turn_44 : decode cX6_turn 44 = .ok (.getfield 19, 3) := by decide +kernel
theorem dX6_turn_47 : decode cX6_turn 47 = .ok (.getfield 65, 3) := by decide +kernel
theorem dX6_turn_50 : decode cX6_turn 50 = .ok (.getfield 74, 3) := by decide +kernel
theorem dX6_turn_53 : decode cX6_turn 53 = .ok (.iload_n 1, 1) := by decide +kernel
theorem dX6_turn_54 : decode cX6_turn 54 = .ok (.iload_n 2, 1) := by decide +kernel
theorem dX6_turn_55 : decode cX6_turn 55 = .ok (.iastore, 1) := by decide +kernel
theorem dX6_turn_56 : decode cX6_turn 56 = .ok (.iload_n 3, 1) := by decide +kernel
theorem dX6_turn_57 : decode cX6_turn 57 = .ok (.ireturn, 1) := by decide +kernel
theorem dX6_fewTurns_0 : decode cX6_fewTurns 0 = .ok (.aload_n 0, 1) := by decide +kernel
theorem dX6_fewTurns_1 : decode cX6_fewTurns 1 = .ok (.iload_n 1, 1) := by decide +kernel
theorem dX6_fewTurns_2 : decode cX6_fewTurns 2 = .ok (.invokevirtual 109, 3) := by decide +kernel
theorem dX6_fewTurns_5 : decode cX6_fewTurns 5 = .ok (.ifCond .ne 6, 3) := by decide +kernel
theorem dX6_fewTurns_8 : decode cX6_fewTurns 8 = .ok (.bipush (-101), 2) := by decide +kernel
theorem dX6_fewTurns_10 : decode cX6_fewTurns 10 = .ok (.ireturn, 1) := by decide +kernel
theorem dX6_fewTurns_11 : decode cX6_fewTurns 11 = .ok (.iload_n 2, 1) := by decide +kernel
theorem dX6_fewTurns_12 : decode cX6_fewTurns 12 = .ok (.ifCond .lt 8, 3) := by decide +kernel
theorem dX6_fewTurns_15 : decode cX6_fewTurns 15 = .ok (.iload_n 2, 1) := by decide +kernel
theorem dX6_fewTurns_16 : decode cX6_fewTurns 16 = .ok (.iconst 2, 1) := by decide +kernel
theorem dX6_fewTurns_17 : decode cX6_fewTurns 17 = .ok (.if_icmp .le 6, 3) := by decide +kernel
theorem dX6_fewTurns_20 : decode cX6_fewTurns 20 = .ok (.bipush (-102), 2) := by decide +kernel
theorem dX6_fewTurns_22 : decode cX6_fewTurns 22 = .ok (.ireturn, 1) := by decide +kernel
theorem dX6_fewTurns_23 : decode cX6_fewTurns 23 = .ok (.aload_n 0, 1) := by decide +kernel
theorem dX6_fewTurns_24 : decode cX6_fewTurns 24 = .ok (.getfield 10, 3) := by decide +kernel
theorem dX6_fewTurns_27 : decode cX6_fewTurns 27 = .ok (.invokevirtual 151, 3) := by decide +kernel
theorem dX6_fewTurns_30 : decode cX6_fewTurns 30 = .ok (.ifCond .eq 12, 3) := by decide +kernel
theorem dX6_fewTurns_33 : decode cX6_fewTurns 33 = .ok (.aload_n 0, 1) := by decide +kernel
theorem dX6_fewTurns_34 : decode cX6_fewTurns 34 = .ok (.getfield 154, 3) := by decide +kernel
theorem dX6_fewTurns_37 : decode cX6_fewTurns 37 = .ok (.bipush 20, 2) := by decide +kernel
theorem dX6_fewTurns_39 : decode cX6_fewTurns 39 = .ok (.if_icmp .lt 6, 3) := by decide +kernel
theorem dX6_fewTurns_42 : decode cX6_fewTurns 42 = .ok (.bipush (-103), 2) := by decide +kernel
theorem dX6_fewTurns_44 : decode cX6_fewTurns 44 = .ok (.ireturn, 1) := by decide +kernel
theorem dX6_fewTurns_45 : decode cX6_fewTurns 45 = .ok (.aload_n 0, 1) := by decide +kernel
theorem dX6_fewTurns_46 : decode cX6_fewTurns 46 = .ok (.dup, 1) := by decide +kernel
theorem dX6_fewTurns_47 : decode cX6_fewTurns 47 = .ok (.getfield 154, 3) := by decide +kernel
theorem dX6_fewTurns_50 : decode cX6_fewTurns 50 = .ok (.iconst 1, 1) := by decide +kernel
theorem dX6_fewTurns_51 : decode cX6_fewTurns 51 = .ok (.iadd, 1) := by decide +kernel
theorem dX6_fewTurns_52 : decode cX6_fewTurns 52 = .ok (.putfield 154, 3) := by decide +kernel
theorem dX6_fewTurns_55 : decode cX6_fewTurns 55 = .ok (.aload_n 0, 1) := by decide +kernel
theorem dX6_fewTurns_56 : decode cX6_fewTurns 56 = .ok (.iload_n 1, 1) := by decide +kernel
theorem dX6_fewTurns_57 : decode cX6_fewTurns 57 = .ok (.invokevirtual 157, 3) := by decide +kernel
theorem dX6_fewTurns_60 : decode cX6_fewTurns 60 = .ok (.aload_n 0, 1) := by decide +kernel
theorem dX6_fewTurns_61 : decode cX6_fewTurns 61 = .ok (.getfield 36, 3) := by decide +kernel
theorem dX6_fewTurns_64 : decode cX6_fewTurns 64 = .ok (.iload_n 2, 1) := by decide +kernel
theorem dX6_fewTurns_65 : decode cX6_fewTurns 65 = .ok (.invokevirtual 161, 3) := by decide +kernel
theorem dX6_fewTurns_68 : decode cX6_fewTurns 68 = .ok (.ireturn, 1) := by decide +kernel
theorem dX6_orders_0 : decode cX6_orders 0 = .ok (.aload_n 0, 1) := by decide +kernel
theorem dX6_orders_1 : decode cX6_orders 1 = .ok (.iload_n 1, 1) := by decide +kernel
theorem dX6_orders_2 : decode cX6_orders 2 = .ok (.invokevirtual 109, 3) := by decide +kernel
theorem dX6_orders_5 : decode cX6_orders 5 = .ok (.ifCond .ne 6, 3) := by decide +kernel
theorem dX6_orders_8 : decode cX6_orders 8 = .ok (.bipush (-101), 2) := by decide +kernel
theorem dX6_orders_10 : decode cX6_orders 10 = .ok (.ireturn, 1) := by decide +kernel
theorem dX6_orders_11 : decode cX6_orders 11 = .ok (.aload_n 0, 1) := by decide +kernel
theorem dX6_orders_12 : decode cX6_orders 12 = .ok (.getfield 19, 3) := by decide +kernel
theorem dX6_orders_15 : decode cX6_orders 15 = .ok (.getfield 65, 3) := by decide +kernel
theorem dX6_orders_18 : decode cX6_orders 18 = .ok (.getfield 74, 3) := by decide +kernel
theorem dX6_orders_21 : decode cX6_orders 21 = .ok (.iload_n 1, 1) := by decide +kernel
theorem dX6_orders_22 : decode cX6_orders 22 = .ok (.iaload, 1) := by decide +kernel
theorem dX6_orders_23 : decode cX6_orders 23 = .ok (.iconst (-1), 1) := by decide +kernel
theorem dX6_orders_24 : decode cX6_orders 24 = .ok (.if_icmp .ne 12, 3) := by decide +kernel
theorem dX6_orders_27 : decode cX6_orders 27 = .ok (.aload_n 0, 1) := by decide +kernel
theorem dX6_orders_28 : decode cX6_orders 28 = .ok (.getfield 164, 3) := by decide +kernel
theorem dX6_orders_31 : decode cX6_orders 31 = .ok (.bipush 20, 2) := by decide +kernel
theorem dX6_orders_33 : decode cX6_orders 33 = .ok (.if_icmp .lt 6, 3) := by decide +kernel
theorem dX6_orders_36 : decode cX6_orders 36 = .ok (.bipush (-103), 2) := by decide +kernel
theorem dX6_orders_38 : decode cX6_orders 38 = .ok (.ireturn, 1) := by decide +kernel
theorem dX6_orders_39 : decode cX6_orders 39 = .ok (.aload_n 0, 1) := by decide +kernel
theorem dX6_orders_40 : decode cX6_orders 40 = .ok (.dup, 1) := by decide +kernel
theorem dX6_orders_41 : decode cX6_orders 41 = .ok (.getfield 164, 3) := by decide +kernel
theorem dX6_orders_44 : decode cX6_orders 44 = .ok (.iconst 1, 1) := by decide +kernel
theorem dX6_orders_45 : decode cX6_orders 45 = .ok (.iadd, 1) := by decide +kernel
theorem dX6_orders_46 : decode cX6_orders 46 = .ok (.putfield 164, 3) := by decide +kernel
theorem dX6_orders_49 : decode cX6_orders 49 = .ok (.aload_n 0, 1) := by decide +kernel
theorem dX6_orders_50 : decode cX6_orders 50 = .ok (.iload_n 1, 1) := by decide +kernel
theorem dX6_orders_51 : decode cX6_orders 51 = .ok (.invokevirtual 167, 3) := by decide +kernel
theorem dX6_orders_54 : decode cX6_orders 54 = .ok (.ireturn, 1) := by decide +kernel
theorem dX6_bestDrop_0 : decode cX6_bestDrop 0 = .ok (.iload_n 1, 1) := by decide +kernel
theorem dX6_bestDrop_1 : decode cX6_bestDrop 1 = .ok (.invokestatic 129, 3) := by decide +kernel
theorem dX6_bestDrop_4 : decode cX6_bestDrop 4 = .ok (.ifCond .ne 6, 3) := by decide +kernel
theorem dX6_bestDrop_7 : decode cX6_bestDrop 7 = .ok (.bipush (-102), 2) := by decide +kernel
theorem dX6_bestDrop_9 : decode cX6_bestDrop 9 = .ok (.ireturn, 1) := by decide +kernel
theorem dX6_bestDrop_10 : decode cX6_bestDrop 10 = .ok (.aload_n 0, 1) := by decide +kernel
theorem dX6_bestDrop_11 : decode cX6_bestDrop 11 = .ok (.invokevirtual 148, 3) := by decide +kernel
theorem dX6_bestDrop_14 : decode cX6_bestDrop 14 = .ok (.ifCond .ne 6, 3) := by decide +kernel
theorem dX6_bestDrop_17 : decode cX6_bestDrop 17 = .ok (.bipush (-103), 2) := by decide +kernel
theorem dX6_bestDrop_19 : decode cX6_bestDrop 19 = .ok (.ireturn, 1) := by decide +kernel
theorem dX6_bestDrop_20 : decode cX6_bestDrop 20 = .ok (.aload_n 0, 1) := by decide +kernel
theorem dX6_bestDrop_21 : decode cX6_bestDrop 21 = .ok (.getfield 19, 3) := by decide +kernel
theorem dX6_bestDrop_24 : decode cX6_bestDrop 24 = .ok (.getfield 84, 3) := by decide +kernel
theorem dX6_bestDrop_27 : decode cX6_bestDrop 27 = .ok (.getfield 88, 3) := by decide +kernel
theorem dX6_bestDrop_30 : decode cX6_bestDrop 30 = .ok (.bipush 12, 2) := by decide +kernel
theorem dX6_bestDrop_32 : decode cX6_bestDrop 32 = .ok (.if_icmp .lt 6, 3) := by decide +kernel
theorem dX6_bestDrop_35 : decode cX6_bestDrop 35 = .ok (.bipush (-104), 2) := by decide +kernel
theorem dX6_bestDrop_37 : decode cX6_bestDrop 37 = .ok (.ireturn, 1) := by decide +kernel
theorem dX6_bestDrop_38 : decode cX6_bestDrop 38 = .ok (.iconst 0, 1) := by decide +kernel
theorem dX6_bestDrop_39 : decode cX6_bestDrop 39 = .ok (.istore_n 2, 1) := by decide +kernel
theorem dX6_bestDrop_40 : decode cX6_bestDrop 40 = .ok (.iconst (-1), 1) := by decide +kernel
theorem dX6_bestDrop_41 : decode cX6_bestDrop 41 = .ok (.istore_n 3, 1) := by decide +kernel
theorem dX6_bestDrop_42 : decode cX6_bestDrop 42 = .ok (.iconst 0, 1) := by decide +kernel
theorem dX6_bestDrop_43 : decode cX6_bestDrop 43 = .ok (.istore 4, 2) := by decide +kernel
theorem dX6_bestDrop_45 : decode cX6_bestDrop 45 = .ok (.iload 4, 2) := by decide +kernel
theorem dX6_bestDrop_47 : decode cX6_bestDrop 47 = .ok (.bipush 6, 2) := by decide +kernel
theorem dX6_bestDrop_49 : decode cX6_bestDrop 49 = .ok (.if_icmp .ge 71, 3) := by decide +kernel
theorem dX6_bestDrop_52 : decode cX6_bestDrop 52 = .ok (.aload_n 0, 1) := by decide +kernel
theorem dX6_bestDrop_53 : decode cX6_bestDrop 53 = .ok (.getfield 29, 3) := by decide +kernel
theorem dX6_bestDrop_56 : decode cX6_bestDrop 56 = .ok (.aload_n 0, 1) := by decide +kernel
theorem dX6_bestDrop_57 : decode cX6_bestDrop 57 = .ok (.getfield 19, 3) := by decide +kernel
theorem dX6_bestDrop_60 : decode cX6_bestDrop 60 = .ok (.getfield 65, 3) := by decide +kernel
theorem dX6_bestDrop_63 : decode cX6_bestDrop 63 = .ok (.invokevirtual 170, 3) := by decide +kernel
theorem dX6_bestDrop_66 : decode cX6_bestDrop 66 = .ok (.aload_n 0, 1) := by decide +kernel
theorem dX6_bestDrop_67 : decode cX6_bestDrop 67 = .ok (.getfield 29, 3) := by decide +kernel
theorem dX6_bestDrop_70 : decode cX6_bestDrop 70 = .ok (.aload_n 0, 1) := by decide +kernel
theorem dX6_bestDrop_71 : decode cX6_bestDrop 71 = .ok (.getfield 19, 3) := by decide +kernel
theorem dX6_bestDrop_74 : decode cX6_bestDrop 74 = .ok (.getfield 84, 3) := by decide +kernel
theorem dX6_bestDrop_77 : decode cX6_bestDrop 77 = .ok (.iconst (-1), 1) := by decide +kernel
theorem dX6_bestDrop_78 : decode cX6_bestDrop 78 = .ok (.iconst 0, 1) := by decide +kernel
theorem dX6_bestDrop_79 : decode cX6_bestDrop 79 = .ok (.invokevirtual 174, 3) := by decide +kernel
theorem dX6_bestDrop_82 : decode cX6_bestDrop 82 = .ok (.aload_n 0, 1) := by decide +kernel
theorem dX6_bestDrop_83 : decode cX6_bestDrop 83 = .ok (.getfield 29, 3) := by decide +kernel
theorem dX6_bestDrop_86 : decode cX6_bestDrop 86 = .ok (.iload 4, 2) := by decide +kernel
theorem dX6_bestDrop_88 : decode cX6_bestDrop 88 = .ok (.iload_n 1, 1) := by decide +kernel
theorem dX6_bestDrop_89 : decode cX6_bestDrop 89 = .ok (.invokevirtual 136, 3) := by decide +kernel
theorem dX6_bestDrop_92 : decode cX6_bestDrop 92 = .ok (.pop, 1) := by decide +kernel
theorem dX6_bestDrop_93 : decode cX6_bestDrop 93 = .ok (.aload_n 0, 1) := by decide +kernel
theorem dX6_bestDrop_94 : decode cX6_bestDrop 94 = .ok (.getfield 29, 3) := by decide +kernel
theorem dX6_bestDrop_97 : decode cX6_bestDrop 97 = .ok (.invokevirtual 178, 3) := by decide +kernel
theorem dX6_bestDrop_100 : decode cX6_bestDrop 100 = .ok (.istore 5, 2) := by decide +kernel
theorem dX6_bestDrop_102 : decode cX6_bestDrop 102 = .ok (.iload 5, 2) := by decide +kernel
theorem dX6_bestDrop_104 : decode cX6_bestDrop 104 = .ok (.iload_n 3, 1) := by decide +kernel
theorem dX6_bestDrop_105 : decode cX6_bestDrop 105 = .ok (.if_icmp .le 9, 3) := by decide +kernel
theorem dX6_bestDrop_108 : decode cX6_bestDrop 108 = .ok (.iload 5, 2) := by decide +kernel
theorem dX6_bestDrop_110 : decode cX6_bestDrop 110 = .ok (.istore_n 3, 1) := by decide +kernel
theorem dX6_bestDrop_111 : decode cX6_bestDrop 111 = .ok (.iload 4, 2) := by decide +kernel
theorem dX6_bestDrop_113 : decode cX6_bestDrop 113 = .ok (.istore_n 2, 1) := by decide +kernel
theorem dX6_bestDrop_114 : decode cX6_bestDrop 114 = .ok (.iinc 4 1, 3) := by decide +kernel
theorem dX6_bestDrop_117 : decode cX6_bestDrop 117 = .ok (.goto (-72), 3) := by decide +kernel
theorem dX6_bestDrop_120 : decode cX6_bestDrop 120 = .ok (.iload_n 2, 1) := by decide +kernel
theorem dX6_bestDrop_121 : decode cX6_bestDrop 121 = .ok (.ireturn, 1) := by decide +kernel
theorem dX6_found_0 : decode cX6_found 0 = .ok (.aload_n 0, 1) := by decide +kernel
theorem dX6_found_1 : decode cX6_found 1 = .ok (.iload_n 1, 1) := by decide +kernel
theorem dX6_found_2 : decode cX6_found 2 = .ok (.invokevirtual 109, 3) := by decide +kernel
theorem dX6_found_5 : decode cX6_found 5 = .ok (.ifCond .ne 6, 3) := by decide +kernel
theorem dX6_found_8 : decode cX6_found 8 = .ok (.bipush (-101), 2) := by decide +kernel
theorem dX6_found_10 : decode cX6_found 10 = .ok (.ireturn, 1) := by decide +kernel
theorem dX6_found_11 : decode cX6_found 11 = .ok (.aload_n 0, 1) := by decide +kernel
theorem dX6_found_12 : decode cX6_found 12 = .ok (.getfield 10, 3) := by decide +kernel
theorem dX6_found_15 : decode cX6_found 15 = .ok (.getfield 50, 3) := by decide +kernel
theorem dX6_found_18 : decode cX6_found 18 = .ok (.ifCond .eq 16, 3) := by decide +kernel
theorem dX6_found_21 : decode cX6_found 21 = .ok (.aload_n 0, 1) := by decide +kernel
theorem dX6_found_22 : decode cX6_found 22 = .ok (.getfield 10, 3) := by decide +kernel
theorem dX6_found_25 : decode cX6_found 25 = .ok (.invokevirtual 151, 3) := by decide +kernel
theorem dX6_found_28 : decode cX6_found 28 = .ok (.ifCond .ne 6, 3) := by decide +kernel
theorem dX6_found_31 : decode cX6_found 31 = .ok (.bipush (-103), 2) := by decide +kernel
theorem dX6_found_33 : decode cX6_found 33 = .ok (.ireturn, 1) := by decide +kernel
theorem dX6_found_34 : decode cX6_found 34 = .ok (.aload_n 0, 1) := by decide +kernel
theorem dX6_found_35 : decode cX6_found 35 = .ok (.getfield 10, 3) := by decide +kernel
theorem dX6_found_38 : decode cX6_found 38 = .ok (.aload_n 0, 1) := by decide +kernel
theorem dX6_found_39 : decode cX6_found 39 = .ok (.getfield 19, 3) := by decide +kernel
theorem dX6_found_42 : decode cX6_found 42 = .ok (.getfield 91, 3) := by decide +kernel
theorem dX6_found_45 : decode cX6_found 45 = .ok (.getfield 181, 3) := by decide +kernel
theorem dX6_found_48 : decode cX6_found 48 = .ok (.iload_n 1, 1) := by decide +kernel
theorem dX6_found_49 : decode cX6_found 49 = .ok (.aaload, 1) := by decide +kernel
theorem dX6_found_50 : decode cX6_found 50 = .ok (.invokevirtual 182, 3) := by decide +kernel
theorem dX6_found_53 : decode cX6_found 53 = .ok (.aload_n 0, 1) := by decide +kernel
theorem dX6_found_54 : decode cX6_found 54 = .ok (.getfield 19, 3) := by decide +kernel
theorem dX6_found_57 : decode cX6_found 57 = .ok (.getfield 91, 3) := by decide +kernel
theorem dX6_found_60 : decode cX6_found 60 = .ok (.getfield 186, 3) := by decide +kernel
theorem dX6_found_63 : decode cX6_found 63 = .ok (.iload_n 1, 1) := by decide +kernel
theorem dX6_found_64 : decode cX6_found 64 = .ok (.aload_n 0, 1) := by decide +kernel
theorem dX6_found_65 : decode cX6_found 65 = .ok (.getfield 10, 3) := by decide +kernel
theorem dX6_found_68 : decode cX6_found 68 = .ok (.getfield 50, 3) := by decide +kernel
theorem dX6_found_71 : decode cX6_found 71 = .ok (.iastore, 1) := by decide +kernel
theorem dX6_found_72 : decode cX6_found 72 = .ok (.aload_n 0, 1) := by decide +kernel
theorem dX6_found_73 : decode cX6_found 73 = .ok (.getfield 10, 3) := by decide +kernel
theorem dX6_found_76 : decode cX6_found 76 = .ok (.iconst 0, 1) := by decide +kernel
theorem dX6_found_77 : decode cX6_found 77 = .ok (.putfield 50, 3) := by decide +kernel
theorem dX6_found_80 : decode cX6_found 80 = .ok (.aload_n 0, 1) := by decide +kernel
theorem dX6_found_81 : decode cX6_found 81 = .ok (.getfield 19, 3) := by decide +kernel
theorem dX6_found_84 : decode cX6_found 84 = .ok (.getfield 91, 3) := by decide +kernel
theorem dX6_found_87 : decode cX6_found 87 = .ok (.invokevirtual 187, 3) := by decide +kernel
theorem dX6_found_90 : decode cX6_found 90 = .ok (.ireturn, 1) := by decide +kernel
theorem dX6_forget_0 : decode cX6_forget 0 = .ok (.aload_n 0, 1) := by decide +kernel
theorem dX6_forget_1 : decode cX6_forget 1 = .ok (.getfield 19, 3) := by decide +kernel
theorem dX6_forget_4 : decode cX6_forget 4 = .ok (.getfield 91, 3) := by decide +kernel
theorem dX6_forget_7 : decode cX6_forget 7 = .ok (.invokevirtual 187, 3) := by decide +kernel
theorem dX6_forget_10 : decode cX6_forget 10 = .ok (.istore_n 1, 1) := by decide +kernel
theorem dX6_forget_11 : decode cX6_forget 11 = .ok (.aload_n 0, 1) := by decide +kernel
theorem dX6_forget_12 : decode cX6_forget 12 = .ok (.getfield 19, 3) := by decide +kernel
theorem dX6_forget_15 : decode cX6_forget 15 = .ok (.getfield 91, 3) := by decide +kernel
theorem dX6_forget_18 : decode cX6_forget 18 = .ok (.invokevirtual 95, 3) := by decide +kernel
theorem dX6_forget_21 : decode cX6_forget 21 = .ok (.iload_n 1, 1) := by decide +kernel
theorem dX6_forget_22 : decode cX6_forget 22 = .ok (.ireturn, 1) := by decide +kernel
theorem dX6_kindOf_0 : decode cX6_kindOf 0 = .ok (.aload_n 0, 1) := by decide +kernel
theorem dX6_kindOf_1 : decode cX6_kindOf 1 = .ok (.iload_n 1, 1) := by decide +kernel
theorem dX6_kindOf_2 : decode cX6_kindOf 2 = .ok (.invokevirtual 109, 3) := by decide +kernel
theorem dX6_kindOf_5 : decode cX6_kindOf 5 = .ok (.ifCond .ne 6, 3) := by decide +kernel
theorem dX6_kindOf_8 : decode cX6_kindOf 8 = .ok (.bipush (-101), 2) := by decide +kernel
theorem dX6_kindOf_10 : decode cX6_kindOf 10 = .ok (.ireturn, 1) := by decide +kernel
theorem dX6_kindOf_11 : decode cX6_kindOf 11 = .ok (.iconst 0, 1) := by decide +kernel
theorem dX6_kindOf_12 : decode cX6_kindOf 12 = .ok (.istore_n 2, 1) := by decide +kernel
theorem dX6_kindOf_13 : decode cX6_kindOf 13 = .ok (.iconst 0, 1) := by decide +kernel
theorem dX6_kindOf_14 : decode cX6_kindOf 14 = .ok (.istore_n 3, 1) := by decide +kernel
theorem dX6_kindOf_15 : decode cX6_kindOf 15 = .ok (.iload_n 3, 1) := by decide +kernel
theorem dX6_kindOf_16 : decode cX6_kindOf 16 = .ok (.iconst 5, 1) := by decide +kernel
theorem dX6_kindOf_17 : decode cX6_kindOf 17 = .ok (.if_icmp .ge 72, 3) := by decide +kernel
theorem dX6_kindOf_20 : decode cX6_kindOf 20 = .ok (.aload_n 0, 1) := by decide +kernel
theorem dX6_kindOf_21 : decode cX6_kindOf 21 = .ok (.getfield 29, 3) := by decide +kernel
theorem dX6_kindOf_24 : decode cX6_kindOf 24 = .ok (.aload_n 0, 1) := by decide +kernel
theorem dX6_kindOf_25 : decode cX6_kindOf 25 = .ok (.getfield 19, 3) := by decide +kernel
theorem dX6_kindOf_28 : decode cX6_kindOf 28 = .ok (.getfield 65, 3) := by decide +kernel
theorem dX6_kindOf_31 : decode cX6_kindOf 31 = .ok (.invokevirtual 170, 3) := by decide +kernel
theorem dX6_kindOf_34 : decode cX6_kindOf 34 = .ok (.aload_n 0, 1) := by decide +kernel
theorem dX6_kindOf_35 : decode cX6_kindOf 35 = .ok (.getfield 29, 3) := by decide +kernel
theorem dX6_kindOf_38 : decode cX6_kindOf 38 = .ok (.getfield 68, 3) := by decide +kernel
theorem dX6_kindOf_41 : decode cX6_kindOf 41 = .ok (.iload_n 1, 1) := by decide +kernel
theorem dX6_kindOf_42 : decode cX6_kindOf 42 = .ok (.iload_n 3, 1) := by decide +kernel
theorem dX6_kindOf_43 : decode cX6_kindOf 43 = .ok (.iastore, 1) := by decide +kernel
theorem dX6_kindOf_44 : decode cX6_kindOf 44 = .ok (.aload_n 0, 1) := by decide +kernel
theorem dX6_kindOf_45 : decode cX6_kindOf 45 = .ok (.getfield 29, 3) := by decide +kernel
theorem dX6_kindOf_48 : decode cX6_kindOf 48 = .ok (.aload_n 0, 1) := by decide +kernel
theorem dX6_kindOf_49 : decode cX6_kindOf 49 = .ok (.getfield 19, 3) := by decide +kernel
theorem dX6_kindOf_52 : decode cX6_kindOf 52 = .ok (.getfield 84, 3) := by decide +kernel
theorem dX6_kindOf_55 : decode cX6_kindOf 55 = .ok (.iconst (-1), 1) := by decide +kernel
theorem dX6_kindOf_56 : decode cX6_kindOf 56 = .ok (.iconst 0, 1) := by decide +kernel
theorem dX6_kindOf_57 : decode cX6_kindOf 57 = .ok (.invokevirtual 174, 3) := by decide +kernel
theorem dX6_kindOf_60 : decode cX6_kindOf 60 = .ok (.aload_n 0, 1) := by decide +kernel
theorem dX6_kindOf_61 : decode cX6_kindOf 61 = .ok (.getfield 19, 3) := by decide +kernel
theorem dX6_kindOf_64 : decode cX6_kindOf 64 = .ok (.getfield 91, 3) := by decide +kernel
theorem dX6_kindOf_67 : decode cX6_kindOf 67 = .ok (.aload_n 0, 1) := by decide +kernel
theorem dX6_kindOf_68 : decode cX6_kindOf 68 = .ok (.getfield 29, 3) := by decide +kernel
theorem dX6_kindOf_71 : decode cX6_kindOf 71 = .ok (.invokevirtual 190, 3) := by decide +kernel
theorem dX6_kindOf_74 : decode cX6_kindOf 74 = .ok (.ifCond .eq 9, 3) := by decide +kernel
theorem dX6_kindOf_77 : decode cX6_kindOf 77 = .ok (.iload_n 2, 1) := by decide +kernel
theorem dX6_kindOf_78 : decode cX6_kindOf 78 = .ok (.iconst 1, 1) := by decide +kernel
theorem dX6_kindOf_79 : decode cX6_kindOf 79 = .ok (.iload_n 3, 1) := by decide +kernel
theorem dX6_kindOf_80 : decode cX6_kindOf 80 = .ok (.ishl, 1) := by decide +kernel
theorem dX6_kindOf_81 : decode cX6_kindOf 81 = .ok (.ior, 1) := by decide +kernel
theorem dX6_kindOf_82 : decode cX6_kindOf 82 = .ok (.istore_n 2, 1) := by decide +kernel
theorem dX6_kindOf_83 : decode cX6_kindOf 83 = .ok (.iinc 3 1, 3) := by decide +kernel
theorem dX6_kindOf_86 : decode cX6_kindOf 86 = .ok (.goto (-71), 3) := by decide +kernel
theorem dX6_kindOf_89 : decode cX6_kindOf 89 = .ok (.iload_n 2, 1) := by decide +kernel
theorem dX6_kindOf_90 : decode cX6_kindOf 90 = .ok (.ireturn, 1) := by decide +kernel
theorem dX6_letterOf_0 : decode cX6_letterOf 0 = .ok (.aload_n 0, 1) := by decide +kernel
theorem dX6_letterOf_1 : decode cX6_letterOf 1 = .ok (.iload_n 1, 1) := by decide +kernel
theorem dX6_letterOf_2 : decode cX6_letterOf 2 = .ok (.invokevirtual 139, 3) := by decide +kernel
theorem dX6_letterOf_5 : decode cX6_letterOf 5 = .ok (.ifCond .ne 6, 3) := by decide +kernel
theorem dX6_letterOf_8 : decode cX6_letterOf 8 = .ok (.bipush (-101), 2) := by decide +kernel
theorem dX6_letterOf_10 : decode cX6_letterOf 10 = .ok (.ireturn, 1) := by decide +kernel
theorem dX6_letterOf_11 : decode cX6_letterOf 11 = .ok (.iconst 0, 1) := by decide +kernel
theorem dX6_letterOf_12 : decode cX6_letterOf 12 = .ok (.istore_n 2, 1) := by decide +kernel
theorem dX6_letterOf_13 : decode cX6_letterOf 13 = .ok (.iconst 0, 1) := by decide +kernel
theorem dX6_letterOf_14 : decode cX6_letterOf 14 = .ok (.istore_n 3, 1) := by decide +kernel
theorem dX6_letterOf_15 : decode cX6_letterOf 15 = .ok (.iload_n 3, 1) := by decide +kernel
theorem dX6_letterOf_16 : decode cX6_letterOf 16 = .ok (.iconst 5, 1) := by decide +kernel
theorem dX6_letterOf_17 : decode cX6_letterOf 17 = .ok (.if_icmp .ge 62, 3) := by decide +kernel
theorem dX6_letterOf_20 : decode cX6_letterOf 20 = .ok (.aload_n 0, 1) := by decide +kernel
theorem dX6_letterOf_21 : decode cX6_letterOf 21 = .ok (.getfield 29, 3) := by decide +kernel
theorem dX6_letterOf_24 : decode cX6_letterOf 24 = .ok (.aload_n 0, 1) := by decide +kernel
theorem dX6_letterOf_25 : decode cX6_letterOf 25 = .ok (.getfield 19, 3) := by decide +kernel
theorem dX6_letterOf_28 : decode cX6_letterOf 28 = .ok (.getfield 65, 3) := by decide +kernel
theorem dX6_letterOf_31 : decode cX6_letterOf 31 = .ok (.invokevirtual 170, 3) := by decide +kernel
theorem dX6_letterOf_34 : decode cX6_letterOf 34 = .ok (.aload_n 0, 1) := by decide +kernel
theorem dX6_letterOf_35 : decode cX6_letterOf 35 = .ok (.getfield 29, 3) := by decide +kernel
theorem dX6_letterOf_38 : decode cX6_letterOf 38 = .ok (.aload_n 0, 1) := by decide +kernel
theorem dX6_letterOf_39 : decode cX6_letterOf 39 = .ok (.getfield 19, 3) := by decide +kernel
theorem dX6_letterOf_42 : decode cX6_letterOf 42 = .ok (.getfield 84, 3) := by decide +kernel
theorem dX6_letterOf_45 : decode cX6_letterOf 45 = .ok (.iload_n 1, 1) := by decide +kernel
theorem dX6_letterOf_46 : decode cX6_letterOf 46 = .ok (.iload_n 3, 1) := by decide +kernel
theorem dX6_letterOf_47 : decode cX6_letterOf 47 = .ok (.invokevirtual 174, 3) := by decide +kernel
theorem dX6_letterOf_50 : decode cX6_letterOf 50 = .ok (.aload_n 0, 1) := by decide +kernel
theorem dX6_letterOf_51 : decode cX6_letterOf 51 = .ok (.getfield 19, 3) := by decide +kernel
theorem dX6_letterOf_54 : decode cX6_letterOf 54 = .ok (.getfield 91, 3) := by decide +kernel
theorem dX6_letterOf_57 : decode cX6_letterOf 57 = .ok (.aload_n 0, 1) := by decide +kernel
theorem dX6_letterOf_58 : decode cX6_letterOf 58 = .ok (.getfield 29, 3) := by decide +kernel
theorem dX6_letterOf_61 : decode cX6_letterOf 61 = .ok (.invokevirtual 190, 3) := by decide +kernel
theorem dX6_letterOf_64 : decode cX6_letterOf 64 = .ok (.ifCond .eq 9, 3) := by decide +kernel
theorem dX6_letterOf_67 : decode cX6_letterOf 67 = .ok (.iload_n 2, 1) := by decide +kernel
theorem dX6_letterOf_68 : decode cX6_letterOf 68 = .ok (.iconst 1, 1) := by decide +kernel
theorem dX6_letterOf_69 : decode cX6_letterOf 69 = .ok (.iload_n 3, 1) := by decide +kernel
theorem dX6_letterOf_70 : decode cX6_letterOf 70 = .ok (.ishl, 1) := by decide +kernel
theorem dX6_letterOf_71 : decode cX6_letterOf 71 = .ok (.ior, 1) := by decide +kernel
theorem dX6_letterOf_72 : decode cX6_letterOf 72 = .ok (.istore_n 2, 1) := by decide +kernel
theorem dX6_letterOf_73 : decode cX6_letterOf 73 = .ok (.iinc 3 1, 3) := by decide +kernel
theorem dX6_letterOf_76 : decode cX6_letterOf 76 = .ok (.goto (-61), 3) := by decide +kernel
theorem dX6_letterOf_79 : decode cX6_letterOf 79 = .ok (.iload_n 2, 1) := by decide +kernel
theorem dX6_letterOf_80 : decode cX6_letterOf 80 = .ok (.ireturn, 1) := by decide +kernel
theorem dX6_mornings_0 : decode cX6_mornings 0 = .ok (.iload_n 1, 1) := by decide +kernel
theorem dX6_mornings_1 : decode cX6_mornings 1 = .ok (.iconst 1, 1) := by decide +kernel
theorem dX6_mornings_2 : decode cX6_mornings 2 = .ok (.if_icmp .lt 22, 3) := by decide +kernel
theorem dX6_mornings_5 : decode cX6_mornings 5 = .ok (.iload_n 1, 1) := by decide +kernel
theorem dX6_mornings_6 : decode cX6_mornings 6 = .ok (.bipush 40, 2) := by decide +kernel
theorem dX6_mornings_8 : decode cX6_mornings 8 = .ok (.if_icmp .gt 16, 3) := by decide +kernel
theorem dX6_mornings_11 : decode cX6_mornings 11 = .ok (.iload_n 2, 1) := by decide +kernel
theorem dX6_mornings_12 : decode cX6_mornings 12 = .ok (.ifCond .lt 12, 3) := by decide +kernel
theorem dX6_mornings_15 : decode cX6_mornings 15 = .ok (.iload_n 3, 1) := by decide +kernel
theorem dX6_mornings_16 : decode cX6_mornings 16 = .ok (.ifCond .eq 11, 3) := by decide +kernel
theorem dX6_mornings_19 : decode cX6_mornings 19 = .ok (.iload_n 3, 1) := by decide +kernel
theorem dX6_mornings_20 : decode cX6_mornings 20 = .ok (.iconst 1, 1) := by decide +kernel
theorem dX6_mornings_21 : decode cX6_mornings 21 = .ok (.if_icmp .eq 6, 3) := by decide +kernel
theorem dX6_mornings_24 : decode cX6_mornings 24 = .ok (.bipush (-102), 2) := by decide +kernel
theorem dX6_mornings_26 : decode cX6_mornings 26 = .ok (.ireturn, 1) := by decide +kernel
theorem dX6_mornings_27 : decode cX6_mornings 27 = .ok (.aload_n 0, 1) := by decide +kernel
theorem dX6_mornings_28 : decode cX6_mornings 28 = .ok (.invokevirtual 148, 3) := by decide +kernel
theorem dX6_mornings_31 : decode cX6_mornings 31 = .ok (.ifCond .ne 6, 3) := by decide +kernel
theorem dX6_mornings_34 : decode cX6_mornings 34 = .ok (.bipush (-103), 2) := by decide +kernel
theorem dX6_mornings_36 : decode cX6_mornings 36 = .ok (.ireturn, 1) := by decide +kernel
theorem dX6_mornings_37 : decode cX6_mornings 37 = .ok (.iconst 0, 1) := by decide +kernel
theorem dX6_mornings_38 : decode cX6_mornings 38 = .ok (.istore 4, 2) := by decide +kernel
theorem dX6_mornings_40 : decode cX6_mornings 40 = .ok (.iload_n 2, 1) := by decide +kernel
theorem dX6_mornings_41 : decode cX6_mornings 41 = .ok (.istore 5, 2) := by decide +kernel
theorem dX6_mornings_43 : decode cX6_mornings 43 = .ok (.iconst 0, 1) := by decide +kernel
theorem dX6_mornings_44 : decode cX6_mornings 44 = .ok (.istore 6, 2) := by decide +kernel
theorem dX6_mornings_46 : decode cX6_mornings 46 = .ok (.iload 6, 2) := by decide +kernel
theorem dX6_mornings_48 : decode cX6_mornings 48 = .ok (.iload_n 1, 1) := by decide +kernel
theorem dX6_mornings_49 : decode cX6_mornings 49 = .ok (.if_icmp .ge 91, 3) := by decide +kernel
theorem dX6_mornings_52 : decode cX6_mornings 52 = .ok (.aload_n 0, 1) := by decide +kernel
theorem dX6_mornings_53 : decode cX6_mornings 53 = .ok (.getfield 29, 3) := by decide +kernel
theorem dX6_mornings_56 : decode cX6_mornings 56 = .ok (.aload_n 0, 1) := by decide +kernel
theorem dX6_mornings_57 : decode cX6_mornings 57 = .ok (.getfield 19, 3) := by decide +kernel
theorem dX6_mornings_60 : decode cX6_mornings 60 = .ok (.getfield 65, 3) := by decide +kernel
theorem dX6_mornings_63 : decode cX6_mornings 63 = .ok (.invokevirtual 170, 3) := by decide +kernel
theorem dX6_mornings_66 : decode cX6_mornings 66 = .ok (.iconst 0, 1) := by decide +kernel
theorem dX6_mornings_67 : decode cX6_mornings 67 = .ok (.istore 7, 2) := by decide +kernel
theorem dX6_mornings_69 : decode cX6_mornings 69 = .ok (.iload 7, 2) := by decide +kernel
theorem dX6_mornings_71 : decode cX6_mornings 71 = .ok (.iconst 5, 1) := by decide +kernel
theorem dX6_mornings_72 : decode cX6_mornings 72 = .ok (.if_icmp .ge 50, 3) := by decide +kernel
theorem dX6_mornings_75 : decode cX6_mornings 75 = .ok (.iload 5, 2) := by decide +kernel
theorem dX6_mornings_77 : decode cX6_mornings 77 = .ok (.invokestatic 194, 3) := by decide +kernel
theorem dX6_mornings_80 : decode cX6_mornings 80 = .ok (.istore 5, 2) := by decide +kernel
theorem dX6_mornings_82 : decode cX6_mornings 82 = .ok (.iload 5, 2) := by decide +kernel
theorem dX6_mornings_84 : decode cX6_mornings 84 = .ok (.bipush 16, 2) := by decide +kernel
theorem dX6_mornings_86 : decode cX6_mornings 86 = .ok (.ishr, 1) := by decide +kernel
theorem dX6_mornings_87 : decode cX6_mornings 87 = .ok (.bipush 6, 2) := by decide +kernel
theorem dX6_mornings_89 : decode cX6_mornings 89 = .ok (.irem, 1) := by decide +kernel
theorem dX6_mornings_90 : decode cX6_mornings 90 = .ok (.istore 8, 2) := by decide +kernel
theorem dX6_mornings_92 : decode cX6_mornings 92 = .ok (.iload 5, 2) := by decide +kernel
theorem dX6_mornings_94 : decode cX6_mornings 94 = .ok (.invokestatic 194, 3) := by decide +kernel
theorem dX6_mornings_97 : decode cX6_mornings 97 = .ok (.istore 5, 2) := by decide +kernel
theorem dX6_mornings_99 : decode cX6_mornings 99 = .ok (.aload_n 0, 1) := by decide +kernel
theorem dX6_mornings_100 : decode cX6_mornings 100 = .ok (.getfield 29, 3) := by decide +kernel
theorem dX6_mornings_103 : decode cX6_mornings 103 = .ok (.iload 8, 2) := by decide +kernel
theorem dX6_mornings_105 : decode cX6_mornings 105 = .ok (.iload 5, 2) := by decide +kernel
theorem dX6_mornings_107 : decode cX6_mornings 107 = .ok (.bipush 16, 2) := by decide +kernel
theorem dX6_mornings_109 : decode cX6_mornings 109 = .ok (.ishr, 1) := by decide +kernel
theorem dX6_mornings_110 : decode cX6_mornings 110 = .ok (.iconst 5, 1) := by decide +kernel
theorem dX6_mornings_111 : decode cX6_mornings 111 = .ok (.irem, 1) := by decide +kernel
theorem dX6_mornings_112 : decode cX6_mornings 112 = .ok (.invokevirtual 136, 3) := by decide +kernel
theorem dX6_mornings_115 : decode cX6_mornings 115 = .ok (.pop, 1) := by decide +kernel
theorem dX6_mornings_116 : decode cX6_mornings 116 = .ok (.iinc 7 1, 3) := by decide +kernel
theorem dX6_mornings_119 : decode cX6_mornings 119 = .ok (.goto (-50), 3) := by decide +kernel
theorem dX6_mornings_122 : decode cX6_mornings 122 = .ok (.iload 4, 2) := by decide +kernel
theorem dX6_mornings_124 : decode cX6_mornings 124 = .ok (.aload_n 0, 1) := by decide +kernel
theorem dX6_mornings_125 : decode cX6_mornings 125 = .ok (.getfield 29, 3) := by decide +kernel
theorem dX6_mornings_128 : decode cX6_mornings 128 = .ok (.invokevirtual 178, 3) := by decide +kernel
theorem dX6_mornings_131 : decode cX6_mornings 131 = .ok (.iadd, 1) := by decide +kernel
theorem dX6_mornings_132 : decode cX6_mornings 132 = .ok (.istore 4, 2) := by decide +kernel
theorem dX6_mornings_134 : decode cX6_mornings 134 = .ok (.iinc 6 1, 3) := by decide +kernel
theorem dX6_mornings_137 : decode cX6_mornings 137 = .ok (.goto (-91), 3) := by decide +kernel
theorem dX6_mornings_140 : decode cX6_mornings 140 = .ok (.iload_n 3, 1) := by decide +kernel
theorem dX6_mornings_141 : decode cX6_mornings 141 = .ok (.ifCond .ne 8, 3) := by decide +kernel
theorem dX6_mornings_144 : decode cX6_mornings 144 = .ok (.iload 4, 2) := by decide +kernel
theorem dX6_mornings_146 : decode cX6_mornings 146 = .ok (.goto 5, 3) := by decide +kernel
theorem dX6_mornings_149 : decode cX6_mornings 149 = .ok (.iload 5, 2) := by decide +kernel
theorem dX6_mornings_151 : decode cX6_mornings 151 = .ok (.ireturn, 1) := by decide +kernel
theorem dX6_image_0 : decode cX6_image 0 = .ok (.aload_n 0, 1) := by decide +kernel
theorem dX6_image_1 : decode cX6_image 1 = .ok (.invokevirtual 148, 3) := by decide +kernel
theorem dX6_image_4 : decode cX6_image 4 = .ok (.ifCond .ne 6, 3) := by decide +kernel
theorem dX6_image_7 : decode cX6_image 7 = .ok (.bipush (-103), 2) := by decide +kernel
theorem dX6_image_9 : decode cX6_image 9 = .ok (.ireturn, 1) := by decide +kernel
theorem dX6_image_10 : decode cX6_image 10 = .ok (.aload_n 0, 1) := by decide +kernel
theorem dX6_image_11 : decode cX6_image 11 = .ok (.getfield 23, 3) := by decide +kernel
theorem dX6_image_14 : decode cX6_image 14 = .ok (.aload_n 0, 1) := by decide +kernel
theorem dX6_image_15 : decode cX6_image 15 = .ok (.getfield 19, 3) := by decide +kernel
theorem dX6_image_18 : decode cX6_image 18 = .ok (.invokevirtual 197, 3) := by decide +kernel
theorem dX6_image_21 : decode cX6_image 21 = .ok (.aload_n 0, 1) := by decide +kernel
theorem dX6_image_22 : decode cX6_image 22 = .ok (.iconst 1, 1) := by decide +kernel
theorem dX6_image_23 : decode cX6_image 23 = .ok (.putfield 98, 3) := by decide +kernel
theorem dX6_image_26 : decode cX6_image 26 = .ok (.aload_n 0, 1) := by decide +kernel
theorem dX6_image_27 : decode cX6_image 27 = .ok (.getfield 19, 3) := by decide +kernel
theorem dX6_image_30 : decode cX6_image 30 = .ok (.getfield 84, 3) := by decide +kernel
theorem dX6_image_33 : decode cX6_image 33 = .ok (.getfield 88, 3) := by decide +kernel
theorem dX6_image_36 : decode cX6_image 36 = .ok (.ireturn, 1) := by decide +kernel
theorem dX6_restore_0 : decode cX6_restore 0 = .ok (.aload_n 0, 1) := by decide +kernel
theorem dX6_restore_1 : decode cX6_restore 1 = .ok (.getfield 98, 3) := by decide +kernel
theorem dX6_restore_4 : decode cX6_restore 4 = .ok (.ifCond .ne 6, 3) := by decide +kernel
theorem dX6_restore_7 : decode cX6_restore 7 = .ok (.bipush (-103), 2) := by decide +kernel
theorem dX6_restore_9 : decode cX6_restore 9 = .ok (.ireturn, 1) := by decide +kernel
theorem dX6_restore_10 : decode cX6_restore 10 = .ok (.aload_n 0, 1) := by decide +kernel
theorem dX6_restore_11 : decode cX6_restore 11 = .ok (.getfield 19, 3) := by decide +kernel
theorem dX6_restore_14 : decode cX6_restore 14 = .ok (.aload_n 0, 1) := by decide +kernel
theorem dX6_restore_15 : decode cX6_restore 15 = .ok (.getfield 23, 3) := by decide +kernel
theorem dX6_restore_18 : decode cX6_restore 18 = .ok (.invokevirtual 197, 3) := by decide +kernel
theorem dX6_restore_21 : decode cX6_restore 21 = .ok (.aload_n 0, 1) := by decide +kernel
theorem dX6_restore_22 : decode cX6_restore 22 = .ok (.getfield 19, 3) := by decide +kernel
theorem dX6_restore_25 : decode cX6_restore 25 = .ok (.getfield 84, 3) := by decide +kernel
theorem dX6_restore_28 : decode cX6_restore 28 = .ok (.getfield 88, 3) := by decide +kernel
theorem dX6_restore_31 : decode cX6_restore 31 = .ok (.ireturn, 1) := by decide +kernel
theorem dX6_count_0 : decode cX6_count 0 = .ok (.iload_n 1, 1) := by decide +kernel
theorem dX6_count_1 : decode cX6_count 1 = .ok (.tableswitch 173 0 10 #[59, 73, 95, 106, 117, 128, 139, 150, 158, 163, 168], 59) := by decide +kernel
theorem dX6_count_60 : decode cX6_count 60 = .ok (.aload_n 0, 1) := by decide +kernel
theorem dX6_count_61 : decode cX6_count 61 = .ok (.invokevirtual 148, 3) := by decide +kernel
theorem dX6_count_64 : decode cX6_count 64 = .ok (.ifCond .eq 8, 3) := by decide +kernel
theorem dX6_count_67 : decode cX6_count 67 = .ok (.bipush 6, 2) := by decide +kernel
theorem dX6_count_69 : decode cX6_count 69 = .ok (.goto 4, 3) := by decide +kernel
theorem dX6_count_72 : decode cX6_count 72 = .ok (.iconst 0, 1) := by decide +kernel
theorem dX6_count_73 : decode cX6_count 73 = .ok (.ireturn, 1) := by decide +kernel
theorem dX6_count_74 : decode cX6_count 74 = .ok (.aload_n 0, 1) := by decide +kernel
theorem dX6_count_75 : decode cX6_count 75 = .ok (.invokevirtual 148, 3) := by decide +kernel
theorem dX6_count_78 : decode cX6_count 78 = .ok (.ifCond .eq 16, 3) := by decide +kernel
theorem dX6_count_81 : decode cX6_count 81 = .ok (.aload_n 0, 1) := by decide +kernel
theorem dX6_count_82 : decode cX6_count 82 = .ok (.getfield 19, 3) := by decide +kernel
theorem dX6_count_85 : decode cX6_count 85 = .ok (.getfield 65, 3) := by decide +kernel
theorem dX6_count_88 : decode cX6_count 88 = .ok (.invokevirtual 105, 3) := by decide +kernel
theorem dX6_count_91 : decode cX6_count 91 = .ok (.goto 4, 3) := by decide +kernel
theorem dX6_count_94 : decode cX6_count 94 = .ok (.iconst 0, 1) := by decide +kernel
theorem dX6_count_95 : decode cX6_count 95 = .ok (.ireturn, 1) := by decide +kernel
theorem dX6_count_96 : decode cX6_count 96 = .ok (.aload_n 0, 1) := by decide +kernel
theorem dX6_count_97 : decode cX6_count 97 = .ok (.getfield 19, 3) := by decide +kernel
theorem dX6_count_100 : decode cX6_count 100 = .ok (.getfield 84, 3) := by decide +kernel
theorem dX6_count_103 : decode cX6_count 103 = .ok (.getfield 88, 3) := by decide +kernel
theorem dX6_count_106 : decode cX6_count 106 = .ok (.ireturn, 1) := by decide +kernel
theorem dX6_count_107 : decode cX6_count 107 = .ok (.aload_n 0, 1) := by decide +kernel
theorem dX6_count_108 : decode cX6_count 108 = .ok (.getfield 19, 3) := by decide +kernel
theorem dX6_count_111 : decode cX6_count 111 = .ok (.getfield 65, 3) := by decide +kernel
theorem dX6_count_114 : decode cX6_count 114 = .ok (.invokevirtual 178, 3) := by decide +kernel
theorem dX6_count_117 : decode cX6_count 117 = .ok (.ireturn, 1) := by decide +kernel
theorem dX6_count_118 : decode cX6_count 118 = .ok (.aload_n 0, 1) := by decide +kernel
theorem dX6_count_119 : decode cX6_count 119 = .ok (.getfield 19, 3) := by decide +kernel
theorem dX6_count_122 : decode cX6_count 122 = .ok (.getfield 65, 3) := by decide +kernel
theorem dX6_count_125 : decode cX6_count 125 = .ok (.invokevirtual 201, 3) := by decide +kernel
theorem dX6_count_128 : decode cX6_count 128 = .ok (.ireturn, 1) := by decide +kernel
theorem dX6_count_129 : decode cX6_count 129 = .ok (.aload_n 0, 1) := by decide +kernel
theorem dX6_count_130 : decode cX6_count 130 = .ok (.getfield 19, 3) := by decide +kernel
theorem dX6_count_133 : decode cX6_count 133 = .ok (.getfield 65, 3) := by decide +kernel
theorem dX6_count_136 : decode cX6_count 136 = .ok (.invokevirtual 204, 3) := by decide +kernel
theorem dX6_count_139 : decode cX6_count 139 = .ok (.ireturn, 1) := by decide +kernel
theorem dX6_count_140 : decode cX6_count 140 = .ok (.aload_n 0, 1) := by decide +kernel
theorem dX6_count_141 : decode cX6_count 141 = .ok (.getfield 19, 3) := by decide +kernel
theorem dX6_count_144 : decode cX6_count 144 = .ok (.getfield 91, 3) := by decide +kernel
theorem dX6_count_147 : decode cX6_count 147 = .ok (.invokevirtual 187, 3) := by decide +kernel
theorem dX6_count_150 : decode cX6_count 150 = .ok (.ireturn, 1) := by decide +kernel
theorem dX6_count_151 : decode cX6_count 151 = .ok (.aload_n 0, 1) := by decide +kernel
theorem dX6_count_152 : decode cX6_count 152 = .ok (.getfield 10, 3) := by decide +kernel
theorem dX6_count_155 : decode cX6_count 155 = .ok (.getfield 50, 3) := by decide +kernel
theorem dX6_count_158 : decode cX6_count 158 = .ok (.ireturn, 1) := by decide +kernel
theorem dX6_count_159 : decode cX6_count 159 = .ok (.aload_n 0, 1) := by decide +kernel
theorem dX6_count_160 : decode cX6_count 160 = .ok (.getfield 102, 3) := by decide +kernel
theorem dX6_count_163 : decode cX6_count 163 = .ok (.ireturn, 1) := by decide +kernel
theorem dX6_count_164 : decode cX6_count 164 = .ok (.aload_n 0, 1) := by decide +kernel
theorem dX6_count_165 : decode cX6_count 165 = .ok (.getfield 154, 3) := by decide +kernel
theorem dX6_count_168 : decode cX6_count 168 = .ok (.ireturn, 1) := by decide +kernel
theorem dX6_count_169 : decode cX6_count 169 = .ok (.aload_n 0, 1) := by decide +kernel
theorem dX6_count_170 : decode cX6_count 170 = .ok (.getfield 164, 3) := by decide +kernel
theorem dX6_count_173 : decode cX6_count 173 = .ok (.ireturn, 1) := by decide +kernel
theorem dX6_count_174 : decode cX6_count 174 = .ok (.bipush (-102), 2) := by decide +kernel
theorem dX6_count_176 : decode cX6_count 176 = .ok (.ireturn, 1) := by decide +kernel
theorem dX6_digest_0 : decode cX6_digest 0 = .ok (.ldc2_w 207, 3) := by decide +kernel
theorem dX6_digest_3 : decode cX6_digest 3 = .ok (.lstore_n 1, 1) := by decide +kernel
theorem dX6_digest_4 : decode cX6_digest 4 = .ok (.aload_n 0, 1) := by decide +kernel
theorem dX6_digest_5 : decode cX6_digest 5 = .ok (.invokevirtual 148, 3) := by decide +kernel
theorem dX6_digest_8 : decode cX6_digest 8 = .ok (.ifCond .eq 15, 3) := by decide +kernel
theorem dX6_digest_11 : decode cX6_digest 11 = .ok (.aload_n 0, 1) := by decide +kernel
theorem dX6_digest_12 : decode cX6_digest 12 = .ok (.lload_n 1, 1) := by decide +kernel
theorem dX6_digest_13 : decode cX6_digest 13 = .ok (.invokevirtual 209, 3) := by decide +kernel
theorem dX6_digest_16 : decode cX6_digest 16 = .ok (.lstore_n 1, 1) := by decide +kernel
theorem dX6_digest_17 : decode cX6_digest 17 = .ok (.aload_n 0, 1) := by decide +kernel
theorem dX6_digest_18 : decode cX6_digest 18 = .ok (.lload_n 1, 1) := by decide +kernel
theorem dX6_digest_19 : decode cX6_digest 19 = .ok (.invokevirtual 213, 3) := by decide +kernel
theorem dX6_digest_22 : decode cX6_digest 22 = .ok (.lstore_n 1, 1) := by decide +kernel
theorem dX6_digest_23 : decode cX6_digest 23 = .ok (.iconst 0, 1) := by decide +kernel
theorem dX6_digest_24 : decode cX6_digest 24 = .ok (.istore_n 3, 1) := by decide +kernel
theorem dX6_digest_25 : decode cX6_digest 25 = .ok (.iload_n 3, 1) := by decide +kernel
theorem dX6_digest_26 : decode cX6_digest 26 = .ok (.aload_n 0, 1) := by decide +kernel
theorem dX6_digest_27 : decode cX6_digest 27 = .ok (.getfield 10, 3) := by decide +kernel
theorem dX6_digest_30 : decode cX6_digest 30 = .ok (.getfield 50, 3) := by decide +kernel
theorem dX6_digest_33 : decode cX6_digest 33 = .ok (.if_icmp .ge 24, 3) := by decide +kernel
theorem dX6_digest_36 : decode cX6_digest 36 = .ok (.lload_n 1, 1) := by decide +kernel
theorem dX6_digest_37 : decode cX6_digest 37 = .ok (.aload_n 0, 1) := by decide +kernel
theorem dX6_digest_38 : decode cX6_digest 38 = .ok (.getfield 10, 3) := by decide +kernel
theorem dX6_digest_41 : decode cX6_digest 41 = .ok (.getfield 54, 3) := by decide +kernel
theorem dX6_digest_44 : decode cX6_digest 44 = .ok (.iload_n 3, 1) := by decide +kernel
theorem dX6_digest_45 : decode cX6_digest 45 = .ok (.iaload, 1) := by decide +kernel
theorem dX6_digest_46 : decode cX6_digest 46 = .ok (.i2l, 1) := by decide +kernel
theorem dX6_digest_47 : decode cX6_digest 47 = .ok (.invokestatic 216, 3) := by decide +kernel
theorem dX6_digest_50 : decode cX6_digest 50 = .ok (.lstore_n 1, 1) := by decide +kernel
theorem dX6_digest_51 : decode cX6_digest 51 = .ok (.iinc 3 1, 3) := by decide +kernel
theorem dX6_digest_54 : decode cX6_digest 54 = .ok (.goto (-29), 3) := by decide +kernel
theorem dX6_digest_57 : decode cX6_digest 57 = .ok (.iconst 0, 1) := by decide +kernel
theorem dX6_digest_58 : decode cX6_digest 58 = .ok (.istore_n 3, 1) := by decide +kernel
theorem dX6_digest_59 : decode cX6_digest 59 = .ok (.iload_n 3, 1) := by decide +kernel
theorem dX6_digest_60 : decode cX6_digest 60 = .ok (.bipush 11, 2) := by decide +kernel
theorem dX6_digest_62 : decode cX6_digest 62 = .ok (.if_icmp .ge 20, 3) := by decide +kernel
theorem dX6_digest_65 : decode cX6_digest 65 = .ok (.lload_n 1, 1) := by decide +kernel
theorem dX6_digest_66 : decode cX6_digest 66 = .ok (.aload_n 0, 1) := by decide +kernel
theorem dX6_digest_67 : decode cX6_digest 67 = .ok (.iload_n 3, 1) := by decide +kernel
theorem dX6_digest_68 : decode cX6_digest 68 = .ok (.invokevirtual 220, 3) := by decide +kernel
theorem dX6_digest_71 : decode cX6_digest 71 = .ok (.i2l, 1) := by decide +kernel
theorem dX6_digest_72 : decode cX6_digest 72 = .ok (.invokestatic 216, 3) := by decide +kernel
theorem dX6_digest_75 : decode cX6_digest 75 = .ok (.lstore_n 1, 1) := by decide +kernel
theorem dX6_digest_76 : decode cX6_digest 76 = .ok (.iinc 3 1, 3) := by decide +kernel
theorem dX6_digest_79 : decode cX6_digest 79 = .ok (.goto (-20), 3) := by decide +kernel
theorem dX6_digest_82 : decode cX6_digest 82 = .ok (.lload_n 1, 1) := by decide +kernel
theorem dX6_digest_83 : decode cX6_digest 83 = .ok (.lreturn, 1) := by decide +kernel
theorem dX6_mixGutters_0 : decode cX6_mixGutters 0 = .ok (.lload_n 1, 1) := by decide +kernel
theorem dX6_mixGutters_1 : decode cX6_mixGutters 1 = .ok (.lstore_n 3, 1) := by decide +kernel
theorem dX6_mixGutters_2 : decode cX6_mixGutters 2 = .ok (.iconst 0, 1) := by decide +kernel
theorem dX6_mixGutters_3 : decode cX6_mixGutters 3 = .ok (.istore 5, 2) := by decide +kernel
theorem dX6_mixGutters_5 : decode cX6_mixGutters 5 = .ok (.iload 5, 2) := by decide +kernel
theorem dX6_mixGutters_7 : decode cX6_mixGutters 7 = .ok (.bipush 6, 2) := by decide +kernel
theorem dX6_mixGutters_9 : decode cX6_mixGutters 9 = .ok (.if_icmp .ge 92, 3) := by decide +kernel
theorem dX6_mixGutters_12 : decode cX6_mixGutters 12 = .ok (.iconst 0, 1) := by decide +kernel
theorem dX6_mixGutters_13 : decode cX6_mixGutters 13 = .ok (.istore 6, 2) := by decide +kernel
theorem dX6_mixGutters_15 : decode cX6_mixGutters 15 = .ok (.iload 6, 2) := by decide +kernel
theorem dX6_mixGutters_17 : decode cX6_mixGutters 17 = .ok (.bipush 6, 2) := by decide +kernel
theorem dX6_mixGutters_19 : decode cX6_mixGutters 19 = .ok (.if_icmp .ge 23, 3) := by decide +kernel
theorem dX6_mixGutters_22 : decode cX6_mixGutters 22 = .ok (.lload_n 3, 1) := by decide +kernel
theorem dX6_mixGutters_23 : decode cX6_mixGutters 23 = .ok (.aload_n 0, 1) := by decide +kernel
theorem dX6_mixGutters_24 : decode cX6_mixGutters 24 = .ok (.iload 5, 2) := by decide +kernel
theorem dX6_mixGutters_26 : decode cX6_mixGutters 26 = .ok (.iload 6, 2) := by decide +kernel
theorem dX6_mixGutters_28 : decode cX6_mixGutters 28 = .ok (.invokevirtual 223, 3) := by decide +kernel
theorem dX6_mixGutters_31 : decode cX6_mixGutters 31 = .ok (.i2l, 1) := by decide +kernel
theorem dX6_mixGutters_32 : decode cX6_mixGutters 32 = .ok (.invokestatic 216, 3) := by decide +kernel
theorem dX6_mixGutters_35 : decode cX6_mixGutters 35 = .ok (.lstore_n 3, 1) := by decide +kernel
theorem dX6_mixGutters_36 : decode cX6_mixGutters 36 = .ok (.iinc 6 1, 3) := by decide +kernel
theorem dX6_mixGutters_39 : decode cX6_mixGutters 39 = .ok (.goto (-24), 3) := by decide +kernel
theorem dX6_mixGutters_42 : decode cX6_mixGutters 42 = .ok (.iconst 0, 1) := by decide +kernel
theorem dX6_mixGutters_43 : decode cX6_mixGutters 43 = .ok (.istore 6, 2) := by decide +kernel
theorem dX6_mixGutters_45 : decode cX6_mixGutters 45 = .ok (.iload 6, 2) := by decide +kernel
theorem dX6_mixGutters_47 : decode cX6_mixGutters 47 = .ok (.aload_n 0, 1) := by decide +kernel
theorem dX6_mixGutters_48 : decode cX6_mixGutters 48 = .ok (.getfield 19, 3) := by decide +kernel
theorem dX6_mixGutters_51 : decode cX6_mixGutters 51 = .ok (.getfield 65, 3) := by decide +kernel
theorem dX6_mixGutters_54 : decode cX6_mixGutters 54 = .ok (.getfield 119, 3) := by decide +kernel
theorem dX6_mixGutters_57 : decode cX6_mixGutters 57 = .ok (.iload 5, 2) := by decide +kernel
theorem dX6_mixGutters_59 : decode cX6_mixGutters 59 = .ok (.iaload, 1) := by decide +kernel
theorem dX6_mixGutters_60 : decode cX6_mixGutters 60 = .ok (.if_icmp .ge 23, 3) := by decide +kernel
theorem dX6_mixGutters_63 : decode cX6_mixGutters 63 = .ok (.lload_n 3, 1) := by decide +kernel
theorem dX6_mixGutters_64 : decode cX6_mixGutters 64 = .ok (.aload_n 0, 1) := by decide +kernel
theorem dX6_mixGutters_65 : decode cX6_mixGutters 65 = .ok (.iload 5, 2) := by decide +kernel
theorem dX6_mixGutters_67 : decode cX6_mixGutters 67 = .ok (.iload 6, 2) := by decide +kernel
theorem dX6_mixGutters_69 : decode cX6_mixGutters 69 = .ok (.invokevirtual 226, 3) := by decide +kernel
theorem dX6_mixGutters_72 : decode cX6_mixGutters 72 = .ok (.i2l, 1) := by decide +kernel
theorem dX6_mixGutters_73 : decode cX6_mixGutters 73 = .ok (.invokestatic 216, 3) := by decide +kernel
theorem dX6_mixGutters_76 : decode cX6_mixGutters 76 = .ok (.lstore_n 3, 1) := by decide +kernel
theorem dX6_mixGutters_77 : decode cX6_mixGutters 77 = .ok (.iinc 6 1, 3) := by decide +kernel
theorem dX6_mixGutters_80 : decode cX6_mixGutters 80 = .ok (.goto (-35), 3) := by decide +kernel
theorem dX6_mixGutters_83 : decode cX6_mixGutters 83 = .ok (.lload_n 3, 1) := by decide +kernel
theorem dX6_mixGutters_84 : decode cX6_mixGutters 84 = .ok (.aload_n 0, 1) := by decide +kernel
theorem dX6_mixGutters_85 : decode cX6_mixGutters 85 = .ok (.iload 5, 2) := by decide +kernel
theorem dX6_mixGutters_87 : decode cX6_mixGutters 87 = .ok (.invokevirtual 229, 3) := by decide +kernel
theorem dX6_mixGutters_90 : decode cX6_mixGutters 90 = .ok (.i2l, 1) := by decide +kernel
theorem dX6_mixGutters_91 : decode cX6_mixGutters 91 = .ok (.invokestatic 216, 3) := by decide +kernel
theorem dX6_mixGutters_94 : decode cX6_mixGutters 94 = .ok (.lstore_n 3, 1) := by decide +kernel
theorem dX6_mixGutters_95 : decode cX6_mixGutters 95 = .ok (.iinc 5 1, 3) := by decide +kernel
theorem dX6_mixGutters_98 : decode cX6_mixGutters 98 = .ok (.goto (-93), 3) := by decide +kernel
theorem dX6_mixGutters_101 : decode cX6_mixGutters 101 = .ok (.lload_n 3, 1) := by decide +kernel
theorem dX6_mixGutters_102 : decode cX6_mixGutters 102 = .ok (.lreturn, 1) := by decide +kernel
theorem dX6_mixDrops_0 : decode cX6_mixDrops 0 = .ok (.lload_n 1, 1) := by decide +kernel
theorem dX6_mixDrops_1 : decode cX6_mixDrops 1 = .ok (.lstore_n 3, 1) := by decide +kernel
theorem dX6_mixDrops_2 : decode cX6_mixDrops 2 = .ok (.iconst 0, 1) := by decide +kernel
theorem dX6_mixDrops_3 : decode cX6_mixDrops 3 = .ok (.istore 5, 2) := by decide +kernel
theorem dX6_mixDrops_5 : decode cX6_mixDrops 5 = .ok (.iload 5, 2) := by decide +kernel
theorem dX6_mixDrops_7 : decode cX6_mixDrops 7 = .ok (.aload_n 0, 1) := by decide +kernel
theorem dX6_mixDrops_8 : decode cX6_mixDrops 8 = .ok (.getfield 19, 3) := by decide +kernel
theorem dX6_mixDrops_11 : decode cX6_mixDrops 11 = .ok (.getfield 84, 3) := by decide +kernel
theorem dX6_mixDrops_14 : decode cX6_mixDrops 14 = .ok (.getfield 88, 3) := by decide +kernel
theorem dX6_mixDrops_17 : decode cX6_mixDrops 17 = .ok (.if_icmp .ge 47, 3) := by decide +kernel
theorem dX6_mixDrops_20 : decode cX6_mixDrops 20 = .ok (.lload_n 3, 1) := by decide +kernel
theorem dX6_mixDrops_21 : decode cX6_mixDrops 21 = .ok (.aload_n 0, 1) := by decide +kernel
theorem dX6_mixDrops_22 : decode cX6_mixDrops 22 = .ok (.iload 5, 2) := by decide +kernel
theorem dX6_mixDrops_24 : decode cX6_mixDrops 24 = .ok (.iconst 0, 1) := by decide +kernel
theorem dX6_mixDrops_25 : decode cX6_mixDrops 25 = .ok (.invokevirtual 232, 3) := by decide +kernel
theorem dX6_mixDrops_28 : decode cX6_mixDrops 28 = .ok (.i2l, 1) := by decide +kernel
theorem dX6_mixDrops_29 : decode cX6_mixDrops 29 = .ok (.invokestatic 216, 3) := by decide +kernel
theorem dX6_mixDrops_32 : decode cX6_mixDrops 32 = .ok (.lstore_n 3, 1) := by decide +kernel
theorem dX6_mixDrops_33 : decode cX6_mixDrops 33 = .ok (.lload_n 3, 1) := by decide +kernel
theorem dX6_mixDrops_34 : decode cX6_mixDrops 34 = .ok (.aload_n 0, 1) := by decide +kernel
theorem dX6_mixDrops_35 : decode cX6_mixDrops 35 = .ok (.iload 5, 2) := by decide +kernel
theorem dX6_mixDrops_37 : decode cX6_mixDrops 37 = .ok (.iconst 1, 1) := by decide +kernel
theorem dX6_mixDrops_38 : decode cX6_mixDrops 38 = .ok (.invokevirtual 232, 3) := by decide +kernel
theorem dX6_mixDrops_41 : decode cX6_mixDrops 41 = .ok (.i2l, 1) := by decide +kernel
theorem dX6_mixDrops_42 : decode cX6_mixDrops 42 = .ok (.invokestatic 216, 3) := by decide +kernel
theorem dX6_mixDrops_45 : decode cX6_mixDrops 45 = .ok (.lstore_n 3, 1) := by decide +kernel
theorem dX6_mixDrops_46 : decode cX6_mixDrops 46 = .ok (.lload_n 3, 1) := by decide +kernel
theorem dX6_mixDrops_47 : decode cX6_mixDrops 47 = .ok (.aload_n 0, 1) := by decide +kernel
theorem dX6_mixDrops_48 : decode cX6_mixDrops 48 = .ok (.iload 5, 2) := by decide +kernel
theorem dX6_mixDrops_50 : decode cX6_mixDrops 50 = .ok (.invokevirtual 235, 3) := by decide +kernel
theorem dX6_mixDrops_53 : decode cX6_mixDrops 53 = .ok (.i2l, 1) := by decide +kernel
theorem dX6_mixDrops_54 : decode cX6_mixDrops 54 = .ok (.invokestatic 216, 3) := by decide +kernel
theorem dX6_mixDrops_57 : decode cX6_mixDrops 57 = .ok (.lstore_n 3, 1) := by decide +kernel
theorem dX6_mixDrops_58 : decode cX6_mixDrops 58 = .ok (.iinc 5 1, 3) := by decide +kernel
theorem dX6_mixDrops_61 : decode cX6_mixDrops 61 = .ok (.goto (-56), 3) := by decide +kernel
theorem dX6_mixDrops_64 : decode cX6_mixDrops 64 = .ok (.lload_n 3, 1) := by decide +kernel
theorem dX6_mixDrops_65 : decode cX6_mixDrops 65 = .ok (.lreturn, 1) := by decide +kernel
theorem dX6_mix_0 : decode cX6_mix 0 = .ok (.ldc2_w 238, 3) := by decide +kernel
theorem dX6_mix_3 : decode cX6_mix 3 = .ok (.lload_n 0, 1) := by decide +kernel
theorem dX6_mix_4 : decode cX6_mix 4 = .ok (.lmul, 1) := by decide +kernel
theorem dX6_mix_5 : decode cX6_mix 5 = .ok (.lload_n 2, 1) := by decide +kernel
theorem dX6_mix_6 : decode cX6_mix 6 = .ok (.ladd, 1) := by decide +kernel
theorem dX6_mix_7 : decode cX6_mix 7 = .ok (.lreturn, 1) := by decide +kernel
theorem dX6_hasStreet_0 : decode cX6_hasStreet 0 = .ok (.aload_n 0, 1) := by decide +kernel
theorem dX6_hasStreet_1 : decode cX6_hasStreet 1 = .ok (.getfield 102, 3) := by decide +kernel
theorem dX6_hasStreet_4 : decode cX6_hasStreet 4 = .ok (.ifCond .le 7, 3) := by decide +kernel
theorem dX6_hasStreet_7 : decode cX6_hasStreet 7 = .ok (.iconst 1, 1) := by decide +kernel
theorem dX6_hasStreet_8 : decode cX6_hasStreet 8 = .ok (.goto 4, 3) := by decide +kernel
theorem dX6_hasStreet_11 : decode cX6_hasStreet 11 = .ok (.iconst 0, 1) := by decide +kernel
theorem dX6_hasStreet_12 : decode cX6_hasStreet 12 = .ok (.ireturn, 1) := by decide +kernel
theorem dX6_isGutter_0 : decode cX6_isGutter 0 = .ok (.aload_n 0, 1) := by decide +kernel
theorem dX6_isGutter_1 : decode cX6_isGutter 1 = .ok (.invokevirtual 148, 3) := by decide +kernel
theorem dX6_isGutter_4 : decode cX6_isGutter 4 = .ok (.ifCond .eq 17, 3) := by decide +kernel
theorem dX6_isGutter_7 : decode cX6_isGutter 7 = .ok (.iload_n 1, 1) := by decide +kernel
theorem dX6_isGutter_8 : decode cX6_isGutter 8 = .ok (.ifCond .lt 13, 3) := by decide +kernel
theorem dX6_isGutter_11 : decode cX6_isGutter 11 = .ok (.iload_n 1, 1) := by decide +kernel
theorem dX6_isGutter_12 : decode cX6_isGutter 12 = .ok (.bipush 6, 2) := by decide +kernel
theorem dX6_isGutter_14 : decode cX6_isGutter 14 = .ok (.if_icmp .ge 7, 3) := by decide +kernel
theorem dX6_isGutter_17 : decode cX6_isGutter 17 = .ok (.iconst 1, 1) := by decide +kernel
theorem dX6_isGutter_18 : decode cX6_isGutter 18 = .ok (.goto 4, 3) := by decide +kernel
theorem dX6_isGutter_21 : decode cX6_isGutter 21 = .ok (.iconst 0, 1) := by decide +kernel
theorem dX6_isGutter_22 : decode cX6_isGutter 22 = .ok (.ireturn, 1) := by decide +kernel
theorem dX6_isDrop_0 : decode cX6_isDrop 0 = .ok (.iload_n 1, 1) := by decide +kernel
theorem dX6_isDrop_1 : decode cX6_isDrop 1 = .ok (.ifCond .lt 21, 3) := by decide +kernel
theorem dX6_isDrop_4 : decode cX6_isDrop 4 = .ok (.iload_n 1, 1) := by decide +kernel
theorem dX6_isDrop_5 : decode cX6_isDrop 5 = .ok (.aload_n 0, 1) := by decide +kernel
theorem dX6_isDrop_6 : decode cX6_isDrop 6 = .ok (.getfield 19, 3) := by decide +kernel
theorem dX6_isDrop_9 : decode cX6_isDrop 9 = .ok (.getfield 84, 3) := by decide +kernel
theorem dX6_isDrop_12 : decode cX6_isDrop 12 = .ok (.getfield 88, 3) := by decide +kernel
theorem dX6_isDrop_15 : decode cX6_isDrop 15 = .ok (.if_icmp .ge 7, 3) := by decide +kernel
theorem dX6_isDrop_18 : decode cX6_isDrop 18 = .ok (.iconst 1, 1) := by decide +kernel
theorem dX6_isDrop_19 : decode cX6_isDrop 19 = .ok (.goto 4, 3) := by decide +kernel
theorem dX6_isDrop_22 : decode cX6_isDrop 22 = .ok (.iconst 0, 1) := by decide +kernel
theorem dX6_isDrop_23 : decode cX6_isDrop 23 = .ok (.ireturn, 1) := by decide +kernel
theorem dX6_isLetter_0 : decode cX6_isLetter 0 = .ok (.iload_n 0, 1) := by decide +kernel
theorem dX6_isLetter_1 : decode cX6_isLetter 1 = .ok (.ifCond .lt 12, 3) := by decide +kernel
theorem dX6_isLetter_4 : decode cX6_isLetter 4 = .ok (.iload_n 0, 1) := by decide +kernel
theorem dX6_isLetter_5 : decode cX6_isLetter 5 = .ok (.iconst 5, 1) := by decide +kernel
theorem dX6_isLetter_6 : decode cX6_isLetter 6 = .ok (.if_icmp .ge 7, 3) := by decide +kernel
theorem dX6_isLetter_9 : decode cX6_isLetter 9 = .ok (.iconst 1, 1) := by decide +kernel
theorem dX6_isLetter_10 : decode cX6_isLetter 10 = .ok (.goto 4, 3) := by decide +kernel
theorem dX6_isLetter_13 : decode cX6_isLetter 13 = .ok (.iconst 0, 1) := by decide +kernel
theorem dX6_isLetter_14 : decode cX6_isLetter 14 = .ok (.ireturn, 1) := by decide +kernel
theorem dX6_nextSeed_0 : decode cX6_nextSeed 0 = .ok (.ldc 240, 2) := by decide +kernel
theorem dX6_nextSeed_2 : decode cX6_nextSeed 2 = .ok (.iload_n 0, 1) := by decide +kernel
theorem dX6_nextSeed_3 : decode cX6_nextSeed 3 = .ok (.imul, 1) := by decide +kernel
theorem dX6_nextSeed_4 : decode cX6_nextSeed 4 = .ok (.sipush 12345, 3) := by decide +kernel
theorem dX6_nextSeed_7 : decode cX6_nextSeed 7 = .ok (.iadd, 1) := by decide +kernel
theorem dX6_nextSeed_8 : decode cX6_nextSeed 8 = .ok (.ldc 241, 2) := by decide +kernel
theorem dX6_nextSeed_10 : decode cX6_nextSeed 10 = .ok (.iand, 1) := by decide +kernel
theorem dX6_nextSeed_11 : decode cX6_nextSeed 11 = .ok (.ireturn, 1) := by decide +kernel
theorem dX6_seekTurns_0 : decode cX6_seekTurns 0 = .ok (.aload_n 0, 1) := by decide +kernel
theorem dX6_seekTurns_1 : decode cX6_seekTurns 1 = .ok (.getfield 10, 3) := by decide +kernel
theorem dX6_seekTurns_4 : decode cX6_seekTurns 4 = .ok (.aload_n 0, 1) := by decide +kernel
theorem dX6_seekTurns_5 : decode cX6_seekTurns 5 = .ok (.getfield 40, 3) := by decide +kernel
theorem dX6_seekTurns_8 : decode cX6_seekTurns 8 = .ok (.invokevirtual 182, 3) := by decide +kernel
theorem dX6_seekTurns_11 : decode cX6_seekTurns 11 = .ok (.aload_n 0, 1) := by decide +kernel
theorem dX6_seekTurns_12 : decode cX6_seekTurns 12 = .ok (.getfield 36, 3) := by decide +kernel
theorem dX6_seekTurns_15 : decode cX6_seekTurns 15 = .ok (.invokevirtual 242, 3) := by decide +kernel
theorem dX6_seekTurns_18 : decode cX6_seekTurns 18 = .ok (.aload_n 0, 1) := by decide +kernel
theorem dX6_seekTurns_19 : decode cX6_seekTurns 19 = .ok (.getfield 29, 3) := by decide +kernel
theorem dX6_seekTurns_22 : decode cX6_seekTurns 22 = .ok (.aload_n 0, 1) := by decide +kernel
theorem dX6_seekTurns_23 : decode cX6_seekTurns 23 = .ok (.getfield 19, 3) := by decide +kernel
theorem dX6_seekTurns_26 : decode cX6_seekTurns 26 = .ok (.getfield 65, 3) := by decide +kernel
theorem dX6_seekTurns_29 : decode cX6_seekTurns 29 = .ok (.invokevirtual 170, 3) := by decide +kernel
theorem dX6_seekTurns_32 : decode cX6_seekTurns 32 = .ok (.iconst 0, 1) := by decide +kernel
theorem dX6_seekTurns_33 : decode cX6_seekTurns 33 = .ok (.istore_n 2, 1) := by decide +kernel
theorem dX6_seekTurns_34 : decode cX6_seekTurns 34 = .ok (.iload_n 2, 1) := by decide +kernel
theorem dX6_seekTurns_35 : decode cX6_seekTurns 35 = .ok (.sipush 720, 3) := by decide +kernel
theorem dX6_seekTurns_38 : decode cX6_seekTurns 38 = .ok (.if_icmp .ge 115, 3) := by decide +kernel
theorem dX6_seekTurns_41 : decode cX6_seekTurns 41 = .ok (.aload_n 0, 1) := by decide +kernel
theorem dX6_seekTurns_42 : decode cX6_seekTurns 42 = .ok (.getfield 29, 3) := by decide +kernel
theorem dX6_seekTurns_45 : decode cX6_seekTurns 45 = .ok (.iload_n 2, 1) := by decide +kernel
theorem dX6_seekTurns_46 : decode cX6_seekTurns 46 = .ok (.invokevirtual 243, 3) := by decide +kernel
theorem dX6_seekTurns_49 : decode cX6_seekTurns 49 = .ok (.aload_n 0, 1) := by decide +kernel
theorem dX6_seekTurns_50 : decode cX6_seekTurns 50 = .ok (.getfield 29, 3) := by decide +kernel
theorem dX6_seekTurns_53 : decode cX6_seekTurns 53 = .ok (.aload_n 0, 1) := by decide +kernel
theorem dX6_seekTurns_54 : decode cX6_seekTurns 54 = .ok (.getfield 19, 3) := by decide +kernel
theorem dX6_seekTurns_57 : decode cX6_seekTurns 57 = .ok (.getfield 65, 3) := by decide +kernel
theorem dX6_seekTurns_60 : decode cX6_seekTurns 60 = .ok (.invokevirtual 246, 3) := by decide +kernel
theorem dX6_seekTurns_63 : decode cX6_seekTurns 63 = .ok (.istore_n 3, 1) := by decide +kernel
theorem dX6_seekTurns_64 : decode cX6_seekTurns 64 = .ok (.aload_n 0, 1) := by decide +kernel
theorem dX6_seekTurns_65 : decode cX6_seekTurns 65 = .ok (.getfield 29, 3) := by decide +kernel
theorem dX6_seekTurns_68 : decode cX6_seekTurns 68 = .ok (.getfield 74, 3) := by decide +kernel
theorem dX6_seekTurns_71 : decode cX6_seekTurns 71 = .ok (.iload_n 1, 1) := by decide +kernel
theorem dX6_seekTurns_72 : decode cX6_seekTurns 72 = .ok (.iaload, 1) := by decide +kernel
theorem dX6_seekTurns_73 : decode cX6_seekTurns 73 = .ok (.iconst (-1), 1) := by decide +kernel
theorem dX6_seekTurns_74 : decode cX6_seekTurns 74 = .ok (.if_icmp .ne 73, 3) := by decide +kernel
theorem dX6_seekTurns_77 : decode cX6_seekTurns 77 = .ok (.iload_n 3, 1) := by decide +kernel
theorem dX6_seekTurns_78 : decode cX6_seekTurns 78 = .ok (.invokestatic 250, 3) := by decide +kernel
theorem dX6_seekTurns_81 : decode cX6_seekTurns 81 = .ok (.aload_n 0, 1) := by decide +kernel
theorem dX6_seekTurns_82 : decode cX6_seekTurns 82 = .ok (.getfield 36, 3) := by decide +kernel
theorem dX6_seekTurns_85 : decode cX6_seekTurns 85 = .ok (.getfield 255, 3) := by decide +kernel
theorem dX6_seekTurns_88 : decode cX6_seekTurns 88 = .ok (.if_icmp .le 6, 3) := by decide +kernel
theorem dX6_seekTurns_91 : decode cX6_seekTurns 91 = .ok (.goto 56, 3) := by decide +kernel
theorem dX6_seekTurns_94 : decode cX6_seekTurns 94 = .ok (.aload_n 0, 1) := by decide +kernel
theorem dX6_seekTurns_95 : decode cX6_seekTurns 95 = .ok (.getfield 29, 3) := by decide +kernel
theorem dX6_seekTurns_98 : decode cX6_seekTurns 98 = .ok (.invokevirtual 81, 3) := by decide +kernel
theorem dX6_seekTurns_101 : decode cX6_seekTurns 101 = .ok (.aload_n 0, 1) := by decide +kernel
theorem dX6_seekTurns_102 : decode cX6_seekTurns 102 = .ok (.getfield 29, 3) := by decide +kernel
theorem dX6_seekTurns_105 : decode cX6_seekTurns 105 = .ok (.aload_n 0, 1) := by decide +kernel
theorem dX6_seekTurns_106 : decode cX6_seekTurns 106 = .ok (.getfield 19, 3) := by decide +kernel
theorem dX6_seekTurns_109 : decode cX6_seekTurns 109 = .ok (.getfield 84, 3) := by decide +kernel
theorem dX6_seekTurns_112 : decode cX6_seekTurns 112 = .ok (.iconst (-1), 1) := by decide +kernel
theorem dX6_seekTurns_113 : decode cX6_seekTurns 113 = .ok (.iconst 0, 1) := by decide +kernel
theorem dX6_seekTurns_114 : decode cX6_seekTurns 114 = .ok (.invokevirtual 174, 3) := by decide +kernel
theorem dX6_seekTurns_117 : decode cX6_seekTurns 117 = .ok (.aload_n 0, 1) := by decide +kernel
theorem dX6_seekTurns_118 : decode cX6_seekTurns 118 = .ok (.getfield 29, 3) := by decide +kernel
theorem dX6_seekTurns_121 : decode cX6_seekTurns 121 = .ok (.iload_n 1, 1) := by decide +kernel
theorem dX6_seekTurns_122 : decode cX6_seekTurns 122 = .ok (.aload_n 0, 1) := by decide +kernel
theorem dX6_seekTurns_123 : decode cX6_seekTurns 123 = .ok (.getfield 40, 3) := by decide +kernel
theorem dX6_seekTurns_126 : decode cX6_seekTurns 126 = .ok (.aload_n 0, 1) := by decide +kernel
theorem dX6_seekTurns_127 : decode cX6_seekTurns 127 = .ok (.getfield 10, 3) := by decide +kernel
theorem dX6_seekTurns_130 : decode cX6_seekTurns 130 = .ok (.getfield 50, 3) := by decide +kernel
theorem dX6_seekTurns_133 : decode cX6_seekTurns 133 = .ok (.invokevirtual 258, 3) := by decide +kernel
theorem dX6_seekTurns_136 : decode cX6_seekTurns 136 = .ok (.ifCond .eq 11, 3) := by decide +kernel
theorem dX6_seekTurns_139 : decode cX6_seekTurns 139 = .ok (.aload_n 0, 1) := by decide +kernel
theorem dX6_seekTurns_140 : decode cX6_seekTurns 140 = .ok (.getfield 36, 3) := by decide +kernel
theorem dX6_seekTurns_143 : decode cX6_seekTurns 143 = .ok (.iload_n 3, 1) := by decide +kernel
theorem dX6_seekTurns_144 : decode cX6_seekTurns 144 = .ok (.invokevirtual 262, 3) := by decide +kernel
theorem dX6_seekTurns_147 : decode cX6_seekTurns 147 = .ok (.iinc 2 1, 3) := by decide +kernel
theorem dX6_seekTurns_150 : decode cX6_seekTurns 150 = .ok (.goto (-116), 3) := by decide +kernel
theorem dX6_seekTurns_153 : decode cX6_seekTurns 153 = .ok (.return_, 1) := by decide +kernel
theorem dX6_countWords_0 : decode cX6_countWords 0 = .ok (.aload_n 0, 1) := by decide +kernel
theorem dX6_countWords_1 : decode cX6_countWords 1 = .ok (.getfield 19, 3) := by decide +kernel
theorem dX6_countWords_4 : decode cX6_countWords 4 = .ok (.getfield 84, 3) := by decide +kernel
theorem dX6_countWords_7 : decode cX6_countWords 7 = .ok (.getfield 88, 3) := by decide +kernel
theorem dX6_countWords_10 : decode cX6_countWords 10 = .ok (.bipush 6, 2) := by decide +kernel
theorem dX6_countWords_12 : decode cX6_countWords 12 = .ok (.invokestatic 264, 3) := by decide +kernel
theorem dX6_countWords_15 : decode cX6_countWords 15 = .ok (.istore_n 2, 1) := by decide +kernel
theorem dX6_countWords_16 : decode cX6_countWords 16 = .ok (.iconst 1, 1) := by decide +kernel
theorem dX6_countWords_17 : decode cX6_countWords 17 = .ok (.istore_n 3, 1) := by decide +kernel
theorem dX6_countWords_18 : decode cX6_countWords 18 = .ok (.iconst 2, 1) := by decide +kernel
theorem dX6_countWords_19 : decode cX6_countWords 19 = .ok (.istore 4, 2) := by decide +kernel
theorem dX6_countWords_21 : decode cX6_countWords 21 = .ok (.iload 4, 2) := by decide +kernel
theorem dX6_countWords_23 : decode cX6_countWords 23 = .ok (.iload_n 2, 1) := by decide +kernel
theorem dX6_countWords_24 : decode cX6_countWords 24 = .ok (.if_icmp .gt 14, 3) := by decide +kernel
theorem dX6_countWords_27 : decode cX6_countWords 27 = .ok (.iload_n 3, 1) := by decide +kernel
theorem dX6_countWords_28 : decode cX6_countWords 28 = .ok (.iload 4, 2) := by decide +kernel
theorem dX6_countWords_30 : decode cX6_countWords 30 = .ok (.imul, 1) := by decide +kernel
theorem dX6_countWords_31 : decode cX6_countWords 31 = .ok (.istore_n 3, 1) := by decide +kernel
theorem dX6_countWords_32 : decode cX6_countWords 32 = .ok (.iinc 4 1, 3) := by decide +kernel
theorem dX6_countWords_35 : decode cX6_countWords 35 = .ok (.goto (-14), 3) := by decide +kernel
theorem dX6_countWords_38 : decode cX6_countWords 38 = .ok (.aload_n 0, 1) := by decide +kernel
theorem dX6_countWords_39 : decode cX6_countWords 39 = .ok (.getfield 47, 3) := by decide +kernel
theorem dX6_countWords_42 : decode cX6_countWords 42 = .ok (.iconst 0, 1) := by decide +kernel
theorem dX6_countWords_43 : decode cX6_countWords 43 = .ok (.invokestatic 269, 3) := by decide +kernel
theorem dX6_countWords_46 : decode cX6_countWords 46 = .ok (.aload_n 0, 1) := by decide +kernel
theorem dX6_countWords_47 : decode cX6_countWords 47 = .ok (.getfield 29, 3) := by decide +kernel
theorem dX6_countWords_50 : decode cX6_countWords 50 = .ok (.aload_n 0, 1) := by decide +kernel
theorem dX6_countWords_51 : decode cX6_countWords 51 = .ok (.getfield 19, 3) := by decide +kernel
theorem dX6_countWords_54 : decode cX6_countWords 54 = .ok (.getfield 65, 3) := by decide +kernel
theorem dX6_countWords_57 : decode cX6_countWords 57 = .ok (.invokevirtual 170, 3) := by decide +kernel
theorem dX6_countWords_60 : decode cX6_countWords 60 = .ok (.iconst 0, 1) := by decide +kernel
theorem dX6_countWords_61 : decode cX6_countWords 61 = .ok (.istore 4, 2) := by decide +kernel
theorem dX6_countWords_63 : decode cX6_countWords 63 = .ok (.iconst 0, 1) := by decide +kernel
theorem dX6_countWords_64 : decode cX6_countWords 64 = .ok (.istore 5, 2) := by decide +kernel
theorem dX6_countWords_66 : decode cX6_countWords 66 = .ok (.iload 5, 2) := by decide +kernel
theorem dX6_countWords_68 : decode cX6_countWords 68 = .ok (.iload_n 3, 1) := by decide +kernel
theorem dX6_countWords_69 : decode cX6_countWords 69 = .ok (.if_icmp .ge 41, 3) := by decide +kernel
theorem dX6_countWords_72 : decode cX6_countWords 72 = .ok (.aload_n 0, 1) := by decide +kernel
theorem dX6_countWords_73 : decode cX6_countWords 73 = .ok (.getfield 29, 3) := by decide +kernel
theorem dX6_countWords_76 : decode cX6_countWords 76 = .ok (.invokevirtual 81, 3) := by decide +kernel
theorem dX6_countWords_79 : decode cX6_countWords 79 = .ok (.aload_n 0, 1) := by decide +kernel
theorem dX6_countWords_80 : decode cX6_countWords 80 = .ok (.iload 5, 2) := by decide +kernel
theorem dX6_countWords_82 : decode cX6_countWords 82 = .ok (.iload_n 2, 1) := by decide +kernel
theorem dX6_countWords_83 : decode cX6_countWords 83 = .ok (.invokevirtual 275, 3) := by decide +kernel
theorem dX6_countWords_86 : decode cX6_countWords 86 = .ok (.aload_n 0, 1) := by decide +kernel
theorem dX6_countWords_87 : decode cX6_countWords 87 = .ok (.aload_n 0, 1) := by decide +kernel
theorem dX6_countWords_88 : decode cX6_countWords 88 = .ok (.getfield 29, 3) := by decide +kernel
theorem dX6_countWords_91 : decode cX6_countWords 91 = .ok (.iload_n 1, 1) := by decide +kernel
theorem dX6_countWords_92 : decode cX6_countWords 92 = .ok (.invokevirtual 278, 3) := by decide +kernel
theorem dX6_countWords_95 : decode cX6_countWords 95 = .ok (.invokevirtual 281, 3) := by decide +kernel
theorem dX6_countWords_98 : decode cX6_countWords 98 = .ok (.ifCond .eq 6, 3) := by decide +kernel
theorem dX6_countWords_101 : decode cX6_countWords 101 = .ok (.iinc 4 1, 3) := by decide +kernel
theorem dX6_countWords_104 : decode cX6_countWords 104 = .ok (.iinc 5 1, 3) := by decide +kernel
theorem dX6_countWords_107 : decode cX6_countWords 107 = .ok (.goto (-41), 3) := by decide +kernel
theorem dX6_countWords_110 : decode cX6_countWords 110 = .ok (.iload 4, 2) := by decide +kernel
theorem dX6_countWords_112 : decode cX6_countWords 112 = .ok (.ireturn, 1) := by decide +kernel
theorem dX6_runMixed_0 : decode cX6_runMixed 0 = .ok (.iconst 0, 1) := by decide +kernel
theorem dX6_runMixed_1 : decode cX6_runMixed 1 = .ok (.istore_n 3, 1) := by decide +kernel
theorem dX6_runMixed_2 : decode cX6_runMixed 2 = .ok (.iload_n 3, 1) := by decide +kernel
theorem dX6_runMixed_3 : decode cX6_runMixed 3 = .ok (.iload_n 2, 1) := by decide +kernel
theorem dX6_runMixed_4 : decode cX6_runMixed 4 = .ok (.if_icmp .ge 16, 3) := by decide +kernel
theorem dX6_runMixed_7 : decode cX6_runMixed 7 = .ok (.aload_n 0, 1) := by decide +kernel
theorem dX6_runMixed_8 : decode cX6_runMixed 8 = .ok (.getfield 44, 3) := by decide +kernel
theorem dX6_runMixed_11 : decode cX6_runMixed 11 = .ok (.iload_n 3, 1) := by decide +kernel
theorem dX6_runMixed_12 : decode cX6_runMixed 12 = .ok (.iload_n 3, 1) := by decide +kernel
theorem dX6_runMixed_13 : decode cX6_runMixed 13 = .ok (.iastore, 1) := by decide +kernel
theorem dX6_runMixed_14 : decode cX6_runMixed 14 = .ok (.iinc 3 1, 3) := by decide +kernel
theorem dX6_runMixed_17 : decode cX6_runMixed 17 = .ok (.goto (-15), 3) := by decide +kernel
theorem dX6_runMixed_20 : decode cX6_runMixed 20 = .ok (.iload_n 1, 1) := by decide +kernel
theorem dX6_runMixed_21 : decode cX6_runMixed 21 = .ok (.istore_n 3, 1) := by decide +kernel
theorem dX6_runMixed_22 : decode cX6_runMixed 22 = .ok (.iload_n 2, 1) := by decide +kernel
theorem dX6_runMixed_23 : decode cX6_runMixed 23 = .ok (.istore 4, 2) := by decide +kernel
theorem dX6_runMixed_25 : decode cX6_runMixed 25 = .ok (.iload 4, 2) := by decide +kernel
theorem dX6_runMixed_27 : decode cX6_runMixed 27 = .ok (.ifCond .le 79, 3) := by decide +kernel
theorem dX6_runMixed_30 : decode cX6_runMixed 30 = .ok (.iload_n 3, 1) := by decide +kernel
theorem dX6_runMixed_31 : decode cX6_runMixed 31 = .ok (.iload 4, 2) := by decide +kernel
theorem dX6_runMixed_33 : decode cX6_runMixed 33 = .ok (.irem, 1) := by decide +kernel
theorem dX6_runMixed_34 : decode cX6_runMixed 34 = .ok (.istore 5, 2) := by decide +kernel
theorem dX6_runMixed_36 : decode cX6_runMixed 36 = .ok (.iload_n 3, 1) := by decide +kernel
theorem dX6_runMixed_37 : decode cX6_runMixed 37 = .ok (.iload 4, 2) := by decide +kernel
theorem dX6_runMixed_39 : decode cX6_runMixed 39 = .ok (.idiv, 1) := by decide +kernel
theorem dX6_runMixed_40 : decode cX6_runMixed 40 = .ok (.istore_n 3, 1) := by decide +kernel
theorem dX6_runMixed_41 : decode cX6_runMixed 41 = .ok (.aload_n 0, 1) := by decide +kernel
theorem dX6_runMixed_42 : decode cX6_runMixed 42 = .ok (.getfield 44, 3) := by decide +kernel
theorem dX6_runMixed_45 : decode cX6_runMixed 45 = .ok (.iload 5, 2) := by decide +kernel
theorem dX6_runMixed_47 : decode cX6_runMixed 47 = .ok (.iaload, 1) := by decide +kernel
theorem dX6_runMixed_48 : decode cX6_runMixed 48 = .ok (.istore 6, 2) := by decide +kernel
theorem dX6_runMixed_50 : decode cX6_runMixed 50 = .ok (.aload_n 0, 1) := by decide +kernel
theorem dX6_runMixed_51 : decode cX6_runMixed 51 = .ok (.getfield 44, 3) := by decide +kernel
theorem dX6_runMixed_54 : decode cX6_runMixed 54 = .ok (.iload 5, 2) := by decide +kernel
theorem dX6_runMixed_56 : decode cX6_runMixed 56 = .ok (.aload_n 0, 1) := by decide +kernel
theorem dX6_runMixed_57 : decode cX6_runMixed 57 = .ok (.getfield 44, 3) := by decide +kernel
theorem dX6_runMixed_60 : decode cX6_runMixed 60 = .ok (.iload 4, 2) := by decide +kernel
theorem dX6_runMixed_62 : decode cX6_runMixed 62 = .ok (.iconst 1, 1) := by decide +kernel
theorem dX6_runMixed_63 : decode cX6_runMixed 63 = .ok (.isub, 1) := by decide +kernel
theorem dX6_runMixed_64 : decode cX6_runMixed 64 = .ok (.iaload, 1) := by decide +kernel
theorem dX6_runMixed_65 : decode cX6_runMixed 65 = .ok (.iastore, 1) := by decide +kernel
theorem dX6_runMixed_66 : decode cX6_runMixed 66 = .ok (.aload_n 0, 1) := by decide +kernel
theorem dX6_runMixed_67 : decode cX6_runMixed 67 = .ok (.getfield 29, 3) := by decide +kernel
theorem dX6_runMixed_70 : decode cX6_runMixed 70 = .ok (.aload_n 0, 1) := by decide +kernel
theorem dX6_runMixed_71 : decode cX6_runMixed 71 = .ok (.getfield 19, 3) := by decide +kernel
theorem dX6_runMixed_74 : decode cX6_runMixed 74 = .ok (.getfield 84, 3) := by decide +kernel
theorem dX6_runMixed_77 : decode cX6_runMixed 77 = .ok (.getfield 142, 3) := by decide +kernel
theorem dX6_runMixed_80 : decode cX6_runMixed 80 = .ok (.iload 6, 2) := by decide +kernel
theorem dX6_runMixed_82 : decode cX6_runMixed 82 = .ok (.iaload, 1) := by decide +kernel
theorem dX6_runMixed_83 : decode cX6_runMixed 83 = .ok (.aload_n 0, 1) := by decide +kernel
theorem dX6_runMixed_84 : decode cX6_runMixed 84 = .ok (.getfield 19, 3) := by decide +kernel
theorem dX6_runMixed_87 : decode cX6_runMixed 87 = .ok (.getfield 84, 3) := by decide +kernel
theorem dX6_runMixed_90 : decode cX6_runMixed 90 = .ok (.getfield 145, 3) := by decide +kernel
theorem dX6_runMixed_93 : decode cX6_runMixed 93 = .ok (.iload 6, 2) := by decide +kernel
theorem dX6_runMixed_95 : decode cX6_runMixed 95 = .ok (.iaload, 1) := by decide +kernel
theorem dX6_runMixed_96 : decode cX6_runMixed 96 = .ok (.invokevirtual 136, 3) := by decide +kernel
theorem dX6_runMixed_99 : decode cX6_runMixed 99 = .ok (.pop, 1) := by decide +kernel
theorem dX6_runMixed_100 : decode cX6_runMixed 100 = .ok (.iinc 4 (-1), 3) := by decide +kernel
theorem dX6_runMixed_103 : decode cX6_runMixed 103 = .ok (.goto (-78), 3) := by decide +kernel
theorem dX6_runMixed_106 : decode cX6_runMixed 106 = .ok (.return_, 1) := by decide +kernel
theorem dX6_noteWord_0 : decode cX6_noteWord 0 = .ok (.iload_n 1, 1) := by decide +kernel
theorem dX6_noteWord_1 : decode cX6_noteWord 1 = .ok (.iconst 5, 1) := by decide +kernel
theorem dX6_noteWord_2 : decode cX6_noteWord 2 = .ok (.ishr, 1) := by decide +kernel
theorem dX6_noteWord_3 : decode cX6_noteWord 3 = .ok (.istore_n 2, 1) := by decide +kernel
theorem dX6_noteWord_4 : decode cX6_noteWord 4 = .ok (.iconst 1, 1) := by decide +kernel
theorem dX6_noteWord_5 : decode cX6_noteWord 5 = .ok (.iload_n 1, 1) := by decide +kernel
theorem dX6_noteWord_6 : decode cX6_noteWord 6 = .ok (.bipush 31, 2) := by decide +kernel
theorem dX6_noteWord_8 : decode cX6_noteWord 8 = .ok (.iand, 1) := by decide +kernel
theorem dX6_noteWord_9 : decode cX6_noteWord 9 = .ok (.ishl, 1) := by decide +kernel
theorem dX6_noteWord_10 : decode cX6_noteWord 10 = .ok (.istore_n 3, 1) := by decide +kernel
theorem dX6_noteWord_11 : decode cX6_noteWord 11 = .ok (.iload_n 2, 1) := by decide +kernel
theorem dX6_noteWord_12 : decode cX6_noteWord 12 = .ok (.ifCond .lt 21, 3) := by decide +kernel
theorem dX6_noteWord_15 : decode cX6_noteWord 15 = .ok (.iload_n 2, 1) := by decide +kernel
theorem dX6_noteWord_16 : decode cX6_noteWord 16 = .ok (.sipush 977, 3) := by decide +kernel
theorem dX6_noteWord_19 : decode cX6_noteWord 19 = .ok (.if_icmp .ge 14, 3) := by decide +kernel
theorem dX6_noteWord_22 : decode cX6_noteWord 22 = .ok (.aload_n 0, 1) := by decide +kernel
theorem dX6_noteWord_23 : decode cX6_noteWord 23 = .ok (.getfield 47, 3) := by decide +kernel
theorem dX6_noteWord_26 : decode cX6_noteWord 26 = .ok (.iload_n 2, 1) := by decide +kernel
theorem dX6_noteWord_27 : decode cX6_noteWord 27 = .ok (.iaload, 1) := by decide +kernel
theorem dX6_noteWord_28 : decode cX6_noteWord 28 = .ok (.iload_n 3, 1) := by decide +kernel
theorem dX6_noteWord_29 : decode cX6_noteWord 29 = .ok (.iand, 1) := by decide +kernel
theorem dX6_noteWord_30 : decode cX6_noteWord 30 = .ok (.ifCond .eq 5, 3) := by decide +kernel
theorem dX6_noteWord_33 : decode cX6_noteWord 33 = .ok (.iconst 0, 1) := by decide +kernel
theorem dX6_noteWord_34 : decode cX6_noteWord 34 = .ok (.ireturn, 1) := by decide +kernel
theorem dX6_noteWord_35 : decode cX6_noteWord 35 = .ok (.aload_n 0, 1) := by decide +kernel
theorem dX6_noteWord_36 : decode cX6_noteWord 36 = .ok (.getfield 47, 3) := by decide +kernel
theorem dX6_noteWord_39 : decode cX6_noteWord 39 = .ok (.iload_n 2, 1) := by decide +kernel
theorem dX6_noteWord_40 : decode cX6_noteWord 40 = .ok (.dup2, 1) := by decide +kernel
theorem dX6_noteWord_41 : decode cX6_noteWord 41 = .ok (.iaload, 1) := by decide +kernel
theorem dX6_noteWord_42 : decode cX6_noteWord 42 = .ok (.iload_n 3, 1) := by decide +kernel
theorem dX6_noteWord_43 : decode cX6_noteWord 43 = .ok (.ior, 1) := by decide +kernel
theorem dX6_noteWord_44 : decode cX6_noteWord 44 = .ok (.iastore, 1) := by decide +kernel
theorem dX6_noteWord_45 : decode cX6_noteWord 45 = .ok (.iconst 1, 1) := by decide +kernel
theorem dX6_noteWord_46 : decode cX6_noteWord 46 = .ok (.ireturn, 1) := by decide +kernel
theorem dX7_init_0 : decode cX7_init 0 = .ok (.aload_n 0, 1) := by decide +kernel
theorem dX7_init_1 : decode cX7_init 1 = .ok (.invokespecial 1, 3) := by decide +kernel
theorem dX7_init_4 : decode cX7_init 4 = .ok (.aload_n 0, 1) := by decide +kernel
theorem dX7_init_5 : decode cX7_init 5 = .ok (.bipush 20, 2) := by decide +kernel
theorem dX7_init_7 : decode cX7_init 7 = .ok (.newarray .int, 2) := by decide +kernel
theorem dX7_init_9 : decode cX7_init 9 = .ok (.putfield 7, 3) := by decide +kernel
theorem dX7_init_12 : decode cX7_init 12 = .ok (.aload_n 0, 1) := by decide +kernel
theorem dX7_init_13 : decode cX7_init 13 = .ok (.bipush 6, 2) := by decide +kernel
theorem dX7_init_15 : decode cX7_init 15 = .ok (.newarray .int, 2) := by decide +kernel
theorem dX7_init_17 : decode cX7_init 17 = .ok (.putfield 13, 3) := by decide +kernel
theorem dX7_init_20 : decode cX7_init 20 = .ok (.aload_n 0, 1) := by decide +kernel
theorem dX7_init_21 : decode cX7_init 21 = .ok (.bipush 6, 2) := by decide +kernel
theorem dX7_init_23 : decode cX7_init 23 = .ok (.newarray .int, 2) := by decide +kernel
theorem dX7_init_25 : decode cX7_init 25 = .ok (.putfield 16, 3) := by decide +kernel
theorem dX7_init_28 : decode cX7_init 28 = .ok (.aload_n 0, 1) := by decide +kernel
theorem dX7_init_29 : decode cX7_init 29 = .ok (.bipush 102, 2) := by decide +kernel
theorem dX7_init_31 : decode cX7_init 31 = .ok (.newarray .int, 2) := by decide +kernel
theorem dX7_init_33 : decode cX7_init 33 = .ok (.putfield 19, 3) := by decide +kernel
theorem dX7_init_36 : decode cX7_init 36 = .ok (.aload_n 0, 1) := by decide +kernel
theorem dX7_init_37 : decode cX7_init 37 = .ok (.bipush 12, 2) := by decide +kernel
theorem dX7_init_39 : decode cX7_init 39 = .ok (.newarray .int, 2) := by decide +kernel
theorem dX7_init_41 : decode cX7_init 41 = .ok (.putfield 22, 3) := by decide +kernel
theorem dX7_init_44 : decode cX7_init 44 = .ok (.aload_n 0, 1) := by decide +kernel
theorem dX7_init_45 : decode cX7_init 45 = .ok (.bipush 12, 2) := by decide +kernel
theorem dX7_init_47 : decode cX7_init 47 = .ok (.newarray .int, 2) := by decide +kernel
theorem dX7_init_49 : decode cX7_init 49 = .ok (.putfield 25, 3) := by decide +kernel
theorem dX7_init_52 : decode cX7_init 52 = .ok (.aload_n 0, 1) := by decide +kernel
theorem dX7_init_53 : decode cX7_init 53 = .ok (.bipush 102, 2) := by decide +kernel
theorem dX7_init_55 : decode cX7_init 55 = .ok (.newarray .int, 2) := by decide +kernel
theorem dX7_init_57 : decode cX7_init 57 = .ok (.putfield 28, 3) := by decide +kernel
theorem dX7_init_60 : decode cX7_init 60 = .ok (.aload_n 0, 1) := by decide +kernel
theorem dX7_init_61 : decode cX7_init 61 = .ok (.bipush 6, 2) := by decide +kernel
theorem dX7_init_63 : decode cX7_init 63 = .ok (.newarray .int, 2) := by decide +kernel
theorem dX7_init_65 : decode cX7_init 65 = .ok (.putfield 31, 3) := by decide +kernel
theorem dX7_init_68 : decode cX7_init 68 = .ok (.aload_n 0, 1) := by decide +kernel
theorem dX7_init_69 : decode cX7_init 69 = .ok (.bipush 6, 2) := by decide +kernel
theorem dX7_init_71 : decode cX7_init 71 = .ok (.newarray .int, 2) := by decide +kernel
theorem dX7_init_73 : decode cX7_init 73 = .ok (.putfield 34, 3) := by decide +kernel
theorem dX7_init_76 : decode cX7_init 76 = .ok (.aload_n 0, 1) := by decide +kernel
theorem dX7_init_77 : decode cX7_init 77 = .ok (.bipush 12, 2) := by decide +kernel
theorem dX7_init_79 : decode cX7_init 79 = .ok (.newarray .int, 2) := by decide +kernel
theorem dX7_init_81 : decode cX7_init 81 = .ok (.putfield 37, 3) := by decide +kernel
theorem dX7_init_84 : decode cX7_init 84 = .ok (.aload_n 0, 1) := by decide +kernel
theorem dX7_init_85 : decode cX7_init 85 = .ok (.ldc 40, 2) := by decide +kernel
theorem dX7_init_87 : decode cX7_init 87 = .ok (.newarray .int, 2) := by decide +kernel
theorem dX7_init_89 : decode cX7_init 89 = .ok (.putfield 41, 3) := by decide +kernel
theorem dX7_init_92 : decode cX7_init 92 = .ok (.aload_n 0, 1) := by decide +kernel
theorem dX7_init_93 : decode cX7_init 93 = .ok (.bipush 6, 2) := by decide +kernel
theorem dX7_init_95 : decode cX7_init 95 = .ok (.newarray .int, 2) := by decide +kernel
theorem dX7_init_97 : decode cX7_init 97 = .ok (.putfield 44, 3) := by decide +kernel
theorem dX7_init_100 : decode cX7_init 100 = .ok (.aload_n 0, 1) := by decide +kernel
theorem dX7_init_101 : decode cX7_init 101 = .ok (.bipush 6, 2) := by decide +kernel
theorem dX7_init_103 : decode cX7_init 103 = .ok (.newarray .int, 2) := by decide +kernel
theorem dX7_init_105 : decode cX7_init 105 = .ok (.putfield 47, 3) := by decide +kernel
theorem dX7_init_108 : decode cX7_init 108 = .ok (.aload_n 0, 1) := by decide +kernel
theorem dX7_init_109 : decode cX7_init 109 = .ok (.bipush 48, 2) := by decide +kernel
theorem dX7_init_111 : decode cX7_init 111 = .ok (.newarray .int, 2) := by decide +kernel
theorem dX7_init_113 : decode cX7_init 113 = .ok (.putfield 50, 3) := by decide +kernel
theorem dX7_init_116 : decode cX7_init 116 = .ok (.aload_n 0, 1) := by decide +kernel
theorem dX7_init_117 : decode cX7_init 117 = .ok (.bipush 6, 2) := by decide +kernel
theorem dX7_init_119 : decode cX7_init 119 = .ok (.newarray .int, 2) := by decide +kernel
theorem dX7_init_121 : decode cX7_init 121 = .ok (.putfield 53, 3) := by decide +kernel
theorem dX7_init_124 : decode cX7_init 124 = .ok (.aload_n 0, 1) := by decide +kernel
theorem dX7_init_125 : decode cX7_init 125 = .ok (.bipush 102, 2) := by decide +kernel
theorem dX7_init_127 : decode cX7_init 127 = .ok (.newarray .int, 2) := by decide +kernel
theorem dX7_init_129 : decode cX7_init 129 = .ok (.putfield 56, 3) := by decide +kernel
theorem dX7_init_132 : decode cX7_init 132 = .ok (.aload_n 0, 1) := by decide +kernel
theorem dX7_init_133 : decode cX7_init 133 = .ok (.bipush 12, 2) := by decide +kernel
theorem dX7_init_135 : decode cX7_init 135 = .ok (.newarray .int, 2) := by decide +kernel
theorem dX7_init_137 : decode cX7_init 137 = .ok (.putfield 59, 3) := by decide +kernel
theorem dX7_init_140 : decode cX7_init 140 = .ok (.aload_n 0, 1) := by decide +kernel
theorem dX7_init_141 : decode cX7_init 141 = .ok (.bipush 12, 2) := by decide +kernel
theorem dX7_init_143 : decode cX7_init 143 = .ok (.newarray .int, 2) := by decide +kernel
theorem dX7_init_145 : decode cX7_init 145 = .ok (.putfield 62, 3) := by decide +kernel
theorem dX7_init_148 : decode cX7_init 148 = .ok (.aload_n 0, 1) := by decide +kernel
theorem dX7_init_149 : decode cX7_init 149 = .ok (.bipush 6, 2) := by decide +kernel
theorem dX7_init_151 : decode cX7_init 151 = .ok (.newarray .int, 2) := by decide +kernel
theorem dX7_init_153 : decode cX7_init 153 = .ok (.putfield 65, 3) := by decide +kernel
theorem dX7_init_156 : decode cX7_init 156 = .ok (.aload_n 0, 1) := by decide +kernel
theorem dX7_init_157 : decode cX7_init 157 = .ok (.bipush 48, 2) := by decide +kernel
theorem dX7_init_159 : decode cX7_init 159 = .ok (.newarray .int, 2) := by decide +kernel
theorem dX7_init_161 : decode cX7_init 161 = .ok (.putfield 68, 3) := by decide +kernel
theorem dX7_init_164 : decode cX7_init 164 = .ok (.aload_n 0, 1) := by decide +kernel
theorem dX7_init_165 : decode cX7_init 165 = .ok (.iconst (-1), 1) := by decide +kernel
theorem dX7_init_166 : decode cX7_init 166 = .ok (.putfield 71, 3) := by decide +kernel
theorem dX7_init_169 : decode cX7_init 169 = .ok (.return_, 1) := by decide +kernel
theorem dX7_in_0 : decode cX7_in 0 = .ok (.lload_n 0, 1) := by decide +kernel
theorem dX7_in_1 : decode cX7_in 1 = .ok (.lload_n 2, 1) := by decide +kernel
theorem dX7_in_2 : decode cX7_in 2 = .ok (.lcmp, 1) := by decide +kernel
theorem dX7_in_3 : decode cX7_in 3 = .ok (.ifCond .lt 14, 3) := by decide +kernel
theorem dX7_in_6 : decode cX7_in 6 = .ok (.lload_n 0, 1) := by decide +kernel
theorem dX7_in_7 : decode cX7_in 7 = .ok (.lload 4, 2) := by decide +kernel
theorem dX7_in_9 : decode cX7_in 9 = .ok (.lcmp, 1) := by decide +kernel
theorem dX7_in_10 : decode cX7_in 10 = .ok (.ifCond .gt 7, 3) := by decide +kernel
theorem dX7_in_13 : decode cX7_in 13 = .ok (.iconst 1, 1) := by decide +kernel
theorem dX7_in_14 : decode cX7_in 14 = .ok (.goto 4, 3) := by decide +kernel
theorem dX7_in_17 : decode cX7_in 17 = .ok (.iconst 0, 1) := by decide +kernel
theorem dX7_in_18 : decode cX7_in 18 = .ok (.ireturn, 1) := by decide +kernel
theorem dX7_copy_0 : decode cX7_copy 0 = .ok (.iconst 0, 1) := by decide +kernel
theorem dX7_copy_1 : decode cX7_copy 1 = .ok (.istore_n 2, 1) := by decide +kernel
theorem dX7_copy_2 : decode cX7_copy 2 = .ok (.iload_n 2, 1) := by decide +kernel
theorem dX7_copy_3 : decode cX7_copy 3 = .ok (.aload_n 0, 1) := by decide +kernel
theorem dX7_copy_4 : decode cX7_copy 4 = .ok (.arraylength, 1) := by decide +kernel
theorem dX7_copy_5 : decode cX7_copy 5 = .ok (.if_icmp .ge 15, 3) := by decide +kernel
theorem dX7_copy_8 : decode cX7_copy 8 = .ok (.aload_n 1, 1) := by decide +kernel
theorem dX7_copy_9 : decode cX7_copy 9 = .ok (.iload_n 2, 1) := by decide +kernel
theorem dX7_copy_10 : decode cX7_copy 10 = .ok (.aload_n 0, 1) := by decide +kernel
theorem dX7_copy_11 : decode cX7_copy 11 = .ok (.iload_n 2, 1) := by decide +kernel
theorem dX7_copy_12 : decode cX7_copy 12 = .ok (.iaload, 1) := by decide +kernel
theorem dX7_copy_13 : decode cX7_copy 13 = .ok (.iastore, 1) := by decide +kernel
theorem dX7_copy_14 : decode cX7_copy 14 = .ok (.iinc 2 1, 3) := by decide +kernel
theorem dX7_copy_17 : decode cX7_copy 17 = .ok (.goto (-15), 3) := by decide +kernel
theorem dX7_copy_20 : decode cX7_copy 20 = .ok (.return_, 1) := by decide +kernel
theorem dX7_letter_0 : decode cX7_letter 0 = .ok (.iload_n 1, 1) := by decide +kernel
theorem dX7_letter_1 : decode cX7_letter 1 = .ok (.i2l, 1) := by decide +kernel
theorem dX7_letter_2 : decode cX7_letter 2 = .ok (.lconst 1, 1) := by decide +kernel
theorem dX7_letter_3 : decode cX7_letter 3 = .ok (.ldc2_w 75, 3) := by decide +kernel
theorem dX7_letter_6 : decode cX7_letter 6 = .ok (.invokestatic 77, 3) := by decide +kernel
theorem dX7_letter_9 : decode cX7_letter 9 = .ok (.ifCond .ne 6, 3) := by decide +kernel
theorem dX7_letter_12 : decode cX7_letter 12 = .ok (.bipush (-102), 2) := by decide +kernel
theorem dX7_letter_14 : decode cX7_letter 14 = .ok (.ireturn, 1) := by decide +kernel
theorem dX7_letter_15 : decode cX7_letter 15 = .ok (.aload_n 0, 1) := by decide +kernel
theorem dX7_letter_16 : decode cX7_letter 16 = .ok (.getfield 81, 3) := by decide +kernel
theorem dX7_letter_19 : decode cX7_letter 19 = .ok (.bipush 20, 2) := by decide +kernel
theorem dX7_letter_21 : decode cX7_letter 21 = .ok (.if_icmp .ne 6, 3) := by decide +kernel
theorem dX7_letter_24 : decode cX7_letter 24 = .ok (.bipush (-104), 2) := by decide +kernel
theorem dX7_letter_26 : decode cX7_letter 26 = .ok (.ireturn, 1) := by decide +kernel
theorem dX7_letter_27 : decode cX7_letter 27 = .ok (.aload_n 0, 1) := by decide +kernel
theorem dX7_letter_28 : decode cX7_letter 28 = .ok (.getfield 7, 3) := by decide +kernel
theorem dX7_letter_31 : decode cX7_letter 31 = .ok (.aload_n 0, 1) := by decide +kernel
theorem dX7_letter_32 : decode cX7_letter 32 = .ok (.getfield 81, 3) := by decide +kernel
theorem dX7_letter_35 : decode cX7_letter 35 = .ok (.iload_n 1, 1) := by decide +kernel
theorem dX7_letter_36 : decode cX7_letter 36 = .ok (.iastore, 1) := by decide +kernel
theorem dX7_letter_37 : decode cX7_letter 37 = .ok (.aload_n 0, 1) := by decide +kernel
theorem dX7_letter_38 : decode cX7_letter 38 = .ok (.dup, 1) := by decide +kernel
theorem dX7_letter_39 : decode cX7_letter 39 = .ok (.getfield 81, 3) := by decide +kernel
theorem dX7_letter_42 : decode cX7_letter 42 = .ok (.iconst 1, 1) := by decide +kernel
theorem dX7_letter_43 : decode cX7_letter 43 = .ok (.iadd, 1) := by decide +kernel
theorem dX7_letter_44 : decode cX7_letter 44 = .ok (.putfield 81, 3) := by decide +kernel
theorem dX7_letter_47 : decode cX7_letter 47 = .ok (.aload_n 0, 1) := by decide +kernel
theorem dX7_letter_48 : decode cX7_letter 48 = .ok (.getfield 81, 3) := by decide +kernel
theorem dX7_letter_51 : decode cX7_letter 51 = .ok (.ireturn, 1) := by decide +kernel
theorem dX7_blank_0 : decode cX7_blank 0 = .ok (.aload_n 0, 1) := by decide +kernel
theorem dX7_blank_1 : decode cX7_blank 1 = .ok (.getfield 81, 3) := by decide +kernel
theorem dX7_blank_4 : decode cX7_blank 4 = .ok (.istore_n 1, 1) := by decide +kernel
theorem dX7_blank_5 : decode cX7_blank 5 = .ok (.aload_n 0, 1) := by decide +kernel
theorem dX7_blank_6 : decode cX7_blank 6 = .ok (.iconst 0, 1) := by decide +kernel
theorem dX7_blank_7 : decode cX7_blank 7 = .ok (.putfield 81, 3) := by decide +kernel
theorem dX7_blank_10 : decode cX7_blank 10 = .ok (.iload_n 1, 1) := by decide +kernel
theorem dX7_blank_11 : decode cX7_blank 11 = .ok (.ireturn, 1) := by decide +kernel
theorem dX7_kindBy_0 : decode cX7_kindBy 0 = .ok (.iload_n 0, 1) := by decide +kernel
theorem dX7_kindBy_1 : decode cX7_kindBy 1 = .ok (.bipush 103, 2) := by decide +kernel
theorem dX7_kindBy_3 : decode cX7_kindBy 3 = .ok (.if_icmp .ne 7, 3) := by decide +kernel
theorem dX7_kindBy_6 : decode cX7_kindBy 6 = .ok (.iconst 0, 1) := by decide +kernel
theorem dX7_kindBy_7 : decode cX7_kindBy 7 = .ok (.goto 44, 3) := by decide +kernel
theorem dX7_kindBy_10 : decode cX7_kindBy 10 = .ok (.iload_n 0, 1) := by decide +kernel
theorem dX7_kindBy_11 : decode cX7_kindBy 11 = .ok (.bipush 98, 2) := by decide +kernel
theorem dX7_kindBy_13 : decode cX7_kindBy 13 = .ok (.if_icmp .ne 7, 3) := by decide +kernel
theorem dX7_kindBy_16 : decode cX7_kindBy 16 = .ok (.iconst 1, 1) := by decide +kernel
theorem dX7_kindBy_17 : decode cX7_kindBy 17 = .ok (.goto 34, 3) := by decide +kernel
theorem dX7_kindBy_20 : decode cX7_kindBy 20 = .ok (.iload_n 0, 1) := by decide +kernel
theorem dX7_kindBy_21 : decode cX7_kindBy 21 = .ok (.bipush 115, 2) := by decide +kernel
theorem dX7_kindBy_23 : decode cX7_kindBy 23 = .ok (.if_icmp .ne 7, 3) := by decide +kernel
theorem dX7_kindBy_26 : decode cX7_kindBy 26 = .ok (.iconst 2, 1) := by decide +kernel
theorem dX7_kindBy_27 : decode cX7_kindBy 27 = .ok (.goto 24, 3) := by decide +kernel
theorem dX7_kindBy_30 : decode cX7_kindBy 30 = .ok (.iload_n 0, 1) := by decide +kernel
theorem dX7_kindBy_31 : decode cX7_kindBy 31 = .ok (.bipush 116, 2) := by decide +kernel
theorem dX7_kindBy_33 : decode cX7_kindBy 33 = .ok (.if_icmp .ne 7, 3) := by decide +kernel
theorem dX7_kindBy_36 : decode cX7_kindBy 36 = .ok (.iconst 3, 1) := by decide +kernel
theorem dX7_kindBy_37 : decode cX7_kindBy 37 = .ok (.goto 14, 3) := by decide +kernel
theorem dX7_kindBy_40 : decode cX7_kindBy 40 = .ok (.iload_n 0, 1) := by decide +kernel
theorem dX7_kindBy_41 : decode cX7_kindBy 41 = .ok (.bipush 100, 2) := by decide +kernel
theorem dX7_kindBy_43 : decode cX7_kindBy 43 = .ok (.if_icmp .ne 7, 3) := by decide +kernel
theorem dX7_kindBy_46 : decode cX7_kindBy 46 = .ok (.iconst 4, 1) := by decide +kernel
theorem dX7_kindBy_47 : decode cX7_kindBy 47 = .ok (.goto 4, 3) := by decide +kernel
theorem dX7_kindBy_50 : decode cX7_kindBy 50 = .ok (.iconst (-1), 1) := by decide +kernel
theorem dX7_kindBy_51 : decode cX7_kindBy 51 = .ok (.ireturn, 1) := by decide +kernel
theorem dX7_isGood_0 : decode cX7_isGood 0 = .ok (.iload_n 0, 1) := by decide +kernel
theorem dX7_isGood_1 : decode cX7_isGood 1 = .ok (.iconst 3, 1) := by decide +kernel
theorem dX7_isGood_2 : decode cX7_isGood 2 = .ok (.irem, 1) := by decide +kernel
theorem dX7_isGood_3 : decode cX7_isGood 3 = .ok (.istore_n 2, 1) := by decide +kernel
theorem dX7_isGood_4 : decode cX7_isGood 4 = .ok (.iload_n 0, 1) := by decide +kernel
theorem dX7_isGood_5 : decode cX7_isGood 5 = .ok (.bipush 16, 2) := by decide +kernel
theorem dX7_isGood_7 : decode cX7_isGood 7 = .ok (.if_icmp .le 5, 3) := by decide +kernel
theorem dX7_isGood_10 : decode cX7_isGood 10 = .ok (.iconst 0, 1) := by decide +kernel
theorem dX7_isGood_11 : decode cX7_isGood 11 = .ok (.ireturn, 1) := by decide +kernel
theorem dX7_isGood_12 : decode cX7_isGood 12 = .ok (.iload_n 2, 1) := by decide +kernel
theorem dX7_isGood_13 : decode cX7_isGood 13 = .ok (.ifCond .ne 19, 3) := by decide +kernel
theorem dX7_isGood_16 : decode cX7_isGood 16 = .ok (.iload_n 1, 1) := by decide +kernel
theorem dX7_isGood_17 : decode cX7_isGood 17 = .ok (.invokestatic 84, 3) := by decide +kernel
theorem dX7_isGood_20 : decode cX7_isGood 20 = .ok (.iconst (-1), 1) := by decide +kernel
theorem dX7_isGood_21 : decode cX7_isGood 21 = .ok (.if_icmp .eq 7, 3) := by decide +kernel
theorem dX7_isGood_24 : decode cX7_isGood 24 = .ok (.iconst 1, 1) := by decide +kernel
theorem dX7_isGood_25 : decode cX7_isGood 25 = .ok (.goto 57, 3) := by decide +kernel
theorem dX7_isGood_28 : decode cX7_isGood 28 = .ok (.iconst 0, 1) := by decide +kernel
theorem dX7_isGood_29 : decode cX7_isGood 29 = .ok (.goto 53, 3) := by decide +kernel
theorem dX7_isGood_32 : decode cX7_isGood 32 = .ok (.iload_n 2, 1) := by decide +kernel
theorem dX7_isGood_33 : decode cX7_isGood 33 = .ok (.iconst 1, 1) := by decide +kernel
theorem dX7_isGood_34 : decode cX7_isGood 34 = .ok (.if_icmp .ne 37, 3) := by decide +kernel
theorem dX7_isGood_37 : decode cX7_isGood 37 = .ok (.iload_n 1, 1) := by decide +kernel
theorem dX7_isGood_38 : decode cX7_isGood 38 = .ok (.bipush 45, 2) := by decide +kernel
theorem dX7_isGood_40 : decode cX7_isGood 40 = .ok (.if_icmp .eq 23, 3) := by decide +kernel
theorem dX7_isGood_43 : decode cX7_isGood 43 = .ok (.iload_n 1, 1) := by decide +kernel
theorem dX7_isGood_44 : decode cX7_isGood 44 = .ok (.bipush 48, 2) := by decide +kernel
theorem dX7_isGood_46 : decode cX7_isGood 46 = .ok (.isub, 1) := by decide +kernel
theorem dX7_isGood_47 : decode cX7_isGood 47 = .ok (.i2l, 1) := by decide +kernel
theorem dX7_isGood_48 : decode cX7_isGood 48 = .ok (.iload_n 0, 1) := by decide +kernel
theorem dX7_isGood_49 : decode cX7_isGood 49 = .ok (.iconst 3, 1) := by decide +kernel
theorem dX7_isGood_50 : decode cX7_isGood 50 = .ok (.idiv, 1) := by decide +kernel
theorem dX7_isGood_51 : decode cX7_isGood 51 = .ok (.iconst 1, 1) := by decide +kernel
theorem dX7_isGood_52 : decode cX7_isGood 52 = .ok (.iadd, 1) := by decide +kernel
theorem dX7_isGood_53 : decode cX7_isGood 53 = .ok (.i2l, 1) := by decide +kernel
theorem dX7_isGood_54 : decode cX7_isGood 54 = .ok (.ldc2_w 88, 3) := by decide +kernel
theorem dX7_isGood_57 : decode cX7_isGood 57 = .ok (.invokestatic 77, 3) := by decide +kernel
theorem dX7_isGood_60 : decode cX7_isGood 60 = .ok (.ifCond .eq 7, 3) := by decide +kernel
theorem dX7_isGood_63 : decode cX7_isGood 63 = .ok (.iconst 1, 1) := by decide +kernel
theorem dX7_isGood_64 : decode cX7_isGood 64 = .ok (.goto 18, 3) := by decide +kernel
theorem dX7_isGood_67 : decode cX7_isGood 67 = .ok (.iconst 0, 1) := by decide +kernel
theorem dX7_isGood_68 : decode cX7_isGood 68 = .ok (.goto 14, 3) := by decide +kernel
theorem dX7_isGood_71 : decode cX7_isGood 71 = .ok (.iload_n 1, 1) := by decide +kernel
theorem dX7_isGood_72 : decode cX7_isGood 72 = .ok (.bipush 44, 2) := by decide +kernel
theorem dX7_isGood_74 : decode cX7_isGood 74 = .ok (.if_icmp .ne 7, 3) := by decide +kernel
theorem dX7_isGood_77 : decode cX7_isGood 77 = .ok (.iconst 1, 1) := by decide +kernel
theorem dX7_isGood_78 : decode cX7_isGood 78 = .ok (.goto 4, 3) := by decide +kernel
theorem dX7_isGood_81 : decode cX7_isGood 81 = .ok (.iconst 0, 1) := by decide +kernel
theorem dX7_isGood_82 : decode cX7_isGood 82 = .ok (.ireturn, 1) := by decide +kernel
theorem dX7_faultOf_0 : decode cX7_faultOf 0 = .ok (.iconst 0, 1) := by decide +kernel
theorem dX7_faultOf_1 : decode cX7_faultOf 1 = .ok (.istore_n 2, 1) := by decide +kernel
theorem dX7_faultOf_2 : decode cX7_faultOf 2 = .ok (.iload_n 2, 1) := by decide +kernel
theorem dX7_faultOf_3 : decode cX7_faultOf 3 = .ok (.aload_n 0, 1) := by decide +kernel
theorem dX7_faultOf_4 : decode cX7_faultOf 4 = .ok (.getfield 81, 3) := by decide +kernel
theorem dX7_faultOf_7 : decode cX7_faultOf 7 = .ok (.if_icmp .ge 54, 3) := by decide +kernel
theorem dX7_faultOf_10 : decode cX7_faultOf 10 = .ok (.iload_n 1, 1) := by decide +kernel
theorem dX7_faultOf_11 : decode cX7_faultOf 11 = .ok (.ifCond .ne 19, 3) := by decide +kernel
theorem dX7_faultOf_14 : decode cX7_faultOf 14 = .ok (.iload_n 2, 1) := by decide +kernel
theorem dX7_faultOf_15 : decode cX7_faultOf 15 = .ok (.aload_n 0, 1) := by decide +kernel
theorem dX7_faultOf_16 : decode cX7_faultOf 16 = .ok (.getfield 7, 3) := by decide +kernel
theorem dX7_faultOf_19 : decode cX7_faultOf 19 = .ok (.iload_n 2, 1) := by decide +kernel
theorem dX7_faultOf_20 : decode cX7_faultOf 20 = .ok (.iaload, 1) := by decide +kernel
theorem dX7_faultOf_21 : decode cX7_faultOf 21 = .ok (.invokestatic 90, 3) := by decide +kernel
theorem dX7_faultOf_24 : decode cX7_faultOf 24 = .ok (.ifCond .eq 37, 3) := by decide +kernel
theorem dX7_faultOf_27 : decode cX7_faultOf 27 = .ok (.goto 28, 3) := by decide +kernel
theorem dX7_faultOf_30 : decode cX7_faultOf 30 = .ok (.iload_n 2, 1) := by decide +kernel
theorem dX7_faultOf_31 : decode cX7_faultOf 31 = .ok (.bipush 8, 2) := by decide +kernel
theorem dX7_faultOf_33 : decode cX7_faultOf 33 = .ok (.if_icmp .ge 28, 3) := by decide +kernel
theorem dX7_faultOf_36 : decode cX7_faultOf 36 = .ok (.aload_n 0, 1) := by decide +kernel
theorem dX7_faultOf_37 : decode cX7_faultOf 37 = .ok (.getfield 7, 3) := by decide +kernel
theorem dX7_faultOf_40 : decode cX7_faultOf 40 = .ok (.iload_n 2, 1) := by decide +kernel
theorem dX7_faultOf_41 : decode cX7_faultOf 41 = .ok (.iaload, 1) := by decide +kernel
theorem dX7_faultOf_42 : decode cX7_faultOf 42 = .ok (.i2l, 1) := by decide +kernel
theorem dX7_faultOf_43 : decode cX7_faultOf 43 = .ok (.ldc2_w 94, 3) := by decide +kernel
theorem dX7_faultOf_46 : decode cX7_faultOf 46 = .ok (.ldc2_w 96, 3) := by decide +kernel
theorem dX7_faultOf_49 : decode cX7_faultOf 49 = .ok (.invokestatic 77, 3) := by decide +kernel
theorem dX7_faultOf_52 : decode cX7_faultOf 52 = .ok (.ifCond .eq 9, 3) := by decide +kernel
theorem dX7_faultOf_55 : decode cX7_faultOf 55 = .ok (.iinc 2 1, 3) := by decide +kernel
theorem dX7_faultOf_58 : decode cX7_faultOf 58 = .ok (.goto (-56), 3) := by decide +kernel
theorem dX7_faultOf_61 : decode cX7_faultOf 61 = .ok (.iload_n 2, 1) := by decide +kernel
theorem dX7_faultOf_62 : decode cX7_faultOf 62 = .ok (.ireturn, 1) := by decide +kernel
theorem dX7_fault_0 : decode cX7_fault 0 = .ok (.iload_n 1, 1) := by decide +kernel
theorem dX7_fault_1 : decode cX7_fault 1 = .ok (.i2l, 1) := by decide +kernel
theorem dX7_fault_2 : decode cX7_fault 2 = .ok (.lconst 0, 1) := by decide +kernel
theorem dX7_fault_3 : decode cX7_fault 3 = .ok (.lconst 1, 1) := by decide +kernel
theorem dX7_fault_4 : decode cX7_fault 4 = .ok (.invokestatic 77, 3) := by decide +kernel
theorem dX7_fault_7 : decode cX7_fault 7 = .ok (.ifCond .eq 11, 3) := by decide +kernel
theorem dX7_fault_10 : decode cX7_fault 10 = .ok (.aload_n 0, 1) := by decide +kernel
theorem dX7_fault_11 : decode cX7_fault 11 = .ok (.iload_n 1, 1) := by decide +kernel
theorem dX7_fault_12 : decode cX7_fault 12 = .ok (.invokevirtual 98, 3) := by decide +kernel
theorem dX7_fault_15 : decode cX7_fault 15 = .ok (.goto 5, 3) := by decide +kernel
theorem dX7_fault_18 : decode cX7_fault 18 = .ok (.bipush (-102), 2) := by decide +kernel
theorem dX7_fault_20 : decode cX7_fault 20 = .ok (.ireturn, 1) := by decide +kernel
theorem dX7_dryRows_0 : decode cX7_dryRows 0 = .ok (.iconst 0, 1) := by decide +kernel
theorem dX7_dryRows_1 : decode cX7_dryRows 1 = .ok (.istore_n 1, 1) := by decide +kernel
theorem dX7_dryRows_2 : decode cX7_dryRows 2 = .ok (.iload_n 1, 1) := by decide +kernel
theorem dX7_dryRows_3 : decode cX7_dryRows 3 = .ok (.bipush 6, 2) := by decide +kernel
theorem dX7_dryRows_5 : decode cX7_dryRows 5 = .ok (.if_icmp .ge 41, 3) := by decide +kernel
theorem dX7_dryRows_8 : decode cX7_dryRows 8 = .ok (.iconst 0, 1) := by decide +kernel
theorem dX7_dryRows_9 : decode cX7_dryRows 9 = .ok (.istore_n 2, 1) := by decide +kernel
theorem dX7_dryRows_10 : decode cX7_dryRows 10 = .ok (.iload_n 2, 1) := by decide +kernel
theorem dX7_dryRows_11 : decode cX7_dryRows 11 = .ok (.bipush 17, 2) := by decide +kernel
theorem dX7_dryRows_13 : decode cX7_dryRows 13 = .ok (.if_icmp .ge 27, 3) := by decide +kernel
theorem dX7_dryRows_16 : decode cX7_dryRows 16 = .ok (.aload_n 0, 1) := by decide +kernel
theorem dX7_dryRows_17 : decode cX7_dryRows 17 = .ok (.bipush 17, 2) := by decide +kernel
theorem dX7_dryRows_19 : decode cX7_dryRows 19 = .ok (.iload_n 1, 1) := by decide +kernel
theorem dX7_dryRows_20 : decode cX7_dryRows 20 = .ok (.imul, 1) := by decide +kernel
theorem dX7_dryRows_21 : decode cX7_dryRows 21 = .ok (.iload_n 2, 1) := by decide +kernel
theorem dX7_dryRows_22 : decode cX7_dryRows 22 = .ok (.iadd, 1) := by decide +kernel
theorem dX7_dryRows_23 : decode cX7_dryRows 23 = .ok (.iload_n 2, 1) := by decide +kernel
theorem dX7_dryRows_24 : decode cX7_dryRows 24 = .ok (.iconst 1, 1) := by decide +kernel
theorem dX7_dryRows_25 : decode cX7_dryRows 25 = .ok (.if_icmp .ne 7, 3) := by decide +kernel
theorem dX7_dryRows_28 : decode cX7_dryRows 28 = .ok (.iconst (-1), 1) := by decide +kernel
theorem dX7_dryRows_29 : decode cX7_dryRows 29 = .ok (.goto 4, 3) := by decide +kernel
theorem dX7_dryRows_32 : decode cX7_dryRows 32 = .ok (.iconst 0, 1) := by decide +kernel
theorem dX7_dryRows_33 : decode cX7_dryRows 33 = .ok (.iastore, 1) := by decide +kernel
theorem dX7_dryRows_34 : decode cX7_dryRows 34 = .ok (.iinc 2 1, 3) := by decide +kernel
theorem dX7_dryRows_37 : decode cX7_dryRows 37 = .ok (.goto (-27), 3) := by decide +kernel
theorem dX7_dryRows_40 : decode cX7_dryRows 40 = .ok (.iinc 1 1, 3) := by decide +kernel
theorem dX7_dryRows_43 : decode cX7_dryRows 43 = .ok (.goto (-41), 3) := by decide +kernel
theorem dX7_dryRows_46 : decode cX7_dryRows 46 = .ok (.return_, 1) := by decide +kernel
theorem dX7_outs_0 : decode cX7_outs 0 = .ok (.iconst 0, 1) := by decide +kernel
theorem dX7_outs_1 : decode cX7_outs 1 = .ok (.istore_n 1, 1) := by decide +kernel
theorem dX7_outs_2 : decode cX7_outs 2 = .ok (.iconst 0, 1) := by decide +kernel
theorem dX7_outs_3 : decode cX7_outs 3 = .ok (.istore_n 2, 1) := by decide +kernel
theorem dX7_outs_4 : decode cX7_outs 4 = .ok (.iload_n 2, 1) := by decide +kernel
theorem dX7_outs_5 : decode cX7_outs 5 = .ok (.bipush 6, 2) := by decide +kernel
theorem dX7_outs_7 : decode cX7_outs 7 = .ok (.if_icmp .ge 34, 3) := by decide +kernel
theorem dX7_outs_10 : decode cX7_outs 10 = .ok (.aload_n 0, 1) := by decide +kernel
theorem dX7_outs_11 : decode cX7_outs 11 = .ok (.getfield 101, 3) := by decide +kernel
theorem dX7_outs_14 : decode cX7_outs 14 = .ok (.ifCond .eq 27, 3) := by decide +kernel
theorem dX7_outs_17 : decode cX7_outs 17 = .ok (.iload_n 1, 1) := by decide +kernel
theorem dX7_outs_18 : decode cX7_outs 18 = .ok (.aload_n 0, 1) := by decide +kernel
theorem dX7_outs_19 : decode cX7_outs 19 = .ok (.getfield 16, 3) := by decide +kernel
theorem dX7_outs_22 : decode cX7_outs 22 = .ok (.iload_n 2, 1) := by decide +kernel
theorem dX7_outs_23 : decode cX7_outs 23 = .ok (.iaload, 1) := by decide +kernel
theorem dX7_outs_24 : decode cX7_outs 24 = .ok (.iconst (-1), 1) := by decide +kernel
theorem dX7_outs_25 : decode cX7_outs 25 = .ok (.if_icmp .ne 7, 3) := by decide +kernel
theorem dX7_outs_28 : decode cX7_outs 28 = .ok (.iconst 1, 1) := by decide +kernel
theorem dX7_outs_29 : decode cX7_outs 29 = .ok (.goto 4, 3) := by decide +kernel
theorem dX7_outs_32 : decode cX7_outs 32 = .ok (.iconst 0, 1) := by decide +kernel
theorem dX7_outs_33 : decode cX7_outs 33 = .ok (.iadd, 1) := by decide +kernel
theorem dX7_outs_34 : decode cX7_outs 34 = .ok (.istore_n 1, 1) := by decide +kernel
theorem dX7_outs_35 : decode cX7_outs 35 = .ok (.iinc 2 1, 3) := by decide +kernel
theorem dX7_outs_38 : decode cX7_outs 38 = .ok (.goto (-34), 3) := by decide +kernel
theorem dX7_outs_41 : decode cX7_outs 41 = .ok (.iload_n 1, 1) := by decide +kernel
theorem dX7_outs_42 : decode cX7_outs 42 = .ok (.ireturn, 1) := by decide +kernel
theorem dX7_street_0 : decode cX7_street 0 = .ok (.aload_n 0, 1) := by decide +kernel
theorem dX7_street_1 : decode cX7_street 1 = .ok (.getfield 81, 3) := by decide +kernel
theorem dX7_street_4 : decode cX7_street 4 = .ok (.bipush 17, 2) := by decide +kernel
theorem dX7_street_6 : decode cX7_street 6 = .ok (.if_icmp .ne 13, 3) := by decide +kernel
theorem dX7_street_9 : decode cX7_street 9 = .ok (.aload_n 0, 1) := by decide +kernel
theorem dX7_street_10 : decode cX7_street 10 = .ok (.iconst 0, 1) := by decide +kernel
theorem dX7_street_11 : decode cX7_street 11 = .ok (.invokevirtual 98, 3) := by decide +kernel
theorem dX7_street_14 : decode cX7_street 14 = .ok (.bipush 17, 2) := by decide +kernel
theorem dX7_street_16 : decode cX7_street 16 = .ok (.if_icmp .ge 6, 3) := by decide +kernel
theorem dX7_street_19 : decode cX7_street 19 = .ok (.bipush (-103), 2) := by decide +kernel
theorem dX7_street_21 : decode cX7_street 21 = .ok (.ireturn, 1) := by decide +kernel
theorem dX7_street_22 : decode cX7_street 22 = .ok (.iconst 0, 1) := by decide +kernel
theorem dX7_street_23 : decode cX7_street 23 = .ok (.istore_n 1, 1) := by decide +kernel
theorem dX7_street_24 : decode cX7_street 24 = .ok (.iload_n 1, 1) := by decide +kernel
theorem dX7_street_25 : decode cX7_street 25 = .ok (.bipush 6, 2) := by decide +kernel
theorem dX7_street_27 : decode cX7_street 27 = .ok (.if_icmp .ge 71, 3) := by decide +kernel
theorem dX7_street_30 : decode cX7_street 30 = .ok (.aload_n 0, 1) := by decide +kernel
theorem dX7_street_31 : decode cX7_street 31 = .ok (.getfield 13, 3) := by decide +kernel
theorem dX7_street_34 : decode cX7_street 34 = .ok (.iload_n 1, 1) := by decide +kernel
theorem dX7_street_35 : decode cX7_street 35 = .ok (.aload_n 0, 1) := by decide +kernel
theorem dX7_street_36 : decode cX7_street 36 = .ok (.getfield 7, 3) := by decide +kernel
theorem dX7_street_39 : decode cX7_street 39 = .ok (.iconst 3, 1) := by decide +kernel
theorem dX7_street_40 : decode cX7_street 40 = .ok (.iload_n 1, 1) := by decide +kernel
theorem dX7_street_41 : decode cX7_street 41 = .ok (.imul, 1) := by decide +kernel
theorem dX7_street_42 : decode cX7_street 42 = .ok (.iaload, 1) := by decide +kernel
theorem dX7_street_43 : decode cX7_street 43 = .ok (.invokestatic 84, 3) := by decide +kernel
theorem dX7_street_46 : decode cX7_street 46 = .ok (.iastore, 1) := by decide +kernel
theorem dX7_street_47 : decode cX7_street 47 = .ok (.aload_n 0, 1) := by decide +kernel
theorem dX7_street_48 : decode cX7_street 48 = .ok (.getfield 16, 3) := by decide +kernel
theorem dX7_street_51 : decode cX7_street 51 = .ok (.iload_n 1, 1) := by decide +kernel
theorem dX7_street_52 : decode cX7_street 52 = .ok (.aload_n 0, 1) := by decide +kernel
theorem dX7_street_53 : decode cX7_street 53 = .ok (.getfield 7, 3) := by decide +kernel
theorem dX7_street_56 : decode cX7_street 56 = .ok (.iconst 3, 1) := by decide +kernel
theorem dX7_street_57 : decode cX7_street 57 = .ok (.iload_n 1, 1) := by decide +kernel
theorem dX7_street_58 : decode cX7_street 58 = .ok (.imul, 1) := by decide +kernel
theorem dX7_street_59 : decode cX7_street 59 = .ok (.iconst 1, 1) := by decide +kernel
theorem dX7_street_60 : decode cX7_street 60 = .ok (.iadd, 1) := by decide +kernel
theorem dX7_street_61 : decode cX7_street 61 = .ok (.iaload, 1) := by decide +kernel
theorem dX7_street_62 : decode cX7_street 62 = .ok (.bipush 45, 2) := by decide +kernel
theorem dX7_street_64 : decode cX7_street 64 = .ok (.if_icmp .ne 7, 3) := by decide +kernel
theorem dX7_street_67 : decode cX7_street 67 = .ok (.iconst (-1), 1) := by decide +kernel
theorem dX7_street_68 : decode cX7_street 68 = .ok (.goto 16, 3) := by decide +kernel
theorem dX7_street_71 : decode cX7_street 71 = .ok (.aload_n 0, 1) := by decide +kernel
theorem dX7_street_72 : decode cX7_street 72 = .ok (.getfield 7, 3) := by decide +kernel
theorem dX7_street_75 : decode cX7_street 75 = .ok (.iconst 3, 1) := by decide +kernel
theorem dX7_street_76 : decode cX7_street 76 = .ok (.iload_n 1, 1) := by decide +kernel
theorem dX7_street_77 : decode cX7_street 77 = .ok (.imul, 1) := by decide +kernel
theorem dX7_street_78 : decode cX7_street 78 = .ok (.iconst 1, 1) := by decide +kernel
theorem dX7_street_79 : decode cX7_street 79 = .ok (.iadd, 1) := by decide +kernel
theorem dX7_street_80 : decode cX7_street 80 = .ok (.iaload, 1) := by decide +kernel
theorem dX7_street_81 : decode cX7_street 81 = .ok (.bipush 48, 2) := by decide +kernel
theorem dX7_street_83 : decode cX7_street 83 = .ok (.isub, 1) := by decide +kernel
theorem dX7_street_84 : decode cX7_street 84 = .ok (.iastore, 1) := by decide +kernel
theorem dX7_street_85 : decode cX7_street 85 = .ok (.aload_n 0, 1) := by decide +kernel
theorem dX7_street_86 : decode cX7_street 86 = .ok (.getfield 47, 3) := by decide +kernel
theorem dX7_street_89 : decode cX7_street 89 = .ok (.iload_n 1, 1) := by decide +kernel
theorem dX7_street_90 : decode cX7_street 90 = .ok (.iconst (-1), 1) := by decide +kernel
theorem dX7_street_91 : decode cX7_street 91 = .ok (.iastore, 1) := by decide +kernel
theorem dX7_street_92 : decode cX7_street 92 = .ok (.iinc 1 1, 3) := by decide +kernel
theorem dX7_street_95 : decode cX7_street 95 = .ok (.goto (-71), 3) := by decide +kernel
theorem dX7_street_98 : decode cX7_street 98 = .ok (.aload_n 0, 1) := by decide +kernel
theorem dX7_street_99 : decode cX7_street 99 = .ok (.getfield 19, 3) := by decide +kernel
theorem dX7_street_102 : decode cX7_street 102 = .ok (.invokestatic 105, 3) := by decide +kernel
theorem dX7_street_105 : decode cX7_street 105 = .ok (.aload_n 0, 1) := by decide +kernel
theorem dX7_street_106 : decode cX7_street 106 = .ok (.iconst 0, 1) := by decide +kernel
theorem dX7_street_107 : decode cX7_street 107 = .ok (.putfield 109, 3) := by decide +kernel
theorem dX7_street_110 : decode cX7_street 110 = .ok (.aload_n 0, 1) := by decide +kernel
theorem dX7_street_111 : decode cX7_street 111 = .ok (.iconst 1, 1) := by decide +kernel
theorem dX7_street_112 : decode cX7_street 112 = .ok (.putfield 101, 3) := by decide +kernel
theorem dX7_street_115 : decode cX7_street 115 = .ok (.aload_n 0, 1) := by decide +kernel
theorem dX7_street_116 : decode cX7_street 116 = .ok (.dup, 1) := by decide +kernel
theorem dX7_street_117 : decode cX7_street 117 = .ok (.getfield 112, 3) := by decide +kernel
theorem dX7_street_120 : decode cX7_street 120 = .ok (.iconst 1, 1) := by decide +kernel
theorem dX7_street_121 : decode cX7_street 121 = .ok (.iadd, 1) := by decide +kernel
theorem dX7_street_122 : decode cX7_street 122 = .ok (.putfield 112, 3) := by decide +kernel
theorem dX7_street_125 : decode cX7_street 125 = .ok (.aload_n 0, 1) := by decide +kernel
theorem dX7_street_126 : decode cX7_street 126 = .ok (.iconst 0, 1) := by decide +kernel
theorem dX7_street_127 : decode cX7_street 127 = .ok (.putfield 81, 3) := by decide +kernel
theorem dX7_street_130 : decode cX7_street 130 = .ok (.aload_n 0, 1) := by decide +kernel
theorem dX7_street_131 : decode cX7_street 131 = .ok (.invokevirtual 115, 3) := by decide +kernel
theorem dX7_street_134 : decode cX7_street 134 = .ok (.ireturn, 1) := by decide +kernel
theorem dX7_isGutter_0 : decode cX7_isGutter 0 = .ok (.aload_n 0, 1) := by decide +kernel
theorem dX7_isGutter_1 : decode cX7_isGutter 1 = .ok (.getfield 101, 3) := by decide +kernel
theorem dX7_isGutter_4 : decode cX7_isGutter 4 = .ok (.ifCond .eq 19, 3) := by decide +kernel
theorem dX7_isGutter_7 : decode cX7_isGutter 7 = .ok (.iload_n 1, 1) := by decide +kernel
theorem dX7_isGutter_8 : decode cX7_isGutter 8 = .ok (.i2l, 1) := by decide +kernel
theorem dX7_isGutter_9 : decode cX7_isGutter 9 = .ok (.lconst 0, 1) := by decide +kernel
theorem dX7_isGutter_10 : decode cX7_isGutter 10 = .ok (.ldc2_w 88, 3) := by decide +kernel
theorem dX7_isGutter_13 : decode cX7_isGutter 13 = .ok (.invokestatic 77, 3) := by decide +kernel
theorem dX7_isGutter_16 : decode cX7_isGutter 16 = .ok (.ifCond .eq 7, 3) := by decide +kernel
theorem dX7_isGutter_19 : decode cX7_isGutter 19 = .ok (.iconst 1, 1) := by decide +kernel
theorem dX7_isGutter_20 : decode cX7_isGutter 20 = .ok (.goto 4, 3) := by decide +kernel
theorem dX7_isGutter_23 : decode cX7_isGutter 23 = .ok (.iconst 0, 1) := by decide +kernel
theorem dX7_isGutter_24 : decode cX7_isGutter 24 = .ok (.ireturn, 1) := by decide +kernel
theorem dX7_tell_0 : decode cX7_tell 0 = .ok (.iload_n 2, 1) := by decide +kernel
theorem dX7_tell_1 : decode cX7_tell 1 = .ok (.tableswitch 99 0 5 #[39, 46, 53, 63, 75, 87], 39) := by decide +kernel
theorem dX7_tell_40 : decode cX7_tell 40 = .ok (.aload_n 0, 1) := by decide +kernel
theorem dX7_tell_41 : decode cX7_tell 41 = .ok (.getfield 13, 3) := by decide +kernel
theorem dX7_tell_44 : decode cX7_tell 44 = .ok (.iload_n 1, 1) := by decide +kernel
theorem dX7_tell_45 : decode cX7_tell 45 = .ok (.iaload, 1) := by decide +kernel
theorem dX7_tell_46 : decode cX7_tell 46 = .ok (.ireturn, 1) := by decide +kernel
theorem dX7_tell_47 : decode cX7_tell 47 = .ok (.aload_n 0, 1) := by decide +kernel
theorem dX7_tell_48 : decode cX7_tell 48 = .ok (.getfield 16, 3) := by decide +kernel
theorem dX7_tell_51 : decode cX7_tell 51 = .ok (.iload_n 1, 1) := by decide +kernel
theorem dX7_tell_52 : decode cX7_tell 52 = .ok (.iaload, 1) := by decide +kernel
theorem dX7_tell_53 : decode cX7_tell 53 = .ok (.ireturn, 1) := by decide +kernel
theorem dX7_tell_54 : decode cX7_tell 54 = .ok (.aload_n 0, 1) := by decide +kernel
theorem dX7_tell_55 : decode cX7_tell 55 = .ok (.getfield 19, 3) := by decide +kernel
theorem dX7_tell_58 : decode cX7_tell 58 = .ok (.bipush 17, 2) := by decide +kernel
theorem dX7_tell_60 : decode cX7_tell 60 = .ok (.iload_n 1, 1) := by decide +kernel
theorem dX7_tell_61 : decode cX7_tell 61 = .ok (.imul, 1) := by decide +kernel
theorem dX7_tell_62 : decode cX7_tell 62 = .ok (.iaload, 1) := by decide +kernel
theorem dX7_tell_63 : decode cX7_tell 63 = .ok (.ireturn, 1) := by decide +kernel
theorem dX7_tell_64 : decode cX7_tell 64 = .ok (.aload_n 0, 1) := by decide +kernel
theorem dX7_tell_65 : decode cX7_tell 65 = .ok (.getfield 19, 3) := by decide +kernel
theorem dX7_tell_68 : decode cX7_tell 68 = .ok (.bipush 17, 2) := by decide +kernel
theorem dX7_tell_70 : decode cX7_tell 70 = .ok (.iload_n 1, 1) := by decide +kernel
theorem dX7_tell_71 : decode cX7_tell 71 = .ok (.imul, 1) := by decide +kernel
theorem dX7_tell_72 : decode cX7_tell 72 = .ok (.iconst 1, 1) := by decide +kernel
theorem dX7_tell_73 : decode cX7_tell 73 = .ok (.iadd, 1) := by decide +kernel
theorem dX7_tell_74 : decode cX7_tell 74 = .ok (.iaload, 1) := by decide +kernel
theorem dX7_tell_75 : decode cX7_tell 75 = .ok (.ireturn, 1) := by decide +kernel
theorem dX7_tell_76 : decode cX7_tell 76 = .ok (.aload_n 0, 1) := by decide +kernel
theorem dX7_tell_77 : decode cX7_tell 77 = .ok (.getfield 19, 3) := by decide +kernel
theorem dX7_tell_80 : decode cX7_tell 80 = .ok (.bipush 17, 2) := by decide +kernel
theorem dX7_tell_82 : decode cX7_tell 82 = .ok (.iload_n 1, 1) := by decide +kernel
theorem dX7_tell_83 : decode cX7_tell 83 = .ok (.imul, 1) := by decide +kernel
theorem dX7_tell_84 : decode cX7_tell 84 = .ok (.iconst 4, 1) := by decide +kernel
theorem dX7_tell_85 : decode cX7_tell 85 = .ok (.iadd, 1) := by decide +kernel
theorem dX7_tell_86 : decode cX7_tell 86 = .ok (.iaload, 1) := by decide +kernel
theorem dX7_tell_87 : decode cX7_tell 87 = .ok (.ireturn, 1) := by decide +kernel
theorem dX7_tell_88 : decode cX7_tell 88 = .ok (.aload_n 0, 1) := by decide +kernel
theorem dX7_tell_89 : decode cX7_tell 89 = .ok (.getfield 19, 3) := by decide +kernel
theorem dX7_tell_92 : decode cX7_tell 92 = .ok (.bipush 17, 2) := by decide +kernel
theorem dX7_tell_94 : decode cX7_tell 94 = .ok (.iload_n 1, 1) := by decide +kernel
theorem dX7_tell_95 : decode cX7_tell 95 = .ok (.imul, 1) := by decide +kernel
theorem dX7_tell_96 : decode cX7_tell 96 = .ok (.iconst 3, 1) := by decide +kernel
theorem dX7_tell_97 : decode cX7_tell 97 = .ok (.iadd, 1) := by decide +kernel
theorem dX7_tell_98 : decode cX7_tell 98 = .ok (.iaload, 1) := by decide +kernel
theorem dX7_tell_99 : decode cX7_tell 99 = .ok (.ireturn, 1) := by decide +kernel
theorem dX7_tell_100 : decode cX7_tell 100 = .ok (.bipush (-102), 2) := by decide +kernel
theorem dX7_tell_102 : decode cX7_tell 102 = .ok (.ireturn, 1) := by decide +kernel
theorem dX7_about_0 : decode cX7_about 0 = .ok (.aload_n 0, 1) := by decide +kernel
theorem dX7_about_1 : decode cX7_about 1 = .ok (.iload_n 1, 1) := by decide +kernel
theorem dX7_about_2 : decode cX7_about 2 = .ok (.invokevirtual 119, 3) := by decide +kernel
theorem dX7_about_5 : decode cX7_about 5 = .ok (.ifCond .eq 12, 3) := by decide +kernel
theorem dX7_about_8 : decode cX7_about 8 = .ok (.aload_n 0, 1) := by decide +kernel
theorem dX7_about_9 : decode cX7_about 9 = .ok (.iload_n 1, 1) := by decide +kernel
theorem dX7_about_10 : decode cX7_about 10 = .ok (.iload_n 2, 1) := by decide +kernel
theorem dX7_about_11 : decode cX7_about 11 = .ok (.invokevirtual 123, 3) := by decide +kernel
theorem dX7_about_14 : decode cX7_about 14 = .ok (.goto 5, 3) := by decide +kernel
theorem dX7_about_17 : decode cX7_about 17 = .ok (.bipush (-101), 2) := by decide +kernel
theorem dX7_about_19 : decode cX7_about 19 = .ok (.ireturn, 1) := by decide +kernel
theorem dX7_as_0 : decode cX7_as 0 = .ok (.aload_n 0, 1) := by decide +kernel
theorem dX7_as_1 : decode cX7_as 1 = .ok (.iload_n 1, 1) := by decide +kernel
theorem dX7_as_2 : decode cX7_as 2 = .ok (.invokevirtual 119, 3) := by decide +kernel
theorem dX7_as_5 : decode cX7_as 5 = .ok (.ifCond .ne 6, 3) := by decide +kernel
theorem dX7_as_8 : decode cX7_as 8 = .ok (.bipush (-101), 2) := by decide +kernel
theorem dX7_as_10 : decode cX7_as 10 = .ok (.ireturn, 1) := by decide +kernel
theorem dX7_as_11 : decode cX7_as 11 = .ok (.iload_n 2, 1) := by decide +kernel
theorem dX7_as_12 : decode cX7_as 12 = .ok (.i2l, 1) := by decide +kernel
theorem dX7_as_13 : decode cX7_as 13 = .ok (.lconst 0, 1) := by decide +kernel
theorem dX7_as_14 : decode cX7_as 14 = .ok (.ldc2_w 127, 3) := by decide +kernel
theorem dX7_as_17 : decode cX7_as 17 = .ok (.invokestatic 77, 3) := by decide +kernel
theorem dX7_as_20 : decode cX7_as 20 = .ok (.ifCond .ne 6, 3) := by decide +kernel
theorem dX7_as_23 : decode cX7_as 23 = .ok (.bipush (-102), 2) := by decide +kernel
theorem dX7_as_25 : decode cX7_as 25 = .ok (.ireturn, 1) := by decide +kernel
theorem dX7_as_26 : decode cX7_as 26 = .ok (.iload_n 2, 1) := by decide +kernel
theorem dX7_as_27 : decode cX7_as 27 = .ok (.ifCond .eq 28, 3) := by decide +kernel
theorem dX7_as_30 : decode cX7_as 30 = .ok (.iload_n 2, 1) := by decide +kernel
theorem dX7_as_31 : decode cX7_as 31 = .ok (.aload_n 0, 1) := by decide +kernel
theorem dX7_as_32 : decode cX7_as 32 = .ok (.getfield 13, 3) := by decide +kernel
theorem dX7_as_35 : decode cX7_as 35 = .ok (.iload_n 1, 1) := by decide +kernel
theorem dX7_as_36 : decode cX7_as 36 = .ok (.iaload, 1) := by decide +kernel
theorem dX7_as_37 : decode cX7_as 37 = .ok (.if_icmp .eq 18, 3) := by decide +kernel
theorem dX7_as_40 : decode cX7_as 40 = .ok (.iload_n 2, 1) := by decide +kernel
theorem dX7_as_41 : decode cX7_as 41 = .ok (.iconst 2, 1) := by decide +kernel
theorem dX7_as_42 : decode cX7_as 42 = .ok (.if_icmp .ne 17, 3) := by decide +kernel
theorem dX7_as_45 : decode cX7_as 45 = .ok (.aload_n 0, 1) := by decide +kernel
theorem dX7_as_46 : decode cX7_as 46 = .ok (.getfield 13, 3) := by decide +kernel
theorem dX7_as_49 : decode cX7_as 49 = .ok (.iload_n 1, 1) := by decide +kernel
theorem dX7_as_50 : decode cX7_as 50 = .ok (.iaload, 1) := by decide +kernel
theorem dX7_as_51 : decode cX7_as 51 = .ok (.iconst 4, 1) := by decide +kernel
theorem dX7_as_52 : decode cX7_as 52 = .ok (.if_icmp .ne 7, 3) := by decide +kernel
theorem dX7_as_55 : decode cX7_as 55 = .ok (.iconst 1, 1) := by decide +kernel
theorem dX7_as_56 : decode cX7_as 56 = .ok (.goto 4, 3) := by decide +kernel
theorem dX7_as_59 : decode cX7_as 59 = .ok (.iconst 0, 1) := by decide +kernel
theorem dX7_as_60 : decode cX7_as 60 = .ok (.istore_n 3, 1) := by decide +kernel
theorem dX7_as_61 : decode cX7_as 61 = .ok (.iload_n 3, 1) := by decide +kernel
theorem dX7_as_62 : decode cX7_as 62 = .ok (.ifCond .eq 7, 3) := by decide +kernel
theorem dX7_as_65 : decode cX7_as 65 = .ok (.iload_n 1, 1) := by decide +kernel
theorem dX7_as_66 : decode cX7_as 66 = .ok (.goto 4, 3) := by decide +kernel
theorem dX7_as_69 : decode cX7_as 69 = .ok (.iconst (-1), 1) := by decide +kernel
theorem dX7_as_70 : decode cX7_as 70 = .ok (.ireturn, 1) := by decide +kernel
theorem dX7_word_0 : decode cX7_word 0 = .ok (.aload_n 0, 1) := by decide +kernel
theorem dX7_word_1 : decode cX7_word 1 = .ok (.iload_n 1, 1) := by decide +kernel
theorem dX7_word_2 : decode cX7_word 2 = .ok (.invokevirtual 119, 3) := by decide +kernel
theorem dX7_word_5 : decode cX7_word 5 = .ok (.ifCond .eq 42, 3) := by decide +kernel
theorem dX7_word_8 : decode cX7_word 8 = .ok (.iload_n 2, 1) := by decide +kernel
theorem dX7_word_9 : decode cX7_word 9 = .ok (.i2l, 1) := by decide +kernel
theorem dX7_word_10 : decode cX7_word 10 = .ok (.lconst 0, 1) := by decide +kernel
theorem dX7_word_11 : decode cX7_word 11 = .ok (.aload_n 0, 1) := by decide +kernel
theorem dX7_word_12 : decode cX7_word 12 = .ok (.getfield 19, 3) := by decide +kernel
theorem dX7_word_15 : decode cX7_word 15 = .ok (.bipush 17, 2) := by decide +kernel
theorem dX7_word_17 : decode cX7_word 17 = .ok (.iload_n 1, 1) := by decide +kernel
theorem dX7_word_18 : decode cX7_word 18 = .ok (.imul, 1) := by decide +kernel
theorem dX7_word_19 : decode cX7_word 19 = .ok (.iconst 4, 1) := by decide +kernel
theorem dX7_word_20 : decode cX7_word 20 = .ok (.iadd, 1) := by decide +kernel
theorem dX7_word_21 : decode cX7_word 21 = .ok (.iaload, 1) := by decide +kernel
theorem dX7_word_22 : decode cX7_word 22 = .ok (.iconst 1, 1) := by decide +kernel
theorem dX7_word_23 : decode cX7_word 23 = .ok (.isub, 1) := by decide +kernel
theorem dX7_word_24 : decode cX7_word 24 = .ok (.i2l, 1) := by decide +kernel
theorem dX7_word_25 : decode cX7_word 25 = .ok (.invokestatic 77, 3) := by decide +kernel
theorem dX7_word_28 : decode cX7_word 28 = .ok (.ifCond .eq 19, 3) := by decide +kernel
theorem dX7_word_31 : decode cX7_word 31 = .ok (.aload_n 0, 1) := by decide +kernel
theorem dX7_word_32 : decode cX7_word 32 = .ok (.getfield 19, 3) := by decide +kernel
theorem dX7_word_35 : decode cX7_word 35 = .ok (.bipush 17, 2) := by decide +kernel
theorem dX7_word_37 : decode cX7_word 37 = .ok (.iload_n 1, 1) := by decide +kernel
theorem dX7_word_38 : decode cX7_word 38 = .ok (.imul, 1) := by decide +kernel
theorem dX7_word_39 : decode cX7_word 39 = .ok (.iconst 5, 1) := by decide +kernel
theorem dX7_word_40 : decode cX7_word 40 = .ok (.iadd, 1) := by decide +kernel
theorem dX7_word_41 : decode cX7_word 41 = .ok (.iload_n 2, 1) := by decide +kernel
theorem dX7_word_42 : decode cX7_word 42 = .ok (.iadd, 1) := by decide +kernel
theorem dX7_word_43 : decode cX7_word 43 = .ok (.iaload, 1) := by decide +kernel
theorem dX7_word_44 : decode cX7_word 44 = .ok (.goto 5, 3) := by decide +kernel
theorem dX7_word_47 : decode cX7_word 47 = .ok (.bipush (-101), 2) := by decide +kernel
theorem dX7_word_49 : decode cX7_word 49 = .ok (.ireturn, 1) := by decide +kernel
theorem dX7_through_0 : decode cX7_through 0 = .ok (.bipush 17, 2) := by decide +kernel
theorem dX7_through_2 : decode cX7_through 2 = .ok (.iload_n 1, 1) := by decide +kernel
theorem dX7_through_3 : decode cX7_through 3 = .ok (.imul, 1) := by decide +kernel
theorem dX7_through_4 : decode cX7_through 4 = .ok (.istore 4, 2) := by decide +kernel
theorem dX7_through_6 : decode cX7_through 6 = .ok (.aload_n 0, 1) := by decide +kernel
theorem dX7_through_7 : decode cX7_through 7 = .ok (.iload 4, 2) := by decide +kernel
theorem dX7_through_9 : decode cX7_through 9 = .ok (.iconst 1, 1) := by decide +kernel
theorem dX7_through_10 : decode cX7_through 10 = .ok (.iadd, 1) := by decide +kernel
theorem dX7_through_11 : decode cX7_through 11 = .ok (.iaload, 1) := by decide +kernel
theorem dX7_through_12 : decode cX7_through 12 = .ok (.istore 5, 2) := by decide +kernel
theorem dX7_through_14 : decode cX7_through 14 = .ok (.aload_n 0, 1) := by decide +kernel
theorem dX7_through_15 : decode cX7_through 15 = .ok (.iload 4, 2) := by decide +kernel
theorem dX7_through_17 : decode cX7_through 17 = .ok (.dup2, 1) := by decide +kernel
theorem dX7_through_18 : decode cX7_through 18 = .ok (.iaload, 1) := by decide +kernel
theorem dX7_through_19 : decode cX7_through 19 = .ok (.iconst 1, 1) := by decide +kernel
theorem dX7_through_20 : decode cX7_through 20 = .ok (.iadd, 1) := by decide +kernel
theorem dX7_through_21 : decode cX7_through 21 = .ok (.iastore, 1) := by decide +kernel
theorem dX7_through_22 : decode cX7_through 22 = .ok (.iload_n 2, 1) := by decide +kernel
theorem dX7_through_23 : decode cX7_through 23 = .ok (.iconst 1, 1) := by decide +kernel
theorem dX7_through_24 : decode cX7_through 24 = .ok (.if_icmp .ne 13, 3) := by decide +kernel
theorem dX7_through_27 : decode cX7_through 27 = .ok (.aload_n 0, 1) := by decide +kernel
theorem dX7_through_28 : decode cX7_through 28 = .ok (.iload 4, 2) := by decide +kernel
theorem dX7_through_30 : decode cX7_through 30 = .ok (.iconst 1, 1) := by decide +kernel
theorem dX7_through_31 : decode cX7_through 31 = .ok (.iadd, 1) := by decide +kernel
theorem dX7_through_32 : decode cX7_through 32 = .ok (.iload_n 3, 1) := by decide +kernel
theorem dX7_through_33 : decode cX7_through 33 = .ok (.iastore, 1) := by decide +kernel
theorem dX7_through_34 : decode cX7_through 34 = .ok (.iload 5, 2) := by decide +kernel
theorem dX7_through_36 : decode cX7_through 36 = .ok (.ireturn, 1) := by decide +kernel
theorem dX7_through_37 : decode cX7_through 37 = .ok (.iconst 1, 1) := by decide +kernel
theorem dX7_through_38 : decode cX7_through 38 = .ok (.istore 6, 2) := by decide +kernel
theorem dX7_through_40 : decode cX7_through 40 = .ok (.iload_n 2, 1) := by decide +kernel
theorem dX7_through_41 : decode cX7_through 41 = .ok (.iconst 3, 1) := by decide +kernel
theorem dX7_through_42 : decode cX7_through 42 = .ok (.if_icmp .ne 19, 3) := by decide +kernel
theorem dX7_through_45 : decode cX7_through 45 = .ok (.iload_n 3, 1) := by decide +kernel
theorem dX7_through_46 : decode cX7_through 46 = .ok (.ifCond .eq 12, 3) := by decide +kernel
theorem dX7_through_49 : decode cX7_through 49 = .ok (.iload_n 3, 1) := by decide +kernel
theorem dX7_through_50 : decode cX7_through 50 = .ok (.iconst 4, 1) := by decide +kernel
theorem dX7_through_51 : decode cX7_through 51 = .ok (.if_icmp .eq 7, 3) := by decide +kernel
theorem dX7_through_54 : decode cX7_through 54 = .ok (.iconst 1, 1) := by decide +kernel
theorem dX7_through_55 : decode cX7_through 55 = .ok (.goto 4, 3) := by decide +kernel
theorem dX7_through_58 : decode cX7_through 58 = .ok (.iconst 0, 1) := by decide +kernel
theorem dX7_through_59 : decode cX7_through 59 = .ok (.istore 6, 2) := by decide +kernel
theorem dX7_through_61 : decode cX7_through 61 = .ok (.iload_n 2, 1) := by decide +kernel
theorem dX7_through_62 : decode cX7_through 62 = .ok (.iconst 2, 1) := by decide +kernel
theorem dX7_through_63 : decode cX7_through 63 = .ok (.if_icmp .eq 8, 3) := by decide +kernel
theorem dX7_through_66 : decode cX7_through 66 = .ok (.iload_n 2, 1) := by decide +kernel
theorem dX7_through_67 : decode cX7_through 67 = .ok (.iconst 4, 1) := by decide +kernel
theorem dX7_through_68 : decode cX7_through 68 = .ok (.if_icmp .ne 71, 3) := by decide +kernel
theorem dX7_through_71 : decode cX7_through 71 = .ok (.aload_n 0, 1) := by decide +kernel
theorem dX7_through_72 : decode cX7_through 72 = .ok (.iload 4, 2) := by decide +kernel
theorem dX7_through_74 : decode cX7_through 74 = .ok (.iconst 1, 1) := by decide +kernel
theorem dX7_through_75 : decode cX7_through 75 = .ok (.iadd, 1) := by decide +kernel
theorem dX7_through_76 : decode cX7_through 76 = .ok (.iload_n 3, 1) := by decide +kernel
theorem dX7_through_77 : decode cX7_through 77 = .ok (.iastore, 1) := by decide +kernel
theorem dX7_through_78 : decode cX7_through 78 = .ok (.iload_n 3, 1) := by decide +kernel
theorem dX7_through_79 : decode cX7_through 79 = .ok (.iload 5, 2) := by decide +kernel
theorem dX7_through_81 : decode cX7_through 81 = .ok (.if_icmp .eq 7, 3) := by decide +kernel
theorem dX7_through_84 : decode cX7_through 84 = .ok (.iconst 1, 1) := by decide +kernel
theorem dX7_through_85 : decode cX7_through 85 = .ok (.goto 4, 3) := by decide +kernel
theorem dX7_through_88 : decode cX7_through 88 = .ok (.iconst 0, 1) := by decide +kernel
theorem dX7_through_89 : decode cX7_through 89 = .ok (.istore 6, 2) := by decide +kernel
theorem dX7_through_91 : decode cX7_through 91 = .ok (.aload_n 0, 1) := by decide +kernel
theorem dX7_through_92 : decode cX7_through 92 = .ok (.iload 4, 2) := by decide +kernel
theorem dX7_through_94 : decode cX7_through 94 = .ok (.iconst 2, 1) := by decide +kernel
theorem dX7_through_95 : decode cX7_through 95 = .ok (.iadd, 1) := by decide +kernel
theorem dX7_through_96 : decode cX7_through 96 = .ok (.dup2, 1) := by decide +kernel
theorem dX7_through_97 : decode cX7_through 97 = .ok (.iaload, 1) := by decide +kernel
theorem dX7_through_98 : decode cX7_through 98 = .ok (.iload 6, 2) := by decide +kernel
theorem dX7_through_100 : decode cX7_through 100 = .ok (.ifCond .eq 7, 3) := by decide +kernel
theorem dX7_through_103 : decode cX7_through 103 = .ok (.iconst 1, 1) := by decide +kernel
theorem dX7_through_104 : decode cX7_through 104 = .ok (.goto 4, 3) := by decide +kernel
theorem dX7_through_107 : decode cX7_through 107 = .ok (.iconst 0, 1) := by decide +kernel
theorem dX7_through_108 : decode cX7_through 108 = .ok (.iadd, 1) := by decide +kernel
theorem dX7_through_109 : decode cX7_through 109 = .ok (.iastore, 1) := by decide +kernel
theorem dX7_through_110 : decode cX7_through 110 = .ok (.iload 6, 2) := by decide +kernel
theorem dX7_through_112 : decode cX7_through 112 = .ok (.ifCond .eq 24, 3) := by decide +kernel
theorem dX7_through_115 : decode cX7_through 115 = .ok (.iload_n 2, 1) := by decide +kernel
theorem dX7_through_116 : decode cX7_through 116 = .ok (.iconst 2, 1) := by decide +kernel
theorem dX7_through_117 : decode cX7_through 117 = .ok (.if_icmp .eq 15, 3) := by decide +kernel
theorem dX7_through_120 : decode cX7_through 120 = .ok (.aload_n 0, 1) := by decide +kernel
theorem dX7_through_121 : decode cX7_through 121 = .ok (.iload 4, 2) := by decide +kernel
theorem dX7_through_123 : decode cX7_through 123 = .ok (.iconst 2, 1) := by decide +kernel
theorem dX7_through_124 : decode cX7_through 124 = .ok (.iadd, 1) := by decide +kernel
theorem dX7_through_125 : decode cX7_through 125 = .ok (.iaload, 1) := by decide +kernel
theorem dX7_through_126 : decode cX7_through 126 = .ok (.iconst 2, 1) := by decide +kernel
theorem dX7_through_127 : decode cX7_through 127 = .ok (.irem, 1) := by decide +kernel
theorem dX7_through_128 : decode cX7_through 128 = .ok (.iconst 1, 1) := by decide +kernel
theorem dX7_through_129 : decode cX7_through 129 = .ok (.if_icmp .ne 7, 3) := by decide +kernel
theorem dX7_through_132 : decode cX7_through 132 = .ok (.iconst 1, 1) := by decide +kernel
theorem dX7_through_133 : decode cX7_through 133 = .ok (.goto 4, 3) := by decide +kernel
theorem dX7_through_136 : decode cX7_through 136 = .ok (.iconst 0, 1) := by decide +kernel
theorem dX7_through_137 : decode cX7_through 137 = .ok (.istore 6, 2) := by decide +kernel
theorem dX7_through_139 : decode cX7_through 139 = .ok (.aload_n 0, 1) := by decide +kernel
theorem dX7_through_140 : decode cX7_through 140 = .ok (.iload 4, 2) := by decide +kernel
theorem dX7_through_142 : decode cX7_through 142 = .ok (.iconst 3, 1) := by decide +kernel
theorem dX7_through_143 : decode cX7_through 143 = .ok (.iadd, 1) := by decide +kernel
theorem dX7_through_144 : decode cX7_through 144 = .ok (.dup2, 1) := by decide +kernel
theorem dX7_through_145 : decode cX7_through 145 = .ok (.iaload, 1) := by decide +kernel
theorem dX7_through_146 : decode cX7_through 146 = .ok (.iload 6, 2) := by decide +kernel
theorem dX7_through_148 : decode cX7_through 148 = .ok (.ifCond .eq 7, 3) := by decide +kernel
theorem dX7_through_151 : decode cX7_through 151 = .ok (.iconst 0, 1) := by decide +kernel
theorem dX7_through_152 : decode cX7_through 152 = .ok (.goto 4, 3) := by decide +kernel
theorem dX7_through_155 : decode cX7_through 155 = .ok (.iconst 1, 1) := by decide +kernel
theorem dX7_through_156 : decode cX7_through 156 = .ok (.iadd, 1) := by decide +kernel
theorem dX7_through_157 : decode cX7_through 157 = .ok (.iastore, 1) := by decide +kernel
theorem dX7_through_158 : decode cX7_through 158 = .ok (.iload 6, 2) := by decide +kernel
theorem dX7_through_160 : decode cX7_through 160 = .ok (.ifCond .eq 7, 3) := by decide +kernel
theorem dX7_through_163 : decode cX7_through 163 = .ok (.iload_n 3, 1) := by decide +kernel
theorem dX7_through_164 : decode cX7_through 164 = .ok (.goto 4, 3) := by decide +kernel
theorem dX7_through_167 : decode cX7_through 167 = .ok (.iconst (-1), 1) := by decide +kernel
theorem dX7_through_168 : decode cX7_through 168 = .ok (.ireturn, 1) := by decide +kernel
theorem dX7_runs_0 : decode cX7_runs 0 = .ok (.iload_n 3, 1) := by decide +kernel
theorem dX7_runs_1 : decode cX7_runs 1 = .ok (.istore 5, 2) := by decide +kernel
theorem dX7_runs_3 : decode cX7_runs 3 = .ok (.iload 4, 2) := by decide +kernel
theorem dX7_runs_5 : decode cX7_runs 5 = .ok (.istore 6, 2) := by decide +kernel
theorem dX7_runs_7 : decode cX7_runs 7 = .ok (.aload_n 0, 1) := by decide +kernel
theorem dX7_runs_8 : decode cX7_runs 8 = .ok (.iload 5, 2) := by decide +kernel
theorem dX7_runs_10 : decode cX7_runs 10 = .ok (.aload_n 1, 1) := by decide +kernel
theorem dX7_runs_11 : decode cX7_runs 11 = .ok (.iload 5, 2) := by decide +kernel
theorem dX7_runs_13 : decode cX7_runs 13 = .ok (.iaload, 1) := by decide +kernel
theorem dX7_runs_14 : decode cX7_runs 14 = .ok (.iload 6, 2) := by decide +kernel
theorem dX7_runs_16 : decode cX7_runs 16 = .ok (.invokestatic 129, 3) := by decide +kernel
theorem dX7_runs_19 : decode cX7_runs 19 = .ok (.istore 6, 2) := by decide +kernel
theorem dX7_runs_21 : decode cX7_runs 21 = .ok (.iload 6, 2) := by decide +kernel
theorem dX7_runs_23 : decode cX7_runs 23 = .ok (.iconst (-1), 1) := by decide +kernel
theorem dX7_runs_24 : decode cX7_runs 24 = .ok (.if_icmp .ne 5, 3) := by decide +kernel
theorem dX7_runs_27 : decode cX7_runs 27 = .ok (.iconst (-1), 1) := by decide +kernel
theorem dX7_runs_28 : decode cX7_runs 28 = .ok (.ireturn, 1) := by decide +kernel
theorem dX7_runs_29 : decode cX7_runs 29 = .ok (.aload_n 2, 1) := by decide +kernel
theorem dX7_runs_30 : decode cX7_runs 30 = .ok (.iload 5, 2) := by decide +kernel
theorem dX7_runs_32 : decode cX7_runs 32 = .ok (.iaload, 1) := by decide +kernel
theorem dX7_runs_33 : decode cX7_runs 33 = .ok (.iconst (-1), 1) := by decide +kernel
theorem dX7_runs_34 : decode cX7_runs 34 = .ok (.if_icmp .ne 44, 3) := by decide +kernel
theorem dX7_runs_37 : decode cX7_runs 37 = .ok (.aload_n 0, 1) := by decide +kernel
theorem dX7_runs_38 : decode cX7_runs 38 = .ok (.bipush 17, 2) := by decide +kernel
theorem dX7_runs_40 : decode cX7_runs 40 = .ok (.iload 5, 2) := by decide +kernel
theorem dX7_runs_42 : decode cX7_runs 42 = .ok (.imul, 1) := by decide +kernel
theorem dX7_runs_43 : decode cX7_runs 43 = .ok (.iconst 4, 1) := by decide +kernel
theorem dX7_runs_44 : decode cX7_runs 44 = .ok (.iadd, 1) := by decide +kernel
theorem dX7_runs_45 : decode cX7_runs 45 = .ok (.iaload, 1) := by decide +kernel
theorem dX7_runs_46 : decode cX7_runs 46 = .ok (.istore 7, 2) := by decide +kernel
theorem dX7_runs_48 : decode cX7_runs 48 = .ok (.aload_n 0, 1) := by decide +kernel
theorem dX7_runs_49 : decode cX7_runs 49 = .ok (.bipush 17, 2) := by decide +kernel
theorem dX7_runs_51 : decode cX7_runs 51 = .ok (.iload 5, 2) := by decide +kernel
theorem dX7_runs_53 : decode cX7_runs 53 = .ok (.imul, 1) := by decide +kernel
theorem dX7_runs_54 : decode cX7_runs 54 = .ok (.iconst 5, 1) := by decide +kernel
theorem dX7_runs_55 : decode cX7_runs 55 = .ok (.iadd, 1) := by decide +kernel
theorem dX7_runs_56 : decode cX7_runs 56 = .ok (.iload 7, 2) := by decide +kernel
theorem dX7_runs_58 : decode cX7_runs 58 = .ok (.iadd, 1) := by decide +kernel
theorem dX7_runs_59 : decode cX7_runs 59 = .ok (.iload 6, 2) := by decide +kernel
theorem dX7_runs_61 : decode cX7_runs 61 = .ok (.iastore, 1) := by decide +kernel
theorem dX7_runs_62 : decode cX7_runs 62 = .ok (.aload_n 0, 1) := by decide +kernel
theorem dX7_runs_63 : decode cX7_runs 63 = .ok (.bipush 17, 2) := by decide +kernel
theorem dX7_runs_65 : decode cX7_runs 65 = .ok (.iload 5, 2) := by decide +kernel
theorem dX7_runs_67 : decode cX7_runs 67 = .ok (.imul, 1) := by decide +kernel
theorem dX7_runs_68 : decode cX7_runs 68 = .ok (.iconst 4, 1) := by decide +kernel
theorem dX7_runs_69 : decode cX7_runs 69 = .ok (.iadd, 1) := by decide +kernel
theorem dX7_runs_70 : decode cX7_runs 70 = .ok (.dup2, 1) := by decide +kernel
theorem dX7_runs_71 : decode cX7_runs 71 = .ok (.iaload, 1) := by decide +kernel
theorem dX7_runs_72 : decode cX7_runs 72 = .ok (.iconst 1, 1) := by decide +kernel
theorem dX7_runs_73 : decode cX7_runs 73 = .ok (.iadd, 1) := by decide +kernel
theorem dX7_runs_74 : decode cX7_runs 74 = .ok (.iastore, 1) := by decide +kernel
theorem dX7_runs_75 : decode cX7_runs 75 = .ok (.iload 5, 2) := by decide +kernel
theorem dX7_runs_77 : decode cX7_runs 77 = .ok (.ireturn, 1) := by decide +kernel
theorem dX7_runs_78 : decode cX7_runs 78 = .ok (.aload_n 2, 1) := by decide +kernel
theorem dX7_runs_79 : decode cX7_runs 79 = .ok (.iload 5, 2) := by decide +kernel
theorem dX7_runs_81 : decode cX7_runs 81 = .ok (.iaload, 1) := by decide +kernel
theorem dX7_runs_82 : decode cX7_runs 82 = .ok (.istore 5, 2) := by decide +kernel
theorem dX7_runs_84 : decode cX7_runs 84 = .ok (.goto (-77), 3) := by decide +kernel
theorem dX7_drop_0 : decode cX7_drop 0 = .ok (.aload_n 0, 1) := by decide +kernel
theorem dX7_drop_1 : decode cX7_drop 1 = .ok (.iload_n 1, 1) := by decide +kernel
theorem dX7_drop_2 : decode cX7_drop 2 = .ok (.invokevirtual 119, 3) := by decide +kernel
theorem dX7_drop_5 : decode cX7_drop 5 = .ok (.ifCond .ne 6, 3) := by decide +kernel
theorem dX7_drop_8 : decode cX7_drop 8 = .ok (.bipush (-101), 2) := by decide +kernel
theorem dX7_drop_10 : decode cX7_drop 10 = .ok (.ireturn, 1) := by decide +kernel
theorem dX7_drop_11 : decode cX7_drop 11 = .ok (.iload_n 2, 1) := by decide +kernel
theorem dX7_drop_12 : decode cX7_drop 12 = .ok (.i2l, 1) := by decide +kernel
theorem dX7_drop_13 : decode cX7_drop 13 = .ok (.lconst 0, 1) := by decide +kernel
theorem dX7_drop_14 : decode cX7_drop 14 = .ok (.ldc2_w 127, 3) := by decide +kernel
theorem dX7_drop_17 : decode cX7_drop 17 = .ok (.invokestatic 77, 3) := by decide +kernel
theorem dX7_drop_20 : decode cX7_drop 20 = .ok (.ifCond .ne 6, 3) := by decide +kernel
theorem dX7_drop_23 : decode cX7_drop 23 = .ok (.bipush (-102), 2) := by decide +kernel
theorem dX7_drop_25 : decode cX7_drop 25 = .ok (.ireturn, 1) := by decide +kernel
theorem dX7_drop_26 : decode cX7_drop 26 = .ok (.aload_n 0, 1) := by decide +kernel
theorem dX7_drop_27 : decode cX7_drop 27 = .ok (.getfield 109, 3) := by decide +kernel
theorem dX7_drop_30 : decode cX7_drop 30 = .ok (.bipush 12, 2) := by decide +kernel
theorem dX7_drop_32 : decode cX7_drop 32 = .ok (.if_icmp .ne 6, 3) := by decide +kernel
theorem dX7_drop_35 : decode cX7_drop 35 = .ok (.bipush (-104), 2) := by decide +kernel
theorem dX7_drop_37 : decode cX7_drop 37 = .ok (.ireturn, 1) := by decide +kernel
theorem dX7_drop_38 : decode cX7_drop 38 = .ok (.aload_n 0, 1) := by decide +kernel
theorem dX7_drop_39 : decode cX7_drop 39 = .ok (.getfield 22, 3) := by decide +kernel
theorem dX7_drop_42 : decode cX7_drop 42 = .ok (.aload_n 0, 1) := by decide +kernel
theorem dX7_drop_43 : decode cX7_drop 43 = .ok (.getfield 109, 3) := by decide +kernel
theorem dX7_drop_46 : decode cX7_drop 46 = .ok (.iload_n 1, 1) := by decide +kernel
theorem dX7_drop_47 : decode cX7_drop 47 = .ok (.iastore, 1) := by decide +kernel
theorem dX7_drop_48 : decode cX7_drop 48 = .ok (.aload_n 0, 1) := by decide +kernel
theorem dX7_drop_49 : decode cX7_drop 49 = .ok (.getfield 25, 3) := by decide +kernel
theorem dX7_drop_52 : decode cX7_drop 52 = .ok (.aload_n 0, 1) := by decide +kernel
theorem dX7_drop_53 : decode cX7_drop 53 = .ok (.getfield 109, 3) := by decide +kernel
theorem dX7_drop_56 : decode cX7_drop 56 = .ok (.iload_n 2, 1) := by decide +kernel
theorem dX7_drop_57 : decode cX7_drop 57 = .ok (.iastore, 1) := by decide +kernel
theorem dX7_drop_58 : decode cX7_drop 58 = .ok (.aload_n 0, 1) := by decide +kernel
theorem dX7_drop_59 : decode cX7_drop 59 = .ok (.dup, 1) := by decide +kernel
theorem dX7_drop_60 : decode cX7_drop 60 = .ok (.getfield 109, 3) := by decide +kernel
theorem dX7_drop_63 : decode cX7_drop 63 = .ok (.iconst 1, 1) := by decide +kernel
theorem dX7_drop_64 : decode cX7_drop 64 = .ok (.iadd, 1) := by decide +kernel
theorem dX7_drop_65 : decode cX7_drop 65 = .ok (.putfield 109, 3) := by decide +kernel
theorem dX7_drop_68 : decode cX7_drop 68 = .ok (.aload_n 0, 1) := by decide +kernel
theorem dX7_drop_69 : decode cX7_drop 69 = .ok (.getfield 19, 3) := by decide +kernel
theorem dX7_drop_72 : decode cX7_drop 72 = .ok (.aload_n 0, 1) := by decide +kernel
theorem dX7_drop_73 : decode cX7_drop 73 = .ok (.getfield 13, 3) := by decide +kernel
theorem dX7_drop_76 : decode cX7_drop 76 = .ok (.aload_n 0, 1) := by decide +kernel
theorem dX7_drop_77 : decode cX7_drop 77 = .ok (.getfield 16, 3) := by decide +kernel
theorem dX7_drop_80 : decode cX7_drop 80 = .ok (.iload_n 1, 1) := by decide +kernel
theorem dX7_drop_81 : decode cX7_drop 81 = .ok (.iload_n 2, 1) := by decide +kernel
theorem dX7_drop_82 : decode cX7_drop 82 = .ok (.invokestatic 133, 3) := by decide +kernel
theorem dX7_drop_85 : decode cX7_drop 85 = .ok (.ireturn, 1) := by decide +kernel
theorem dX7_rain_0 : decode cX7_rain 0 = .ok (.iload_n 1, 1) := by decide +kernel
theorem dX7_rain_1 : decode cX7_rain 1 = .ok (.i2l, 1) := by decide +kernel
theorem dX7_rain_2 : decode cX7_rain 2 = .ok (.lconst 0, 1) := by decide +kernel
theorem dX7_rain_3 : decode cX7_rain 3 = .ok (.aload_n 0, 1) := by decide +kernel
theorem dX7_rain_4 : decode cX7_rain 4 = .ok (.getfield 109, 3) := by decide +kernel
theorem dX7_rain_7 : decode cX7_rain 7 = .ok (.iconst 1, 1) := by decide +kernel
theorem dX7_rain_8 : decode cX7_rain 8 = .ok (.isub, 1) := by decide +kernel
theorem dX7_rain_9 : decode cX7_rain 9 = .ok (.i2l, 1) := by decide +kernel
theorem dX7_rain_10 : decode cX7_rain 10 = .ok (.invokestatic 77, 3) := by decide +kernel
theorem dX7_rain_13 : decode cX7_rain 13 = .ok (.ifCond .ne 6, 3) := by decide +kernel
theorem dX7_rain_16 : decode cX7_rain 16 = .ok (.bipush (-101), 2) := by decide +kernel
theorem dX7_rain_18 : decode cX7_rain 18 = .ok (.ireturn, 1) := by decide +kernel
theorem dX7_rain_19 : decode cX7_rain 19 = .ok (.iload_n 2, 1) := by decide +kernel
theorem dX7_rain_20 : decode cX7_rain 20 = .ok (.ifCond .ne 12, 3) := by decide +kernel
theorem dX7_rain_23 : decode cX7_rain 23 = .ok (.aload_n 0, 1) := by decide +kernel
theorem dX7_rain_24 : decode cX7_rain 24 = .ok (.getfield 22, 3) := by decide +kernel
theorem dX7_rain_27 : decode cX7_rain 27 = .ok (.iload_n 1, 1) := by decide +kernel
theorem dX7_rain_28 : decode cX7_rain 28 = .ok (.iaload, 1) := by decide +kernel
theorem dX7_rain_29 : decode cX7_rain 29 = .ok (.goto 19, 3) := by decide +kernel
theorem dX7_rain_32 : decode cX7_rain 32 = .ok (.iload_n 2, 1) := by decide +kernel
theorem dX7_rain_33 : decode cX7_rain 33 = .ok (.iconst 1, 1) := by decide +kernel
theorem dX7_rain_34 : decode cX7_rain 34 = .ok (.if_icmp .ne 12, 3) := by decide +kernel
theorem dX7_rain_37 : decode cX7_rain 37 = .ok (.aload_n 0, 1) := by decide +kernel
theorem dX7_rain_38 : decode cX7_rain 38 = .ok (.getfield 25, 3) := by decide +kernel
theorem dX7_rain_41 : decode cX7_rain 41 = .ok (.iload_n 1, 1) := by decide +kernel
theorem dX7_rain_42 : decode cX7_rain 42 = .ok (.iaload, 1) := by decide +kernel
theorem dX7_rain_43 : decode cX7_rain 43 = .ok (.goto 5, 3) := by decide +kernel
theorem dX7_rain_46 : decode cX7_rain 46 = .ok (.bipush (-102), 2) := by decide +kernel
theorem dX7_rain_48 : decode cX7_rain 48 = .ok (.ireturn, 1) := by decide +kernel
theorem dX7_dry_0 : decode cX7_dry 0 = .ok (.aload_n 0, 1) := by decide +kernel
theorem dX7_dry_1 : decode cX7_dry 1 = .ok (.getfield 101, 3) := by decide +kernel
theorem dX7_dry_4 : decode cX7_dry 4 = .ok (.ifCond .ne 6, 3) := by decide +kernel
theorem dX7_dry_7 : decode cX7_dry 7 = .ok (.bipush (-103), 2) := by decide +kernel
theorem dX7_dry_9 : decode cX7_dry 9 = .ok (.ireturn, 1) := by decide +kernel
theorem dX7_dry_10 : decode cX7_dry 10 = .ok (.aload_n 0, 1) := by decide +kernel
theorem dX7_dry_11 : decode cX7_dry 11 = .ok (.getfield 109, 3) := by decide +kernel
theorem dX7_dry_14 : decode cX7_dry 14 = .ok (.istore_n 1, 1) := by decide +kernel
theorem dX7_dry_15 : decode cX7_dry 15 = .ok (.aload_n 0, 1) := by decide +kernel
theorem dX7_dry_16 : decode cX7_dry 16 = .ok (.getfield 19, 3) := by decide +kernel
theorem dX7_dry_19 : decode cX7_dry 19 = .ok (.invokestatic 105, 3) := by decide +kernel
theorem dX7_dry_22 : decode cX7_dry 22 = .ok (.aload_n 0, 1) := by decide +kernel
theorem dX7_dry_23 : decode cX7_dry 23 = .ok (.iconst 0, 1) := by decide +kernel
theorem dX7_dry_24 : decode cX7_dry 24 = .ok (.putfield 109, 3) := by decide +kernel
theorem dX7_dry_27 : decode cX7_dry 27 = .ok (.iload_n 1, 1) := by decide +kernel
theorem dX7_dry_28 : decode cX7_dry 28 = .ok (.ireturn, 1) := by decide +kernel
theorem dX7_turn_0 : decode cX7_turn 0 = .ok (.aload_n 0, 1) := by decide +kernel
theorem dX7_turn_1 : decode cX7_turn 1 = .ok (.iload_n 1, 1) := by decide +kernel
theorem dX7_turn_2 : decode cX7_turn 2 = .ok (.invokevirtual 119, 3) := by decide +kernel
theorem dX7_turn_5 : decode cX7_turn 5 = .ok (.ifCond .ne 6, 3) := by decide +kernel
theorem dX7_turn_8 : decode cX7_turn 8 = .ok (.bipush (-101), 2) := by decide +kernel
theorem dX7_turn_10 : decode cX7_turn 10 = .ok (.ireturn, 1) := by decide +kernel
theorem dX7_turn_11 : decode cX7_turn 11 = .ok (.iload_n 2, 1) := by decide +kernel
theorem dX7_turn_12 : decode cX7_turn 12 = .ok (.iconst (-1), 1) := by decide +kernel
theorem dX7_turn_13 : decode cX7_turn 13 = .ok (.if_icmp .eq 21, 3) := by decide +kernel
theorem dX7_turn_16 : decode cX7_turn 16 = .ok (.iload_n 2, 1) := by decide +kernel
theorem dX7_turn_17 : decode cX7_turn 17 = .ok (.i2l, 1) := by decide +kernel
theorem dX7_turn_18 : decode cX7_turn 18 = .ok (.iload_n 1, 1) := by decide +kernel
theorem dX7_turn_19 : decode cX7_turn 19 = .ok (.iconst 1, 1) := by decide +kernel
theorem dX7_turn_20 : decode cX7_turn 20 = .ok (.iadd, 1) := by decide +kernel
theorem dX7_turn_21 : decode cX7_turn 21 = .ok (.i2l, 1) := by decide +kernel
theorem dX7_turn_22 : decode cX7_turn 22 = .ok (.ldc2_w 88, 3) := by decide +kernel
theorem dX7_turn_25 : decode cX7_turn 25 = .ok (.invokestatic 77, 3) := by decide +kernel
theorem dX7_turn_28 : decode cX7_turn 28 = .ok (.ifCond .ne 6, 3) := by decide +kernel
theorem dX7_turn_31 : decode cX7_turn 31 = .ok (.bipush (-102), 2) := by decide +kernel
theorem dX7_turn_33 : decode cX7_turn 33 = .ok (.ireturn, 1) := by decide +kernel
theorem dX7_turn_34 : decode cX7_turn 34 = .ok (.aload_n 0, 1) := by decide +kernel
theorem dX7_turn_35 : decode cX7_turn 35 = .ok (.getfield 16, 3) := by decide +kernel
theorem dX7_turn_38 : decode cX7_turn 38 = .ok (.iload_n 1, 1) := by decide +kernel
theorem dX7_turn_39 : decode cX7_turn 39 = .ok (.iaload, 1) := by decide +kernel
theorem dX7_turn_40 : decode cX7_turn 40 = .ok (.istore_n 3, 1) := by decide +kernel
theorem dX7_turn_41 : decode cX7_turn 41 = .ok (.aload_n 0, 1) := by decide +kernel
theorem dX7_turn_42 : decode cX7_turn 42 = .ok (.getfield 16, 3) := by decide +kernel
theorem dX7_turn_45 : decode cX7_turn 45 = .ok (.iload_n 1, 1) := by decide +kernel
theorem dX7_turn_46 : decode cX7_turn 46 = .ok (.iload_n 2, 1) := by decide +kernel
theorem dX7_turn_47 : decode cX7_turn 47 = .ok (.iastore, 1) := by decide +kernel
theorem dX7_turn_48 : decode cX7_turn 48 = .ok (.iload_n 3, 1) := by decide +kernel
theorem dX7_turn_49 : decode cX7_turn 49 = .ok (.ireturn, 1) := by decide +kernel
theorem dX7_asItIs_0 : decode cX7_asItIs 0 = .ok (.aload_n 0, 1) := by decide +kernel
theorem dX7_asItIs_1 : decode cX7_asItIs 1 = .ok (.getfield 13, 3) := by decide +kernel
theorem dX7_asItIs_4 : decode cX7_asItIs 4 = .ok (.aload_n 0, 1) := by decide +kernel
theorem dX7_asItIs_5 : decode cX7_asItIs 5 = .ok (.getfield 31, 3) := by decide +kernel
theorem dX7_asItIs_8 : decode cX7_asItIs 8 = .ok (.invokestatic 137, 3) := by decide +kernel
theorem dX7_asItIs_11 : decode cX7_asItIs 11 = .ok (.aload_n 0, 1) := by decide +kernel
theorem dX7_asItIs_12 : decode cX7_asItIs 12 = .ok (.getfield 16, 3) := by decide +kernel
theorem dX7_asItIs_15 : decode cX7_asItIs 15 = .ok (.aload_n 0, 1) := by decide +kernel
theorem dX7_asItIs_16 : decode cX7_asItIs 16 = .ok (.getfield 34, 3) := by decide +kernel
theorem dX7_asItIs_19 : decode cX7_asItIs 19 = .ok (.invokestatic 137, 3) := by decide +kernel
theorem dX7_asItIs_22 : decode cX7_asItIs 22 = .ok (.aload_n 0, 1) := by decide +kernel
theorem dX7_asItIs_23 : decode cX7_asItIs 23 = .ok (.getfield 25, 3) := by decide +kernel
theorem dX7_asItIs_26 : decode cX7_asItIs 26 = .ok (.aload_n 0, 1) := by decide +kernel
theorem dX7_asItIs_27 : decode cX7_asItIs 27 = .ok (.getfield 37, 3) := by decide +kernel
theorem dX7_asItIs_30 : decode cX7_asItIs 30 = .ok (.invokestatic 137, 3) := by decide +kernel
theorem dX7_asItIs_33 : decode cX7_asItIs 33 = .ok (.return_, 1) := by decide +kernel
theorem dX7_fallsAgain_0 : decode cX7_fallsAgain 0 = .ok (.aload_n 0, 1) := by decide +kernel
theorem dX7_fallsAgain_1 : decode cX7_fallsAgain 1 = .ok (.getfield 28, 3) := by decide +kernel
theorem dX7_fallsAgain_4 : decode cX7_fallsAgain 4 = .ok (.invokestatic 105, 3) := by decide +kernel
theorem dX7_fallsAgain_7 : decode cX7_fallsAgain 7 = .ok (.iconst 0, 1) := by decide +kernel
theorem dX7_fallsAgain_8 : decode cX7_fallsAgain 8 = .ok (.istore_n 1, 1) := by decide +kernel
theorem dX7_fallsAgain_9 : decode cX7_fallsAgain 9 = .ok (.iload_n 1, 1) := by decide +kernel
theorem dX7_fallsAgain_10 : decode cX7_fallsAgain 10 = .ok (.aload_n 0, 1) := by decide +kernel
theorem dX7_fallsAgain_11 : decode cX7_fallsAgain 11 = .ok (.getfield 109, 3) := by decide +kernel
theorem dX7_fallsAgain_14 : decode cX7_fallsAgain 14 = .ok (.if_icmp .ge 37, 3) := by decide +kernel
theorem dX7_fallsAgain_17 : decode cX7_fallsAgain 17 = .ok (.aload_n 0, 1) := by decide +kernel
theorem dX7_fallsAgain_18 : decode cX7_fallsAgain 18 = .ok (.getfield 28, 3) := by decide +kernel
theorem dX7_fallsAgain_21 : decode cX7_fallsAgain 21 = .ok (.aload_n 0, 1) := by decide +kernel
theorem dX7_fallsAgain_22 : decode cX7_fallsAgain 22 = .ok (.getfield 31, 3) := by decide +kernel
theorem dX7_fallsAgain_25 : decode cX7_fallsAgain 25 = .ok (.aload_n 0, 1) := by decide +kernel
theorem dX7_fallsAgain_26 : decode cX7_fallsAgain 26 = .ok (.getfield 34, 3) := by decide +kernel
theorem dX7_fallsAgain_29 : decode cX7_fallsAgain 29 = .ok (.aload_n 0, 1) := by decide +kernel
theorem dX7_fallsAgain_30 : decode cX7_fallsAgain 30 = .ok (.getfield 22, 3) := by decide +kernel
theorem dX7_fallsAgain_33 : decode cX7_fallsAgain 33 = .ok (.iload_n 1, 1) := by decide +kernel
theorem dX7_fallsAgain_34 : decode cX7_fallsAgain 34 = .ok (.iaload, 1) := by decide +kernel
theorem dX7_fallsAgain_35 : decode cX7_fallsAgain 35 = .ok (.aload_n 0, 1) := by decide +kernel
theorem dX7_fallsAgain_36 : decode cX7_fallsAgain 36 = .ok (.getfield 37, 3) := by decide +kernel
theorem dX7_fallsAgain_39 : decode cX7_fallsAgain 39 = .ok (.iload_n 1, 1) := by decide +kernel
theorem dX7_fallsAgain_40 : decode cX7_fallsAgain 40 = .ok (.iaload, 1) := by decide +kernel
theorem dX7_fallsAgain_41 : decode cX7_fallsAgain 41 = .ok (.invokestatic 133, 3) := by decide +kernel
theorem dX7_fallsAgain_44 : decode cX7_fallsAgain 44 = .ok (.istore_n 2, 1) := by decide +kernel
theorem dX7_fallsAgain_45 : decode cX7_fallsAgain 45 = .ok (.iinc 1 1, 3) := by decide +kernel
theorem dX7_fallsAgain_48 : decode cX7_fallsAgain 48 = .ok (.goto (-39), 3) := by decide +kernel
theorem dX7_fallsAgain_51 : decode cX7_fallsAgain 51 = .ok (.return_, 1) := by decide +kernel
theorem dX7_isPageWord_0 : decode cX7_isPageWord 0 = .ok (.aload_n 0, 1) := by decide +kernel
theorem dX7_isPageWord_1 : decode cX7_isPageWord 1 = .ok (.getfield 81, 3) := by decide +kernel
theorem dX7_isPageWord_4 : decode cX7_isPageWord 4 = .ok (.ifCond .le 19, 3) := by decide +kernel
theorem dX7_isPageWord_7 : decode cX7_isPageWord 7 = .ok (.aload_n 0, 1) := by decide +kernel
theorem dX7_isPageWord_8 : decode cX7_isPageWord 8 = .ok (.iconst 1, 1) := by decide +kernel
theorem dX7_isPageWord_9 : decode cX7_isPageWord 9 = .ok (.invokevirtual 98, 3) := by decide +kernel
theorem dX7_isPageWord_12 : decode cX7_isPageWord 12 = .ok (.aload_n 0, 1) := by decide +kernel
theorem dX7_isPageWord_13 : decode cX7_isPageWord 13 = .ok (.getfield 81, 3) := by decide +kernel
theorem dX7_isPageWord_16 : decode cX7_isPageWord 16 = .ok (.if_icmp .ne 7, 3) := by decide +kernel
theorem dX7_isPageWord_19 : decode cX7_isPageWord 19 = .ok (.iconst 1, 1) := by decide +kernel
theorem dX7_isPageWord_20 : decode cX7_isPageWord 20 = .ok (.goto 4, 3) := by decide +kernel
theorem dX7_isPageWord_23 : decode cX7_isPageWord 23 = .ok (.iconst 0, 1) := by decide +kernel
theorem dX7_isPageWord_24 : decode cX7_isPageWord 24 = .ok (.ireturn, 1) := by decide +kernel
theorem dX7_hasPage_0 : decode cX7_hasPage 0 = .ok (.aload_n 0, 1) := by decide +kernel
theorem dX7_hasPage_1 : decode cX7_hasPage 1 = .ok (.getfield 28, 3) := by decide +kernel
theorem dX7_hasPage_4 : decode cX7_hasPage 4 = .ok (.bipush 17, 2) := by decide +kernel
theorem dX7_hasPage_6 : decode cX7_hasPage 6 = .ok (.iload_n 1, 1) := by decide +kernel
theorem dX7_hasPage_7 : decode cX7_hasPage 7 = .ok (.imul, 1) := by decide +kernel
theorem dX7_hasPage_8 : decode cX7_hasPage 8 = .ok (.iconst 4, 1) := by decide +kernel
theorem dX7_hasPage_9 : decode cX7_hasPage 9 = .ok (.iadd, 1) := by decide +kernel
theorem dX7_hasPage_10 : decode cX7_hasPage 10 = .ok (.iaload, 1) := by decide +kernel
theorem dX7_hasPage_11 : decode cX7_hasPage 11 = .ok (.aload_n 0, 1) := by decide +kernel
theorem dX7_hasPage_12 : decode cX7_hasPage 12 = .ok (.getfield 81, 3) := by decide +kernel
theorem dX7_hasPage_15 : decode cX7_hasPage 15 = .ok (.if_icmp .ne 7, 3) := by decide +kernel
theorem dX7_hasPage_18 : decode cX7_hasPage 18 = .ok (.iconst 1, 1) := by decide +kernel
theorem dX7_hasPage_19 : decode cX7_hasPage 19 = .ok (.goto 4, 3) := by decide +kernel
theorem dX7_hasPage_22 : decode cX7_hasPage 22 = .ok (.iconst 0, 1) := by decide +kernel
theorem dX7_hasPage_23 : decode cX7_hasPage 23 = .ok (.istore_n 2, 1) := by decide +kernel
theorem dX7_hasPage_24 : decode cX7_hasPage 24 = .ok (.iconst 0, 1) := by decide +kernel
theorem dX7_hasPage_25 : decode cX7_hasPage 25 = .ok (.istore_n 3, 1) := by decide +kernel
theorem dX7_hasPage_26 : decode cX7_hasPage 26 = .ok (.iload_n 3, 1) := by decide +kernel
theorem dX7_hasPage_27 : decode cX7_hasPage 27 = .ok (.aload_n 0, 1) := by decide +kernel
theorem dX7_hasPage_28 : decode cX7_hasPage 28 = .ok (.getfield 81, 3) := by decide +kernel
theorem dX7_hasPage_31 : decode cX7_hasPage 31 = .ok (.if_icmp .ge 44, 3) := by decide +kernel
theorem dX7_hasPage_34 : decode cX7_hasPage 34 = .ok (.iload_n 2, 1) := by decide +kernel
theorem dX7_hasPage_35 : decode cX7_hasPage 35 = .ok (.ifCond .eq 40, 3) := by decide +kernel
theorem dX7_hasPage_38 : decode cX7_hasPage 38 = .ok (.aload_n 0, 1) := by decide +kernel
theorem dX7_hasPage_39 : decode cX7_hasPage 39 = .ok (.getfield 28, 3) := by decide +kernel
theorem dX7_hasPage_42 : decode cX7_hasPage 42 = .ok (.bipush 17, 2) := by decide +kernel
theorem dX7_hasPage_44 : decode cX7_hasPage 44 = .ok (.iload_n 1, 1) := by decide +kernel
theorem dX7_hasPage_45 : decode cX7_hasPage 45 = .ok (.imul, 1) := by decide +kernel
theorem dX7_hasPage_46 : decode cX7_hasPage 46 = .ok (.iconst 5, 1) := by decide +kernel
theorem dX7_hasPage_47 : decode cX7_hasPage 47 = .ok (.iadd, 1) := by decide +kernel
theorem dX7_hasPage_48 : decode cX7_hasPage 48 = .ok (.iload_n 3, 1) := by decide +kernel
theorem dX7_hasPage_49 : decode cX7_hasPage 49 = .ok (.iadd, 1) := by decide +kernel
theorem dX7_hasPage_50 : decode cX7_hasPage 50 = .ok (.iaload, 1) := by decide +kernel
theorem dX7_hasPage_51 : decode cX7_hasPage 51 = .ok (.aload_n 0, 1) := by decide +kernel
theorem dX7_hasPage_52 : decode cX7_hasPage 52 = .ok (.getfield 7, 3) := by decide +kernel
theorem dX7_hasPage_55 : decode cX7_hasPage 55 = .ok (.iload_n 3, 1) := by decide +kernel
theorem dX7_hasPage_56 : decode cX7_hasPage 56 = .ok (.iaload, 1) := by decide +kernel
theorem dX7_hasPage_57 : decode cX7_hasPage 57 = .ok (.bipush 97, 2) := by decide +kernel
theorem dX7_hasPage_59 : decode cX7_hasPage 59 = .ok (.isub, 1) := by decide +kernel
theorem dX7_hasPage_60 : decode cX7_hasPage 60 = .ok (.if_icmp .ne 7, 3) := by decide +kernel
theorem dX7_hasPage_63 : decode cX7_hasPage 63 = .ok (.iconst 1, 1) := by decide +kernel
theorem dX7_hasPage_64 : decode cX7_hasPage 64 = .ok (.goto 4, 3) := by decide +kernel
theorem dX7_hasPage_67 : decode cX7_hasPage 67 = .ok (.iconst 0, 1) := by decide +kernel
theorem dX7_hasPage_68 : decode cX7_hasPage 68 = .ok (.istore_n 2, 1) := by decide +kernel
theorem dX7_hasPage_69 : decode cX7_hasPage 69 = .ok (.iinc 3 1, 3) := by decide +kernel
theorem dX7_hasPage_72 : decode cX7_hasPage 72 = .ok (.goto (-46), 3) := by decide +kernel
theorem dX7_hasPage_75 : decode cX7_hasPage 75 = .ok (.iload_n 2, 1) := by decide +kernel
theorem dX7_hasPage_76 : decode cX7_hasPage 76 = .ok (.ireturn, 1) := by decide +kernel
theorem dX7_layWays_0 : decode cX7_layWays 0 = .ok (.iload_n 1, 1) := by decide +kernel
theorem dX7_layWays_1 : decode cX7_layWays 1 = .ok (.istore_n 2, 1) := by decide +kernel
theorem dX7_layWays_2 : decode cX7_layWays 2 = .ok (.iconst 0, 1) := by decide +kernel
theorem dX7_layWays_3 : decode cX7_layWays 3 = .ok (.istore_n 3, 1) := by decide +kernel
theorem dX7_layWays_4 : decode cX7_layWays 4 = .ok (.iconst 0, 1) := by decide +kernel
theorem dX7_layWays_5 : decode cX7_layWays 5 = .ok (.istore 4, 2) := by decide +kernel
theorem dX7_layWays_7 : decode cX7_layWays 7 = .ok (.iload 4, 2) := by decide +kernel
theorem dX7_layWays_9 : decode cX7_layWays 9 = .ok (.bipush 6, 2) := by decide +kernel
theorem dX7_layWays_11 : decode cX7_layWays 11 = .ok (.if_icmp .ge 76, 3) := by decide +kernel
theorem dX7_layWays_14 : decode cX7_layWays 14 = .ok (.bipush 6, 2) := by decide +kernel
theorem dX7_layWays_16 : decode cX7_layWays 16 = .ok (.iload 4, 2) := by decide +kernel
theorem dX7_layWays_18 : decode cX7_layWays 18 = .ok (.isub, 1) := by decide +kernel
theorem dX7_layWays_19 : decode cX7_layWays 19 = .ok (.istore 5, 2) := by decide +kernel
theorem dX7_layWays_21 : decode cX7_layWays 21 = .ok (.iload_n 2, 1) := by decide +kernel
theorem dX7_layWays_22 : decode cX7_layWays 22 = .ok (.iload 5, 2) := by decide +kernel
theorem dX7_layWays_24 : decode cX7_layWays 24 = .ok (.irem, 1) := by decide +kernel
theorem dX7_layWays_25 : decode cX7_layWays 25 = .ok (.istore 6, 2) := by decide +kernel
theorem dX7_layWays_27 : decode cX7_layWays 27 = .ok (.iload_n 2, 1) := by decide +kernel
theorem dX7_layWays_28 : decode cX7_layWays 28 = .ok (.iload 5, 2) := by decide +kernel
theorem dX7_layWays_30 : decode cX7_layWays 30 = .ok (.idiv, 1) := by decide +kernel
theorem dX7_layWays_31 : decode cX7_layWays 31 = .ok (.istore_n 2, 1) := by decide +kernel
theorem dX7_layWays_32 : decode cX7_layWays 32 = .ok (.aload_n 0, 1) := by decide +kernel
theorem dX7_layWays_33 : decode cX7_layWays 33 = .ok (.getfield 34, 3) := by decide +kernel
theorem dX7_layWays_36 : decode cX7_layWays 36 = .ok (.iload 4, 2) := by decide +kernel
theorem dX7_layWays_38 : decode cX7_layWays 38 = .ok (.iload 6, 2) := by decide +kernel
theorem dX7_layWays_40 : decode cX7_layWays 40 = .ok (.ifCond .ne 7, 3) := by decide +kernel
theorem dX7_layWays_43 : decode cX7_layWays 43 = .ok (.iconst (-1), 1) := by decide +kernel
theorem dX7_layWays_44 : decode cX7_layWays 44 = .ok (.goto 8, 3) := by decide +kernel
theorem dX7_layWays_47 : decode cX7_layWays 47 = .ok (.iload 4, 2) := by decide +kernel
theorem dX7_layWays_49 : decode cX7_layWays 49 = .ok (.iload 6, 2) := by decide +kernel
theorem dX7_layWays_51 : decode cX7_layWays 51 = .ok (.iadd, 1) := by decide +kernel
theorem dX7_layWays_52 : decode cX7_layWays 52 = .ok (.iastore, 1) := by decide +kernel
theorem dX7_layWays_53 : decode cX7_layWays 53 = .ok (.iload_n 3, 1) := by decide +kernel
theorem dX7_layWays_54 : decode cX7_layWays 54 = .ok (.aload_n 0, 1) := by decide +kernel
theorem dX7_layWays_55 : decode cX7_layWays 55 = .ok (.getfield 34, 3) := by decide +kernel
theorem dX7_layWays_58 : decode cX7_layWays 58 = .ok (.iload 4, 2) := by decide +kernel
theorem dX7_layWays_60 : decode cX7_layWays 60 = .ok (.iaload, 1) := by decide +kernel
theorem dX7_layWays_61 : decode cX7_layWays 61 = .ok (.aload_n 0, 1) := by decide +kernel
theorem dX7_layWays_62 : decode cX7_layWays 62 = .ok (.getfield 16, 3) := by decide +kernel
theorem dX7_layWays_65 : decode cX7_layWays 65 = .ok (.iload 4, 2) := by decide +kernel
theorem dX7_layWays_67 : decode cX7_layWays 67 = .ok (.iaload, 1) := by decide +kernel
theorem dX7_layWays_68 : decode cX7_layWays 68 = .ok (.if_icmp .ne 7, 3) := by decide +kernel
theorem dX7_layWays_71 : decode cX7_layWays 71 = .ok (.iconst 0, 1) := by decide +kernel
theorem dX7_layWays_72 : decode cX7_layWays 72 = .ok (.goto 7, 3) := by decide +kernel
theorem dX7_layWays_75 : decode cX7_layWays 75 = .ok (.iconst 1, 1) := by decide +kernel
theorem dX7_layWays_76 : decode cX7_layWays 76 = .ok (.iload 4, 2) := by decide +kernel
theorem dX7_layWays_78 : decode cX7_layWays 78 = .ok (.ishl, 1) := by decide +kernel
theorem dX7_layWays_79 : decode cX7_layWays 79 = .ok (.ior, 1) := by decide +kernel
theorem dX7_layWays_80 : decode cX7_layWays 80 = .ok (.istore_n 3, 1) := by decide +kernel
theorem dX7_layWays_81 : decode cX7_layWays 81 = .ok (.iinc 4 1, 3) := by decide +kernel
theorem dX7_layWays_84 : decode cX7_layWays 84 = .ok (.goto (-77), 3) := by decide +kernel
theorem dX7_layWays_87 : decode cX7_layWays 87 = .ok (.iload_n 3, 1) := by decide +kernel
theorem dX7_layWays_88 : decode cX7_layWays 88 = .ok (.ireturn, 1) := by decide +kernel
theorem dX7_ones_0 : decode cX7_ones 0 = .ok (.iconst 0, 1) := by decide +kernel
theorem dX7_ones_1 : decode cX7_ones 1 = .ok (.istore_n 1, 1) := by decide +kernel
theorem dX7_ones_2 : decode cX7_ones 2 = .ok (.iconst 0, 1) := by decide +kernel
theorem dX7_ones_3 : decode cX7_ones 3 = .ok (.istore_n 2, 1) := by decide +kernel
theorem dX7_ones_4 : decode cX7_ones 4 = .ok (.iload_n 2, 1) := by decide +kernel
theorem dX7_ones_5 : decode cX7_ones 5 = .ok (.bipush 6, 2) := by decide +kernel
theorem dX7_ones_7 : decode cX7_ones 7 = .ok (.if_icmp .ge 17, 3) := by decide +kernel
theorem dX7_ones_10 : decode cX7_ones 10 = .ok (.iload_n 1, 1) := by decide +kernel
theorem dX7_ones_11 : decode cX7_ones 11 = .ok (.iload_n 0, 1) := by decide +kernel
theorem dX7_ones_12 : decode cX7_ones 12 = .ok (.iload_n 2, 1) := by decide +kernel
theorem dX7_ones_13 : decode cX7_ones 13 = .ok (.ishr, 1) := by decide +kernel
theorem dX7_ones_14 : decode cX7_ones 14 = .ok (.iconst 1, 1) := by decide +kernel
theorem dX7_ones_15 : decode cX7_ones 15 = .ok (.iand, 1) := by decide +kernel
theorem dX7_ones_16 : decode cX7_ones 16 = .ok (.iadd, 1) := by decide +kernel
theorem dX7_ones_17 : decode cX7_ones 17 = .ok (.istore_n 1, 1) := by decide +kernel
theorem dX7_ones_18 : decode cX7_ones 18 = .ok (.iinc 2 1, 3) := by decide +kernel
theorem dX7_ones_21 : decode cX7_ones 21 = .ok (.goto (-17), 3) := by decide +kernel
theorem dX7_ones_24 : decode cX7_ones 24 = .ok (.iload_n 1, 1) := by decide +kernel
theorem dX7_ones_25 : decode cX7_ones 25 = .ok (.ireturn, 1) := by decide +kernel
theorem dX7_fewTurns_0 : decode cX7_fewTurns 0 = .ok (.aload_n 0, 1) := by decide +kernel
theorem dX7_fewTurns_1 : decode cX7_fewTurns 1 = .ok (.iload_n 1, 1) := by decide +kernel
theorem dX7_fewTurns_2 : decode cX7_fewTurns 2 = .ok (.invokevirtual 119, 3) := by decide +kernel
theorem dX7_fewTurns_5 : decode cX7_fewTurns 5 = .ok (.ifCond .ne 6, 3) := by decide +kernel
theorem dX7_fewTurns_8 : decode cX7_fewTurns 8 = .ok (.bipush (-101), 2) := by decide +kernel
theorem dX7_fewTurns_10 : decode cX7_fewTurns 10 = .ok (.ireturn, 1) := by decide +kernel
theorem dX7_fewTurns_11 : decode cX7_fewTurns 11 = .ok (.iload_n 2, 1) := by decide +kernel
theorem dX7_fewTurns_12 : decode cX7_fewTurns 12 = .ok (.i2l, 1) := by decide +kernel
theorem dX7_fewTurns_13 : decode cX7_fewTurns 13 = .ok (.lconst 0, 1) := by decide +kernel
theorem dX7_fewTurns_14 : decode cX7_fewTurns 14 = .ok (.ldc2_w 141, 3) := by decide +kernel
theorem dX7_fewTurns_17 : decode cX7_fewTurns 17 = .ok (.invokestatic 77, 3) := by decide +kernel
theorem dX7_fewTurns_20 : decode cX7_fewTurns 20 = .ok (.ifCond .ne 6, 3) := by decide +kernel
theorem dX7_fewTurns_23 : decode cX7_fewTurns 23 = .ok (.bipush (-102), 2) := by decide +kernel
theorem dX7_fewTurns_25 : decode cX7_fewTurns 25 = .ok (.ireturn, 1) := by decide +kernel
theorem dX7_fewTurns_26 : decode cX7_fewTurns 26 = .ok (.aload_n 0, 1) := by decide +kernel
theorem dX7_fewTurns_27 : decode cX7_fewTurns 27 = .ok (.invokevirtual 143, 3) := by decide +kernel
theorem dX7_fewTurns_30 : decode cX7_fewTurns 30 = .ok (.ifCond .eq 12, 3) := by decide +kernel
theorem dX7_fewTurns_33 : decode cX7_fewTurns 33 = .ok (.aload_n 0, 1) := by decide +kernel
theorem dX7_fewTurns_34 : decode cX7_fewTurns 34 = .ok (.getfield 147, 3) := by decide +kernel
theorem dX7_fewTurns_37 : decode cX7_fewTurns 37 = .ok (.bipush 20, 2) := by decide +kernel
theorem dX7_fewTurns_39 : decode cX7_fewTurns 39 = .ok (.if_icmp .ne 6, 3) := by decide +kernel
theorem dX7_fewTurns_42 : decode cX7_fewTurns 42 = .ok (.bipush (-103), 2) := by decide +kernel
theorem dX7_fewTurns_44 : decode cX7_fewTurns 44 = .ok (.ireturn, 1) := by decide +kernel
theorem dX7_fewTurns_45 : decode cX7_fewTurns 45 = .ok (.aload_n 0, 1) := by decide +kernel
theorem dX7_fewTurns_46 : decode cX7_fewTurns 46 = .ok (.dup, 1) := by decide +kernel
theorem dX7_fewTurns_47 : decode cX7_fewTurns 47 = .ok (.getfield 147, 3) := by decide +kernel
theorem dX7_fewTurns_50 : decode cX7_fewTurns 50 = .ok (.iconst 1, 1) := by decide +kernel
theorem dX7_fewTurns_51 : decode cX7_fewTurns 51 = .ok (.iadd, 1) := by decide +kernel
theorem dX7_fewTurns_52 : decode cX7_fewTurns 52 = .ok (.putfield 147, 3) := by decide +kernel
theorem dX7_fewTurns_55 : decode cX7_fewTurns 55 = .ok (.aload_n 0, 1) := by decide +kernel
theorem dX7_fewTurns_56 : decode cX7_fewTurns 56 = .ok (.invokevirtual 150, 3) := by decide +kernel
theorem dX7_fewTurns_59 : decode cX7_fewTurns 59 = .ok (.iconst (-1), 1) := by decide +kernel
theorem dX7_fewTurns_60 : decode cX7_fewTurns 60 = .ok (.istore_n 3, 1) := by decide +kernel
theorem dX7_fewTurns_61 : decode cX7_fewTurns 61 = .ok (.iconst (-1), 1) := by decide +kernel
theorem dX7_fewTurns_62 : decode cX7_fewTurns 62 = .ok (.istore 4, 2) := by decide +kernel
theorem dX7_fewTurns_64 : decode cX7_fewTurns 64 = .ok (.iconst 0, 1) := by decide +kernel
theorem dX7_fewTurns_65 : decode cX7_fewTurns 65 = .ok (.istore 5, 2) := by decide +kernel
theorem dX7_fewTurns_67 : decode cX7_fewTurns 67 = .ok (.iload 5, 2) := by decide +kernel
theorem dX7_fewTurns_69 : decode cX7_fewTurns 69 = .ok (.sipush 720, 3) := by decide +kernel
theorem dX7_fewTurns_72 : decode cX7_fewTurns 72 = .ok (.if_icmp .ge 125, 3) := by decide +kernel
theorem dX7_fewTurns_75 : decode cX7_fewTurns 75 = .ok (.aload_n 0, 1) := by decide +kernel
theorem dX7_fewTurns_76 : decode cX7_fewTurns 76 = .ok (.iload 5, 2) := by decide +kernel
theorem dX7_fewTurns_78 : decode cX7_fewTurns 78 = .ok (.invokevirtual 153, 3) := by decide +kernel
theorem dX7_fewTurns_81 : decode cX7_fewTurns 81 = .ok (.istore 6, 2) := by decide +kernel
theorem dX7_fewTurns_83 : decode cX7_fewTurns 83 = .ok (.aload_n 0, 1) := by decide +kernel
theorem dX7_fewTurns_84 : decode cX7_fewTurns 84 = .ok (.getfield 34, 3) := by decide +kernel
theorem dX7_fewTurns_87 : decode cX7_fewTurns 87 = .ok (.iload_n 1, 1) := by decide +kernel
theorem dX7_fewTurns_88 : decode cX7_fewTurns 88 = .ok (.iaload, 1) := by decide +kernel
theorem dX7_fewTurns_89 : decode cX7_fewTurns 89 = .ok (.iconst (-1), 1) := by decide +kernel
theorem dX7_fewTurns_90 : decode cX7_fewTurns 90 = .ok (.if_icmp .ne 24, 3) := by decide +kernel
theorem dX7_fewTurns_93 : decode cX7_fewTurns 93 = .ok (.iload_n 3, 1) := by decide +kernel
theorem dX7_fewTurns_94 : decode cX7_fewTurns 94 = .ok (.iconst (-1), 1) := by decide +kernel
theorem dX7_fewTurns_95 : decode cX7_fewTurns 95 = .ok (.if_icmp .eq 15, 3) := by decide +kernel
theorem dX7_fewTurns_98 : decode cX7_fewTurns 98 = .ok (.iload 6, 2) := by decide +kernel
theorem dX7_fewTurns_100 : decode cX7_fewTurns 100 = .ok (.invokestatic 156, 3) := by decide +kernel
theorem dX7_fewTurns_103 : decode cX7_fewTurns 103 = .ok (.iload_n 3, 1) := by decide +kernel
theorem dX7_fewTurns_104 : decode cX7_fewTurns 104 = .ok (.invokestatic 156, 3) := by decide +kernel
theorem dX7_fewTurns_107 : decode cX7_fewTurns 107 = .ok (.if_icmp .gt 7, 3) := by decide +kernel
theorem dX7_fewTurns_110 : decode cX7_fewTurns 110 = .ok (.iconst 1, 1) := by decide +kernel
theorem dX7_fewTurns_111 : decode cX7_fewTurns 111 = .ok (.goto 4, 3) := by decide +kernel
theorem dX7_fewTurns_114 : decode cX7_fewTurns 114 = .ok (.iconst 0, 1) := by decide +kernel
theorem dX7_fewTurns_115 : decode cX7_fewTurns 115 = .ok (.istore 7, 2) := by decide +kernel
theorem dX7_fewTurns_117 : decode cX7_fewTurns 117 = .ok (.iload 7, 2) := by decide +kernel
theorem dX7_fewTurns_119 : decode cX7_fewTurns 119 = .ok (.ifCond .eq 72, 3) := by decide +kernel
theorem dX7_fewTurns_122 : decode cX7_fewTurns 122 = .ok (.aload_n 0, 1) := by decide +kernel
theorem dX7_fewTurns_123 : decode cX7_fewTurns 123 = .ok (.invokevirtual 159, 3) := by decide +kernel
theorem dX7_fewTurns_126 : decode cX7_fewTurns 126 = .ok (.aload_n 0, 1) := by decide +kernel
theorem dX7_fewTurns_127 : decode cX7_fewTurns 127 = .ok (.iload_n 1, 1) := by decide +kernel
theorem dX7_fewTurns_128 : decode cX7_fewTurns 128 = .ok (.invokevirtual 162, 3) := by decide +kernel
theorem dX7_fewTurns_131 : decode cX7_fewTurns 131 = .ok (.ifCond .eq 60, 3) := by decide +kernel
theorem dX7_fewTurns_134 : decode cX7_fewTurns 134 = .ok (.iload_n 3, 1) := by decide +kernel
theorem dX7_fewTurns_135 : decode cX7_fewTurns 135 = .ok (.iconst (-1), 1) := by decide +kernel
theorem dX7_fewTurns_136 : decode cX7_fewTurns 136 = .ok (.if_icmp .eq 15, 3) := by decide +kernel
theorem dX7_fewTurns_139 : decode cX7_fewTurns 139 = .ok (.iload 6, 2) := by decide +kernel
theorem dX7_fewTurns_141 : decode cX7_fewTurns 141 = .ok (.invokestatic 156, 3) := by decide +kernel
theorem dX7_fewTurns_144 : decode cX7_fewTurns 144 = .ok (.iload_n 3, 1) := by decide +kernel
theorem dX7_fewTurns_145 : decode cX7_fewTurns 145 = .ok (.invokestatic 156, 3) := by decide +kernel
theorem dX7_fewTurns_148 : decode cX7_fewTurns 148 = .ok (.if_icmp .ge 7, 3) := by decide +kernel
theorem dX7_fewTurns_151 : decode cX7_fewTurns 151 = .ok (.iconst 1, 1) := by decide +kernel
theorem dX7_fewTurns_152 : decode cX7_fewTurns 152 = .ok (.goto 4, 3) := by decide +kernel
theorem dX7_fewTurns_155 : decode cX7_fewTurns 155 = .ok (.iconst 0, 1) := by decide +kernel
theorem dX7_fewTurns_156 : decode cX7_fewTurns 156 = .ok (.istore 8, 2) := by decide +kernel
theorem dX7_fewTurns_158 : decode cX7_fewTurns 158 = .ok (.iload 8, 2) := by decide +kernel
theorem dX7_fewTurns_160 : decode cX7_fewTurns 160 = .ok (.ifCond .eq 7, 3) := by decide +kernel
theorem dX7_fewTurns_163 : decode cX7_fewTurns 163 = .ok (.iconst 1, 1) := by decide +kernel
theorem dX7_fewTurns_164 : decode cX7_fewTurns 164 = .ok (.goto 7, 3) := by decide +kernel
theorem dX7_fewTurns_167 : decode cX7_fewTurns 167 = .ok (.iload 4, 2) := by decide +kernel
theorem dX7_fewTurns_169 : decode cX7_fewTurns 169 = .ok (.iconst 1, 1) := by decide +kernel
theorem dX7_fewTurns_170 : decode cX7_fewTurns 170 = .ok (.iadd, 1) := by decide +kernel
theorem dX7_fewTurns_171 : decode cX7_fewTurns 171 = .ok (.istore 4, 2) := by decide +kernel
theorem dX7_fewTurns_173 : decode cX7_fewTurns 173 = .ok (.iload 8, 2) := by decide +kernel
theorem dX7_fewTurns_175 : decode cX7_fewTurns 175 = .ok (.ifCond .ne 9, 3) := by decide +kernel
theorem dX7_fewTurns_178 : decode cX7_fewTurns 178 = .ok (.iload 6, 2) := by decide +kernel
theorem dX7_fewTurns_180 : decode cX7_fewTurns 180 = .ok (.iload_n 3, 1) := by decide +kernel
theorem dX7_fewTurns_181 : decode cX7_fewTurns 181 = .ok (.if_icmp .ge 8, 3) := by decide +kernel
theorem dX7_fewTurns_184 : decode cX7_fewTurns 184 = .ok (.iload 6, 2) := by decide +kernel
theorem dX7_fewTurns_186 : decode cX7_fewTurns 186 = .ok (.goto 4, 3) := by decide +kernel
theorem dX7_fewTurns_189 : decode cX7_fewTurns 189 = .ok (.iload_n 3, 1) := by decide +kernel
theorem dX7_fewTurns_190 : decode cX7_fewTurns 190 = .ok (.istore_n 3, 1) := by decide +kernel
theorem dX7_fewTurns_191 : decode cX7_fewTurns 191 = .ok (.iinc 5 1, 3) := by decide +kernel
theorem dX7_fewTurns_194 : decode cX7_fewTurns 194 = .ok (.goto (-127), 3) := by decide +kernel
theorem dX7_fewTurns_197 : decode cX7_fewTurns 197 = .ok (.iload_n 3, 1) := by decide +kernel
theorem dX7_fewTurns_198 : decode cX7_fewTurns 198 = .ok (.iconst (-1), 1) := by decide +kernel
theorem dX7_fewTurns_199 : decode cX7_fewTurns 199 = .ok (.if_icmp .eq 8, 3) := by decide +kernel
theorem dX7_fewTurns_202 : decode cX7_fewTurns 202 = .ok (.iload_n 2, 1) := by decide +kernel
theorem dX7_fewTurns_203 : decode cX7_fewTurns 203 = .ok (.iconst 1, 1) := by decide +kernel
theorem dX7_fewTurns_204 : decode cX7_fewTurns 204 = .ok (.if_icmp .ne 7, 3) := by decide +kernel
theorem dX7_fewTurns_207 : decode cX7_fewTurns 207 = .ok (.iload_n 3, 1) := by decide +kernel
theorem dX7_fewTurns_208 : decode cX7_fewTurns 208 = .ok (.goto 16, 3) := by decide +kernel
theorem dX7_fewTurns_211 : decode cX7_fewTurns 211 = .ok (.iload_n 2, 1) := by decide +kernel
theorem dX7_fewTurns_212 : decode cX7_fewTurns 212 = .ok (.ifCond .ne 10, 3) := by decide +kernel
theorem dX7_fewTurns_215 : decode cX7_fewTurns 215 = .ok (.iload_n 3, 1) := by decide +kernel
theorem dX7_fewTurns_216 : decode cX7_fewTurns 216 = .ok (.invokestatic 156, 3) := by decide +kernel
theorem dX7_fewTurns_219 : decode cX7_fewTurns 219 = .ok (.goto 5, 3) := by decide +kernel
theorem dX7_fewTurns_222 : decode cX7_fewTurns 222 = .ok (.iload 4, 2) := by decide +kernel
theorem dX7_fewTurns_224 : decode cX7_fewTurns 224 = .ok (.ireturn, 1) := by decide +kernel
theorem dX7_wordOf_0 : decode cX7_wordOf 0 = .ok (.iconst 0, 1) := by decide +kernel
theorem dX7_wordOf_1 : decode cX7_wordOf 1 = .ok (.istore_n 2, 1) := by decide +kernel
theorem dX7_wordOf_2 : decode cX7_wordOf 2 = .ok (.iconst 0, 1) := by decide +kernel
theorem dX7_wordOf_3 : decode cX7_wordOf 3 = .ok (.istore_n 3, 1) := by decide +kernel
theorem dX7_wordOf_4 : decode cX7_wordOf 4 = .ok (.iload_n 3, 1) := by decide +kernel
theorem dX7_wordOf_5 : decode cX7_wordOf 5 = .ok (.aload_n 0, 1) := by decide +kernel
theorem dX7_wordOf_6 : decode cX7_wordOf 6 = .ok (.getfield 28, 3) := by decide +kernel
theorem dX7_wordOf_9 : decode cX7_wordOf 9 = .ok (.bipush 17, 2) := by decide +kernel
theorem dX7_wordOf_11 : decode cX7_wordOf 11 = .ok (.iload_n 1, 1) := by decide +kernel
theorem dX7_wordOf_12 : decode cX7_wordOf 12 = .ok (.imul, 1) := by decide +kernel
theorem dX7_wordOf_13 : decode cX7_wordOf 13 = .ok (.iconst 4, 1) := by decide +kernel
theorem dX7_wordOf_14 : decode cX7_wordOf 14 = .ok (.iadd, 1) := by decide +kernel
theorem dX7_wordOf_15 : decode cX7_wordOf 15 = .ok (.iaload, 1) := by decide +kernel
theorem dX7_wordOf_16 : decode cX7_wordOf 16 = .ok (.if_icmp .ge 30, 3) := by decide +kernel
theorem dX7_wordOf_19 : decode cX7_wordOf 19 = .ok (.bipush 6, 2) := by decide +kernel
theorem dX7_wordOf_21 : decode cX7_wordOf 21 = .ok (.iload_n 2, 1) := by decide +kernel
theorem dX7_wordOf_22 : decode cX7_wordOf 22 = .ok (.imul, 1) := by decide +kernel
theorem dX7_wordOf_23 : decode cX7_wordOf 23 = .ok (.aload_n 0, 1) := by decide +kernel
theorem dX7_wordOf_24 : decode cX7_wordOf 24 = .ok (.getfield 28, 3) := by decide +kernel
theorem dX7_wordOf_27 : decode cX7_wordOf 27 = .ok (.bipush 17, 2) := by decide +kernel
theorem dX7_wordOf_29 : decode cX7_wordOf 29 = .ok (.iload_n 1, 1) := by decide +kernel
theorem dX7_wordOf_30 : decode cX7_wordOf 30 = .ok (.imul, 1) := by decide +kernel
theorem dX7_wordOf_31 : decode cX7_wordOf 31 = .ok (.iconst 5, 1) := by decide +kernel
theorem dX7_wordOf_32 : decode cX7_wordOf 32 = .ok (.iadd, 1) := by decide +kernel
theorem dX7_wordOf_33 : decode cX7_wordOf 33 = .ok (.iload_n 3, 1) := by decide +kernel
theorem dX7_wordOf_34 : decode cX7_wordOf 34 = .ok (.iadd, 1) := by decide +kernel
theorem dX7_wordOf_35 : decode cX7_wordOf 35 = .ok (.iaload, 1) := by decide +kernel
theorem dX7_wordOf_36 : decode cX7_wordOf 36 = .ok (.iadd, 1) := by decide +kernel
theorem dX7_wordOf_37 : decode cX7_wordOf 37 = .ok (.iconst 1, 1) := by decide +kernel
theorem dX7_wordOf_38 : decode cX7_wordOf 38 = .ok (.iadd, 1) := by decide +kernel
theorem dX7_wordOf_39 : decode cX7_wordOf 39 = .ok (.istore_n 2, 1) := by decide +kernel
theorem dX7_wordOf_40 : decode cX7_wordOf 40 = .ok (.iinc 3 1, 3) := by decide +kernel
theorem dX7_wordOf_43 : decode cX7_wordOf 43 = .ok (.goto (-39), 3) := by decide +kernel
theorem dX7_wordOf_46 : decode cX7_wordOf 46 = .ok (.iload_n 2, 1) := by decide +kernel
theorem dX7_wordOf_47 : decode cX7_wordOf 47 = .ok (.ireturn, 1) := by decide +kernel
theorem dX7_isOrder_0 : decode cX7_isOrder 0 = .ok (.iload_n 1, 1) := by decide +kernel
theorem dX7_isOrder_1 : decode cX7_isOrder 1 = .ok (.istore_n 3, 1) := by decide +kernel
theorem dX7_isOrder_2 : decode cX7_isOrder 2 = .ok (.iconst 0, 1) := by decide +kernel
theorem dX7_isOrder_3 : decode cX7_isOrder 3 = .ok (.istore 4, 2) := by decide +kernel
theorem dX7_isOrder_5 : decode cX7_isOrder 5 = .ok (.iconst 0, 1) := by decide +kernel
theorem dX7_isOrder_6 : decode cX7_isOrder 6 = .ok (.istore 5, 2) := by decide +kernel
theorem dX7_isOrder_8 : decode cX7_isOrder 8 = .ok (.iload 5, 2) := by decide +kernel
theorem dX7_isOrder_10 : decode cX7_isOrder 10 = .ok (.iload_n 2, 1) := by decide +kernel
theorem dX7_isOrder_11 : decode cX7_isOrder 11 = .ok (.if_icmp .ge 37, 3) := by decide +kernel
theorem dX7_isOrder_14 : decode cX7_isOrder 14 = .ok (.aload_n 0, 1) := by decide +kernel
theorem dX7_isOrder_15 : decode cX7_isOrder 15 = .ok (.getfield 44, 3) := by decide +kernel
theorem dX7_isOrder_18 : decode cX7_isOrder 18 = .ok (.iload 5, 2) := by decide +kernel
theorem dX7_isOrder_20 : decode cX7_isOrder 20 = .ok (.iload_n 3, 1) := by decide +kernel
theorem dX7_isOrder_21 : decode cX7_isOrder 21 = .ok (.iload_n 2, 1) := by decide +kernel
theorem dX7_isOrder_22 : decode cX7_isOrder 22 = .ok (.irem, 1) := by decide +kernel
theorem dX7_isOrder_23 : decode cX7_isOrder 23 = .ok (.iastore, 1) := by decide +kernel
theorem dX7_isOrder_24 : decode cX7_isOrder 24 = .ok (.iload 4, 2) := by decide +kernel
theorem dX7_isOrder_26 : decode cX7_isOrder 26 = .ok (.iconst 1, 1) := by decide +kernel
theorem dX7_isOrder_27 : decode cX7_isOrder 27 = .ok (.aload_n 0, 1) := by decide +kernel
theorem dX7_isOrder_28 : decode cX7_isOrder 28 = .ok (.getfield 44, 3) := by decide +kernel
theorem dX7_isOrder_31 : decode cX7_isOrder 31 = .ok (.iload 5, 2) := by decide +kernel
theorem dX7_isOrder_33 : decode cX7_isOrder 33 = .ok (.iaload, 1) := by decide +kernel
theorem dX7_isOrder_34 : decode cX7_isOrder 34 = .ok (.ishl, 1) := by decide +kernel
theorem dX7_isOrder_35 : decode cX7_isOrder 35 = .ok (.ior, 1) := by decide +kernel
theorem dX7_isOrder_36 : decode cX7_isOrder 36 = .ok (.istore 4, 2) := by decide +kernel
theorem dX7_isOrder_38 : decode cX7_isOrder 38 = .ok (.iload_n 3, 1) := by decide +kernel
theorem dX7_isOrder_39 : decode cX7_isOrder 39 = .ok (.iload_n 2, 1) := by decide +kernel
theorem dX7_isOrder_40 : decode cX7_isOrder 40 = .ok (.idiv, 1) := by decide +kernel
theorem dX7_isOrder_41 : decode cX7_isOrder 41 = .ok (.istore_n 3, 1) := by decide +kernel
theorem dX7_isOrder_42 : decode cX7_isOrder 42 = .ok (.iinc 5 1, 3) := by decide +kernel
theorem dX7_isOrder_45 : decode cX7_isOrder 45 = .ok (.goto (-37), 3) := by decide +kernel
theorem dX7_isOrder_48 : decode cX7_isOrder 48 = .ok (.iload 4, 2) := by decide +kernel
theorem dX7_isOrder_50 : decode cX7_isOrder 50 = .ok (.iconst 1, 1) := by decide +kernel
theorem dX7_isOrder_51 : decode cX7_isOrder 51 = .ok (.iload_n 2, 1) := by decide +kernel
theorem dX7_isOrder_52 : decode cX7_isOrder 52 = .ok (.ishl, 1) := by decide +kernel
theorem dX7_isOrder_53 : decode cX7_isOrder 53 = .ok (.iconst 1, 1) := by decide +kernel
theorem dX7_isOrder_54 : decode cX7_isOrder 54 = .ok (.isub, 1) := by decide +kernel
theorem dX7_isOrder_55 : decode cX7_isOrder 55 = .ok (.if_icmp .ne 7, 3) := by decide +kernel
theorem dX7_isOrder_58 : decode cX7_isOrder 58 = .ok (.iconst 1, 1) := by decide +kernel
theorem dX7_isOrder_59 : decode cX7_isOrder 59 = .ok (.goto 4, 3) := by decide +kernel
theorem dX7_isOrder_62 : decode cX7_isOrder 62 = .ok (.iconst 0, 1) := by decide +kernel
theorem dX7_isOrder_63 : decode cX7_isOrder 63 = .ok (.ireturn, 1) := by decide +kernel
theorem dX7_orders_0 : decode cX7_orders 0 = .ok (.aload_n 0, 1) := by decide +kernel
theorem dX7_orders_1 : decode cX7_orders 1 = .ok (.iload_n 1, 1) := by decide +kernel
theorem dX7_orders_2 : decode cX7_orders 2 = .ok (.invokevirtual 119, 3) := by decide +kernel
theorem dX7_orders_5 : decode cX7_orders 5 = .ok (.ifCond .ne 6, 3) := by decide +kernel
theorem dX7_orders_8 : decode cX7_orders 8 = .ok (.bipush (-101), 2) := by decide +kernel
theorem dX7_orders_10 : decode cX7_orders 10 = .ok (.ireturn, 1) := by decide +kernel
theorem dX7_orders_11 : decode cX7_orders 11 = .ok (.aload_n 0, 1) := by decide +kernel
theorem dX7_orders_12 : decode cX7_orders 12 = .ok (.getfield 16, 3) := by decide +kernel
theorem dX7_orders_15 : decode cX7_orders 15 = .ok (.iload_n 1, 1) := by decide +kernel
theorem dX7_orders_16 : decode cX7_orders 16 = .ok (.iaload, 1) := by decide +kernel
theorem dX7_orders_17 : decode cX7_orders 17 = .ok (.iconst (-1), 1) := by decide +kernel
theorem dX7_orders_18 : decode cX7_orders 18 = .ok (.if_icmp .ne 12, 3) := by decide +kernel
theorem dX7_orders_21 : decode cX7_orders 21 = .ok (.aload_n 0, 1) := by decide +kernel
theorem dX7_orders_22 : decode cX7_orders 22 = .ok (.getfield 165, 3) := by decide +kernel
theorem dX7_orders_25 : decode cX7_orders 25 = .ok (.bipush 20, 2) := by decide +kernel
theorem dX7_orders_27 : decode cX7_orders 27 = .ok (.if_icmp .ne 6, 3) := by decide +kernel
theorem dX7_orders_30 : decode cX7_orders 30 = .ok (.bipush (-103), 2) := by decide +kernel
theorem dX7_orders_32 : decode cX7_orders 32 = .ok (.ireturn, 1) := by decide +kernel
theorem dX7_orders_33 : decode cX7_orders 33 = .ok (.aload_n 0, 1) := by decide +kernel
theorem dX7_orders_34 : decode cX7_orders 34 = .ok (.dup, 1) := by decide +kernel
theorem dX7_orders_35 : decode cX7_orders 35 = .ok (.getfield 165, 3) := by decide +kernel
theorem dX7_orders_38 : decode cX7_orders 38 = .ok (.iconst 1, 1) := by decide +kernel
theorem dX7_orders_39 : decode cX7_orders 39 = .ok (.iadd, 1) := by decide +kernel
theorem dX7_orders_40 : decode cX7_orders 40 = .ok (.putfield 165, 3) := by decide +kernel
theorem dX7_orders_43 : decode cX7_orders 43 = .ok (.aload_n 0, 1) := by decide +kernel
theorem dX7_orders_44 : decode cX7_orders 44 = .ok (.invokevirtual 150, 3) := by decide +kernel
theorem dX7_orders_47 : decode cX7_orders 47 = .ok (.iconst 0, 1) := by decide +kernel
theorem dX7_orders_48 : decode cX7_orders 48 = .ok (.istore_n 2, 1) := by decide +kernel
theorem dX7_orders_49 : decode cX7_orders 49 = .ok (.iload_n 2, 1) := by decide +kernel
theorem dX7_orders_50 : decode cX7_orders 50 = .ok (.ldc 40, 2) := by decide +kernel
theorem dX7_orders_52 : decode cX7_orders 52 = .ok (.if_icmp .ge 16, 3) := by decide +kernel
theorem dX7_orders_55 : decode cX7_orders 55 = .ok (.aload_n 0, 1) := by decide +kernel
theorem dX7_orders_56 : decode cX7_orders 56 = .ok (.getfield 41, 3) := by decide +kernel
theorem dX7_orders_59 : decode cX7_orders 59 = .ok (.iload_n 2, 1) := by decide +kernel
theorem dX7_orders_60 : decode cX7_orders 60 = .ok (.iconst 0, 1) := by decide +kernel
theorem dX7_orders_61 : decode cX7_orders 61 = .ok (.iastore, 1) := by decide +kernel
theorem dX7_orders_62 : decode cX7_orders 62 = .ok (.iinc 2 1, 3) := by decide +kernel
theorem dX7_orders_65 : decode cX7_orders 65 = .ok (.goto (-16), 3) := by decide +kernel
theorem dX7_orders_68 : decode cX7_orders 68 = .ok (.aload_n 0, 1) := by decide +kernel
theorem dX7_orders_69 : decode cX7_orders 69 = .ok (.getfield 109, 3) := by decide +kernel
theorem dX7_orders_72 : decode cX7_orders 72 = .ok (.bipush 6, 2) := by decide +kernel
theorem dX7_orders_74 : decode cX7_orders 74 = .ok (.if_icmp .ge 10, 3) := by decide +kernel
theorem dX7_orders_77 : decode cX7_orders 77 = .ok (.aload_n 0, 1) := by decide +kernel
theorem dX7_orders_78 : decode cX7_orders 78 = .ok (.getfield 109, 3) := by decide +kernel
theorem dX7_orders_81 : decode cX7_orders 81 = .ok (.goto 5, 3) := by decide +kernel
theorem dX7_orders_84 : decode cX7_orders 84 = .ok (.bipush 6, 2) := by decide +kernel
theorem dX7_orders_86 : decode cX7_orders 86 = .ok (.istore_n 2, 1) := by decide +kernel
theorem dX7_orders_87 : decode cX7_orders 87 = .ok (.iconst 1, 1) := by decide +kernel
theorem dX7_orders_88 : decode cX7_orders 88 = .ok (.istore_n 3, 1) := by decide +kernel
theorem dX7_orders_89 : decode cX7_orders 89 = .ok (.iconst 0, 1) := by decide +kernel
theorem dX7_orders_90 : decode cX7_orders 90 = .ok (.istore 4, 2) := by decide +kernel
theorem dX7_orders_92 : decode cX7_orders 92 = .ok (.iload 4, 2) := by decide +kernel
theorem dX7_orders_94 : decode cX7_orders 94 = .ok (.iload_n 2, 1) := by decide +kernel
theorem dX7_orders_95 : decode cX7_orders 95 = .ok (.if_icmp .ge 13, 3) := by decide +kernel
theorem dX7_orders_98 : decode cX7_orders 98 = .ok (.iload_n 3, 1) := by decide +kernel
theorem dX7_orders_99 : decode cX7_orders 99 = .ok (.iload_n 2, 1) := by decide +kernel
theorem dX7_orders_100 : decode cX7_orders 100 = .ok (.imul, 1) := by decide +kernel
theorem dX7_orders_101 : decode cX7_orders 101 = .ok (.istore_n 3, 1) := by decide +kernel
theorem dX7_orders_102 : decode cX7_orders 102 = .ok (.iinc 4 1, 3) := by decide +kernel
theorem dX7_orders_105 : decode cX7_orders 105 = .ok (.goto (-13), 3) := by decide +kernel
theorem dX7_orders_108 : decode cX7_orders 108 = .ok (.iconst 0, 1) := by decide +kernel
theorem dX7_orders_109 : decode cX7_orders 109 = .ok (.istore 4, 2) := by decide +kernel
theorem dX7_orders_111 : decode cX7_orders 111 = .ok (.iconst 0, 1) := by decide +kernel
theorem dX7_orders_112 : decode cX7_orders 112 = .ok (.istore 5, 2) := by decide +kernel
theorem dX7_orders_114 : decode cX7_orders 114 = .ok (.iload 5, 2) := by decide +kernel
theorem dX7_orders_116 : decode cX7_orders 116 = .ok (.iload_n 3, 1) := by decide +kernel
theorem dX7_orders_117 : decode cX7_orders 117 = .ok (.if_icmp .ge 117, 3) := by decide +kernel
theorem dX7_orders_120 : decode cX7_orders 120 = .ok (.aload_n 0, 1) := by decide +kernel
theorem dX7_orders_121 : decode cX7_orders 121 = .ok (.iload 5, 2) := by decide +kernel
theorem dX7_orders_123 : decode cX7_orders 123 = .ok (.iload_n 2, 1) := by decide +kernel
theorem dX7_orders_124 : decode cX7_orders 124 = .ok (.invokevirtual 168, 3) := by decide +kernel
theorem dX7_orders_127 : decode cX7_orders 127 = .ok (.ifCond .eq 101, 3) := by decide +kernel
theorem dX7_orders_130 : decode cX7_orders 130 = .ok (.aload_n 0, 1) := by decide +kernel
theorem dX7_orders_131 : decode cX7_orders 131 = .ok (.getfield 28, 3) := by decide +kernel
theorem dX7_orders_134 : decode cX7_orders 134 = .ok (.invokestatic 105, 3) := by decide +kernel
theorem dX7_orders_137 : decode cX7_orders 137 = .ok (.iconst 0, 1) := by decide +kernel
theorem dX7_orders_138 : decode cX7_orders 138 = .ok (.istore 6, 2) := by decide +kernel
theorem dX7_orders_140 : decode cX7_orders 140 = .ok (.iload 6, 2) := by decide +kernel
theorem dX7_orders_142 : decode cX7_orders 142 = .ok (.iload_n 2, 1) := by decide +kernel
theorem dX7_orders_143 : decode cX7_orders 143 = .ok (.if_icmp .ge 50, 3) := by decide +kernel
theorem dX7_orders_146 : decode cX7_orders 146 = .ok (.aload_n 0, 1) := by decide +kernel
theorem dX7_orders_147 : decode cX7_orders 147 = .ok (.getfield 28, 3) := by decide +kernel
theorem dX7_orders_150 : decode cX7_orders 150 = .ok (.aload_n 0, 1) := by decide +kernel
theorem dX7_orders_151 : decode cX7_orders 151 = .ok (.getfield 31, 3) := by decide +kernel
theorem dX7_orders_154 : decode cX7_orders 154 = .ok (.aload_n 0, 1) := by decide +kernel
theorem dX7_orders_155 : decode cX7_orders 155 = .ok (.getfield 34, 3) := by decide +kernel
theorem dX7_orders_158 : decode cX7_orders 158 = .ok (.aload_n 0, 1) := by decide +kernel
theorem dX7_orders_159 : decode cX7_orders 159 = .ok (.getfield 22, 3) := by decide +kernel
theorem dX7_orders_162 : decode cX7_orders 162 = .ok (.aload_n 0, 1) := by decide +kernel
theorem dX7_orders_163 : decode cX7_orders 163 = .ok (.getfield 44, 3) := by decide +kernel
theorem dX7_orders_166 : decode cX7_orders 166 = .ok (.iload 6, 2) := by decide +kernel
theorem dX7_orders_168 : decode cX7_orders 168 = .ok (.iaload, 1) := by decide +kernel
theorem dX7_orders_169 : decode cX7_orders 169 = .ok (.iaload, 1) := by decide +kernel
theorem dX7_orders_170 : decode cX7_orders 170 = .ok (.aload_n 0, 1) := by decide +kernel
theorem dX7_orders_171 : decode cX7_orders 171 = .ok (.getfield 25, 3) := by decide +kernel
theorem dX7_orders_174 : decode cX7_orders 174 = .ok (.aload_n 0, 1) := by decide +kernel
theorem dX7_orders_175 : decode cX7_orders 175 = .ok (.getfield 44, 3) := by decide +kernel
theorem dX7_orders_178 : decode cX7_orders 178 = .ok (.iload 6, 2) := by decide +kernel
theorem dX7_orders_180 : decode cX7_orders 180 = .ok (.iaload, 1) := by decide +kernel
theorem dX7_orders_181 : decode cX7_orders 181 = .ok (.iaload, 1) := by decide +kernel
theorem dX7_orders_182 : decode cX7_orders 182 = .ok (.invokestatic 133, 3) := by decide +kernel
theorem dX7_orders_185 : decode cX7_orders 185 = .ok (.istore 7, 2) := by decide +kernel
theorem dX7_orders_187 : decode cX7_orders 187 = .ok (.iinc 6 1, 3) := by decide +kernel
theorem dX7_orders_190 : decode cX7_orders 190 = .ok (.goto (-50), 3) := by decide +kernel
theorem dX7_orders_193 : decode cX7_orders 193 = .ok (.aload_n 0, 1) := by decide +kernel
theorem dX7_orders_194 : decode cX7_orders 194 = .ok (.iload_n 1, 1) := by decide +kernel
theorem dX7_orders_195 : decode cX7_orders 195 = .ok (.invokevirtual 171, 3) := by decide +kernel
theorem dX7_orders_198 : decode cX7_orders 198 = .ok (.istore 6, 2) := by decide +kernel
theorem dX7_orders_200 : decode cX7_orders 200 = .ok (.iload 4, 2) := by decide +kernel
theorem dX7_orders_202 : decode cX7_orders 202 = .ok (.aload_n 0, 1) := by decide +kernel
theorem dX7_orders_203 : decode cX7_orders 203 = .ok (.getfield 41, 3) := by decide +kernel
theorem dX7_orders_206 : decode cX7_orders 206 = .ok (.iload 6, 2) := by decide +kernel
theorem dX7_orders_208 : decode cX7_orders 208 = .ok (.iaload, 1) := by decide +kernel
theorem dX7_orders_209 : decode cX7_orders 209 = .ok (.ifCond .ne 7, 3) := by decide +kernel
theorem dX7_orders_212 : decode cX7_orders 212 = .ok (.iconst 1, 1) := by decide +kernel
theorem dX7_orders_213 : decode cX7_orders 213 = .ok (.goto 4, 3) := by decide +kernel
theorem dX7_orders_216 : decode cX7_orders 216 = .ok (.iconst 0, 1) := by decide +kernel
theorem dX7_orders_217 : decode cX7_orders 217 = .ok (.iadd, 1) := by decide +kernel
theorem dX7_orders_218 : decode cX7_orders 218 = .ok (.istore 4, 2) := by decide +kernel
theorem dX7_orders_220 : decode cX7_orders 220 = .ok (.aload_n 0, 1) := by decide +kernel
theorem dX7_orders_221 : decode cX7_orders 221 = .ok (.getfield 41, 3) := by decide +kernel
theorem dX7_orders_224 : decode cX7_orders 224 = .ok (.iload 6, 2) := by decide +kernel
theorem dX7_orders_226 : decode cX7_orders 226 = .ok (.iconst 1, 1) := by decide +kernel
theorem dX7_orders_227 : decode cX7_orders 227 = .ok (.iastore, 1) := by decide +kernel
theorem dX7_orders_228 : decode cX7_orders 228 = .ok (.iinc 5 1, 3) := by decide +kernel
theorem dX7_orders_231 : decode cX7_orders 231 = .ok (.goto (-117), 3) := by decide +kernel
theorem dX7_orders_234 : decode cX7_orders 234 = .ok (.iload 4, 2) := by decide +kernel
theorem dX7_orders_236 : decode cX7_orders 236 = .ok (.ireturn, 1) := by decide +kernel
theorem dX7_outOf_0 : decode cX7_outOf 0 = .ok (.iconst 0, 1) := by decide +kernel
theorem dX7_outOf_1 : decode cX7_outOf 1 = .ok (.istore_n 1, 1) := by decide +kernel
theorem dX7_outOf_2 : decode cX7_outOf 2 = .ok (.iconst 0, 1) := by decide +kernel
theorem dX7_outOf_3 : decode cX7_outOf 3 = .ok (.istore_n 2, 1) := by decide +kernel
theorem dX7_outOf_4 : decode cX7_outOf 4 = .ok (.iload_n 2, 1) := by decide +kernel
theorem dX7_outOf_5 : decode cX7_outOf 5 = .ok (.bipush 6, 2) := by decide +kernel
theorem dX7_outOf_7 : decode cX7_outOf 7 = .ok (.if_icmp .ge 20, 3) := by decide +kernel
theorem dX7_outOf_10 : decode cX7_outOf 10 = .ok (.iload_n 1, 1) := by decide +kernel
theorem dX7_outOf_11 : decode cX7_outOf 11 = .ok (.aload_n 0, 1) := by decide +kernel
theorem dX7_outOf_12 : decode cX7_outOf 12 = .ok (.bipush 17, 2) := by decide +kernel
theorem dX7_outOf_14 : decode cX7_outOf 14 = .ok (.iload_n 2, 1) := by decide +kernel
theorem dX7_outOf_15 : decode cX7_outOf 15 = .ok (.imul, 1) := by decide +kernel
theorem dX7_outOf_16 : decode cX7_outOf 16 = .ok (.iconst 4, 1) := by decide +kernel
theorem dX7_outOf_17 : decode cX7_outOf 17 = .ok (.iadd, 1) := by decide +kernel
theorem dX7_outOf_18 : decode cX7_outOf 18 = .ok (.iaload, 1) := by decide +kernel
theorem dX7_outOf_19 : decode cX7_outOf 19 = .ok (.iadd, 1) := by decide +kernel
theorem dX7_outOf_20 : decode cX7_outOf 20 = .ok (.istore_n 1, 1) := by decide +kernel
theorem dX7_outOf_21 : decode cX7_outOf 21 = .ok (.iinc 2 1, 3) := by decide +kernel
theorem dX7_outOf_24 : decode cX7_outOf 24 = .ok (.goto (-20), 3) := by decide +kernel
theorem dX7_outOf_27 : decode cX7_outOf 27 = .ok (.iload_n 1, 1) := by decide +kernel
theorem dX7_outOf_28 : decode cX7_outOf 28 = .ok (.ireturn, 1) := by decide +kernel
theorem dX7_bestDrop_0 : decode cX7_bestDrop 0 = .ok (.iload_n 1, 1) := by decide +kernel
theorem dX7_bestDrop_1 : decode cX7_bestDrop 1 = .ok (.i2l, 1) := by decide +kernel
theorem dX7_bestDrop_2 : decode cX7_bestDrop 2 = .ok (.lconst 0, 1) := by decide +kernel
theorem dX7_bestDrop_3 : decode cX7_bestDrop 3 = .ok (.ldc2_w 127, 3) := by decide +kernel
theorem dX7_bestDrop_6 : decode cX7_bestDrop 6 = .ok (.invokestatic 77, 3) := by decide +kernel
theorem dX7_bestDrop_9 : decode cX7_bestDrop 9 = .ok (.ifCond .ne 6, 3) := by decide +kernel
theorem dX7_bestDrop_12 : decode cX7_bestDrop 12 = .ok (.bipush (-102), 2) := by decide +kernel
theorem dX7_bestDrop_14 : decode cX7_bestDrop 14 = .ok (.ireturn, 1) := by decide +kernel
theorem dX7_bestDrop_15 : decode cX7_bestDrop 15 = .ok (.aload_n 0, 1) := by decide +kernel
theorem dX7_bestDrop_16 : decode cX7_bestDrop 16 = .ok (.getfield 101, 3) := by decide +kernel
theorem dX7_bestDrop_19 : decode cX7_bestDrop 19 = .ok (.ifCond .ne 6, 3) := by decide +kernel
theorem dX7_bestDrop_22 : decode cX7_bestDrop 22 = .ok (.bipush (-103), 2) := by decide +kernel
theorem dX7_bestDrop_24 : decode cX7_bestDrop 24 = .ok (.ireturn, 1) := by decide +kernel
theorem dX7_bestDrop_25 : decode cX7_bestDrop 25 = .ok (.aload_n 0, 1) := by decide +kernel
theorem dX7_bestDrop_26 : decode cX7_bestDrop 26 = .ok (.getfield 109, 3) := by decide +kernel
theorem dX7_bestDrop_29 : decode cX7_bestDrop 29 = .ok (.bipush 12, 2) := by decide +kernel
theorem dX7_bestDrop_31 : decode cX7_bestDrop 31 = .ok (.if_icmp .ne 6, 3) := by decide +kernel
theorem dX7_bestDrop_34 : decode cX7_bestDrop 34 = .ok (.bipush (-104), 2) := by decide +kernel
theorem dX7_bestDrop_36 : decode cX7_bestDrop 36 = .ok (.ireturn, 1) := by decide +kernel
theorem dX7_bestDrop_37 : decode cX7_bestDrop 37 = .ok (.aload_n 0, 1) := by decide +kernel
theorem dX7_bestDrop_38 : decode cX7_bestDrop 38 = .ok (.invokevirtual 150, 3) := by decide +kernel
theorem dX7_bestDrop_41 : decode cX7_bestDrop 41 = .ok (.iconst (-1), 1) := by decide +kernel
theorem dX7_bestDrop_42 : decode cX7_bestDrop 42 = .ok (.istore_n 2, 1) := by decide +kernel
theorem dX7_bestDrop_43 : decode cX7_bestDrop 43 = .ok (.iconst (-1), 1) := by decide +kernel
theorem dX7_bestDrop_44 : decode cX7_bestDrop 44 = .ok (.istore_n 3, 1) := by decide +kernel
theorem dX7_bestDrop_45 : decode cX7_bestDrop 45 = .ok (.iconst 0, 1) := by decide +kernel
theorem dX7_bestDrop_46 : decode cX7_bestDrop 46 = .ok (.istore 4, 2) := by decide +kernel
theorem dX7_bestDrop_48 : decode cX7_bestDrop 48 = .ok (.iload 4, 2) := by decide +kernel
theorem dX7_bestDrop_50 : decode cX7_bestDrop 50 = .ok (.bipush 6, 2) := by decide +kernel
theorem dX7_bestDrop_52 : decode cX7_bestDrop 52 = .ok (.if_icmp .ge 74, 3) := by decide +kernel
theorem dX7_bestDrop_55 : decode cX7_bestDrop 55 = .ok (.aload_n 0, 1) := by decide +kernel
theorem dX7_bestDrop_56 : decode cX7_bestDrop 56 = .ok (.invokevirtual 159, 3) := by decide +kernel
theorem dX7_bestDrop_59 : decode cX7_bestDrop 59 = .ok (.aload_n 0, 1) := by decide +kernel
theorem dX7_bestDrop_60 : decode cX7_bestDrop 60 = .ok (.getfield 28, 3) := by decide +kernel
theorem dX7_bestDrop_63 : decode cX7_bestDrop 63 = .ok (.aload_n 0, 1) := by decide +kernel
theorem dX7_bestDrop_64 : decode cX7_bestDrop 64 = .ok (.getfield 31, 3) := by decide +kernel
theorem dX7_bestDrop_67 : decode cX7_bestDrop 67 = .ok (.aload_n 0, 1) := by decide +kernel
theorem dX7_bestDrop_68 : decode cX7_bestDrop 68 = .ok (.getfield 34, 3) := by decide +kernel
theorem dX7_bestDrop_71 : decode cX7_bestDrop 71 = .ok (.iload 4, 2) := by decide +kernel
theorem dX7_bestDrop_73 : decode cX7_bestDrop 73 = .ok (.iload_n 1, 1) := by decide +kernel
theorem dX7_bestDrop_74 : decode cX7_bestDrop 74 = .ok (.invokestatic 133, 3) := by decide +kernel
theorem dX7_bestDrop_77 : decode cX7_bestDrop 77 = .ok (.istore 5, 2) := by decide +kernel
theorem dX7_bestDrop_79 : decode cX7_bestDrop 79 = .ok (.aload_n 0, 1) := by decide +kernel
theorem dX7_bestDrop_80 : decode cX7_bestDrop 80 = .ok (.getfield 28, 3) := by decide +kernel
theorem dX7_bestDrop_83 : decode cX7_bestDrop 83 = .ok (.invokestatic 174, 3) := by decide +kernel
theorem dX7_bestDrop_86 : decode cX7_bestDrop 86 = .ok (.iload_n 3, 1) := by decide +kernel
theorem dX7_bestDrop_87 : decode cX7_bestDrop 87 = .ok (.if_icmp .le 8, 3) := by decide +kernel
theorem dX7_bestDrop_90 : decode cX7_bestDrop 90 = .ok (.iload 4, 2) := by decide +kernel
theorem dX7_bestDrop_92 : decode cX7_bestDrop 92 = .ok (.goto 4, 3) := by decide +kernel
theorem dX7_bestDrop_95 : decode cX7_bestDrop 95 = .ok (.iload_n 2, 1) := by decide +kernel
theorem dX7_bestDrop_96 : decode cX7_bestDrop 96 = .ok (.istore_n 2, 1) := by decide +kernel
theorem dX7_bestDrop_97 : decode cX7_bestDrop 97 = .ok (.aload_n 0, 1) := by decide +kernel
theorem dX7_bestDrop_98 : decode cX7_bestDrop 98 = .ok (.getfield 28, 3) := by decide +kernel
theorem dX7_bestDrop_101 : decode cX7_bestDrop 101 = .ok (.invokestatic 174, 3) := by decide +kernel
theorem dX7_bestDrop_104 : decode cX7_bestDrop 104 = .ok (.iload_n 3, 1) := by decide +kernel
theorem dX7_bestDrop_105 : decode cX7_bestDrop 105 = .ok (.if_icmp .le 13, 3) := by decide +kernel
theorem dX7_bestDrop_108 : decode cX7_bestDrop 108 = .ok (.aload_n 0, 1) := by decide +kernel
theorem dX7_bestDrop_109 : decode cX7_bestDrop 109 = .ok (.getfield 28, 3) := by decide +kernel
theorem dX7_bestDrop_112 : decode cX7_bestDrop 112 = .ok (.invokestatic 174, 3) := by decide +kernel
theorem dX7_bestDrop_115 : decode cX7_bestDrop 115 = .ok (.goto 4, 3) := by decide +kernel
theorem dX7_bestDrop_118 : decode cX7_bestDrop 118 = .ok (.iload_n 3, 1) := by decide +kernel
theorem dX7_bestDrop_119 : decode cX7_bestDrop 119 = .ok (.istore_n 3, 1) := by decide +kernel
theorem dX7_bestDrop_120 : decode cX7_bestDrop 120 = .ok (.iinc 4 1, 3) := by decide +kernel
theorem dX7_bestDrop_123 : decode cX7_bestDrop 123 = .ok (.goto (-75), 3) := by decide +kernel
theorem dX7_bestDrop_126 : decode cX7_bestDrop 126 = .ok (.iload_n 2, 1) := by decide +kernel
theorem dX7_bestDrop_127 : decode cX7_bestDrop 127 = .ok (.ireturn, 1) := by decide +kernel
theorem dX7_founds_0 : decode cX7_founds 0 = .ok (.iconst 0, 1) := by decide +kernel
theorem dX7_founds_1 : decode cX7_founds 1 = .ok (.istore_n 1, 1) := by decide +kernel
theorem dX7_founds_2 : decode cX7_founds 2 = .ok (.iconst 0, 1) := by decide +kernel
theorem dX7_founds_3 : decode cX7_founds 3 = .ok (.istore_n 2, 1) := by decide +kernel
theorem dX7_founds_4 : decode cX7_founds 4 = .ok (.iload_n 2, 1) := by decide +kernel
theorem dX7_founds_5 : decode cX7_founds 5 = .ok (.bipush 6, 2) := by decide +kernel
theorem dX7_founds_7 : decode cX7_founds 7 = .ok (.if_icmp .ge 34, 3) := by decide +kernel
theorem dX7_founds_10 : decode cX7_founds 10 = .ok (.aload_n 0, 1) := by decide +kernel
theorem dX7_founds_11 : decode cX7_founds 11 = .ok (.getfield 101, 3) := by decide +kernel
theorem dX7_founds_14 : decode cX7_founds 14 = .ok (.ifCond .eq 27, 3) := by decide +kernel
theorem dX7_founds_17 : decode cX7_founds 17 = .ok (.iload_n 1, 1) := by decide +kernel
theorem dX7_founds_18 : decode cX7_founds 18 = .ok (.aload_n 0, 1) := by decide +kernel
theorem dX7_founds_19 : decode cX7_founds 19 = .ok (.getfield 47, 3) := by decide +kernel
theorem dX7_founds_22 : decode cX7_founds 22 = .ok (.iload_n 2, 1) := by decide +kernel
theorem dX7_founds_23 : decode cX7_founds 23 = .ok (.iaload, 1) := by decide +kernel
theorem dX7_founds_24 : decode cX7_founds 24 = .ok (.iconst (-1), 1) := by decide +kernel
theorem dX7_founds_25 : decode cX7_founds 25 = .ok (.if_icmp .ne 7, 3) := by decide +kernel
theorem dX7_founds_28 : decode cX7_founds 28 = .ok (.iconst 0, 1) := by decide +kernel
theorem dX7_founds_29 : decode cX7_founds 29 = .ok (.goto 4, 3) := by decide +kernel
theorem dX7_founds_32 : decode cX7_founds 32 = .ok (.iconst 1, 1) := by decide +kernel
theorem dX7_founds_33 : decode cX7_founds 33 = .ok (.iadd, 1) := by decide +kernel
theorem dX7_founds_34 : decode cX7_founds 34 = .ok (.istore_n 1, 1) := by decide +kernel
theorem dX7_founds_35 : decode cX7_founds 35 = .ok (.iinc 2 1, 3) := by decide +kernel
theorem dX7_founds_38 : decode cX7_founds 38 = .ok (.goto (-34), 3) := by decide +kernel
theorem dX7_founds_41 : decode cX7_founds 41 = .ok (.iload_n 1, 1) := by decide +kernel
theorem dX7_founds_42 : decode cX7_founds 42 = .ok (.ireturn, 1) := by decide +kernel
theorem dX7_found_0 : decode cX7_found 0 = .ok (.aload_n 0, 1) := by decide +kernel
theorem dX7_found_1 : decode cX7_found 1 = .ok (.iload_n 1, 1) := by decide +kernel
theorem dX7_found_2 : decode cX7_found 2 = .ok (.invokevirtual 119, 3) := by decide +kernel
theorem dX7_found_5 : decode cX7_found 5 = .ok (.ifCond .ne 6, 3) := by decide +kernel
theorem dX7_found_8 : decode cX7_found 8 = .ok (.bipush (-101), 2) := by decide +kernel
theorem dX7_found_10 : decode cX7_found 10 = .ok (.ireturn, 1) := by decide +kernel
theorem dX7_found_11 : decode cX7_found 11 = .ok (.aload_n 0, 1) := by decide +kernel
theorem dX7_found_12 : decode cX7_found 12 = .ok (.getfield 81, 3) := by decide +kernel
theorem dX7_found_15 : decode cX7_found 15 = .ok (.ifCond .le 13, 3) := by decide +kernel
theorem dX7_found_18 : decode cX7_found 18 = .ok (.aload_n 0, 1) := by decide +kernel
theorem dX7_found_19 : decode cX7_found 19 = .ok (.invokevirtual 143, 3) := by decide +kernel
theorem dX7_found_22 : decode cX7_found 22 = .ok (.ifCond .ne 6, 3) := by decide +kernel
theorem dX7_found_25 : decode cX7_found 25 = .ok (.bipush (-103), 2) := by decide +kernel
theorem dX7_found_27 : decode cX7_found 27 = .ok (.ireturn, 1) := by decide +kernel
theorem dX7_found_28 : decode cX7_found 28 = .ok (.iconst 0, 1) := by decide +kernel
theorem dX7_found_29 : decode cX7_found 29 = .ok (.istore_n 2, 1) := by decide +kernel
theorem dX7_found_30 : decode cX7_found 30 = .ok (.iload_n 2, 1) := by decide +kernel
theorem dX7_found_31 : decode cX7_found 31 = .ok (.aload_n 0, 1) := by decide +kernel
theorem dX7_found_32 : decode cX7_found 32 = .ok (.getfield 81, 3) := by decide +kernel
theorem dX7_found_35 : decode cX7_found 35 = .ok (.if_icmp .ge 29, 3) := by decide +kernel
theorem dX7_found_38 : decode cX7_found 38 = .ok (.aload_n 0, 1) := by decide +kernel
theorem dX7_found_39 : decode cX7_found 39 = .ok (.getfield 50, 3) := by decide +kernel
theorem dX7_found_42 : decode cX7_found 42 = .ok (.bipush 8, 2) := by decide +kernel
theorem dX7_found_44 : decode cX7_found 44 = .ok (.iload_n 1, 1) := by decide +kernel
theorem dX7_found_45 : decode cX7_found 45 = .ok (.imul, 1) := by decide +kernel
theorem dX7_found_46 : decode cX7_found 46 = .ok (.iload_n 2, 1) := by decide +kernel
theorem dX7_found_47 : decode cX7_found 47 = .ok (.iadd, 1) := by decide +kernel
theorem dX7_found_48 : decode cX7_found 48 = .ok (.aload_n 0, 1) := by decide +kernel
theorem dX7_found_49 : decode cX7_found 49 = .ok (.getfield 7, 3) := by decide +kernel
theorem dX7_found_52 : decode cX7_found 52 = .ok (.iload_n 2, 1) := by decide +kernel
theorem dX7_found_53 : decode cX7_found 53 = .ok (.iaload, 1) := by decide +kernel
theorem dX7_found_54 : decode cX7_found 54 = .ok (.bipush 97, 2) := by decide +kernel
theorem dX7_found_56 : decode cX7_found 56 = .ok (.isub, 1) := by decide +kernel
theorem dX7_found_57 : decode cX7_found 57 = .ok (.iastore, 1) := by decide +kernel
theorem dX7_found_58 : decode cX7_found 58 = .ok (.iinc 2 1, 3) := by decide +kernel
theorem dX7_found_61 : decode cX7_found 61 = .ok (.goto (-31), 3) := by decide +kernel
theorem dX7_found_64 : decode cX7_found 64 = .ok (.aload_n 0, 1) := by decide +kernel
theorem dX7_found_65 : decode cX7_found 65 = .ok (.getfield 47, 3) := by decide +kernel
theorem dX7_found_68 : decode cX7_found 68 = .ok (.iload_n 1, 1) := by decide +kernel
theorem dX7_found_69 : decode cX7_found 69 = .ok (.aload_n 0, 1) := by decide +kernel
theorem dX7_found_70 : decode cX7_found 70 = .ok (.getfield 81, 3) := by decide +kernel
theorem dX7_found_73 : decode cX7_found 73 = .ok (.iastore, 1) := by decide +kernel
theorem dX7_found_74 : decode cX7_found 74 = .ok (.aload_n 0, 1) := by decide +kernel
theorem dX7_found_75 : decode cX7_found 75 = .ok (.iconst 0, 1) := by decide +kernel
theorem dX7_found_76 : decode cX7_found 76 = .ok (.putfield 81, 3) := by decide +kernel
theorem dX7_found_79 : decode cX7_found 79 = .ok (.aload_n 0, 1) := by decide +kernel
theorem dX7_found_80 : decode cX7_found 80 = .ok (.invokevirtual 178, 3) := by decide +kernel
theorem dX7_found_83 : decode cX7_found 83 = .ok (.ireturn, 1) := by decide +kernel
theorem dX7_forget_0 : decode cX7_forget 0 = .ok (.aload_n 0, 1) := by decide +kernel
theorem dX7_forget_1 : decode cX7_forget 1 = .ok (.invokevirtual 178, 3) := by decide +kernel
theorem dX7_forget_4 : decode cX7_forget 4 = .ok (.istore_n 1, 1) := by decide +kernel
theorem dX7_forget_5 : decode cX7_forget 5 = .ok (.iconst 0, 1) := by decide +kernel
theorem dX7_forget_6 : decode cX7_forget 6 = .ok (.istore_n 2, 1) := by decide +kernel
theorem dX7_forget_7 : decode cX7_forget 7 = .ok (.iload_n 2, 1) := by decide +kernel
theorem dX7_forget_8 : decode cX7_forget 8 = .ok (.bipush 6, 2) := by decide +kernel
theorem dX7_forget_10 : decode cX7_forget 10 = .ok (.if_icmp .ge 16, 3) := by decide +kernel
theorem dX7_forget_13 : decode cX7_forget 13 = .ok (.aload_n 0, 1) := by decide +kernel
theorem dX7_forget_14 : decode cX7_forget 14 = .ok (.getfield 47, 3) := by decide +kernel
theorem dX7_forget_17 : decode cX7_forget 17 = .ok (.iload_n 2, 1) := by decide +kernel
theorem dX7_forget_18 : decode cX7_forget 18 = .ok (.iconst (-1), 1) := by decide +kernel
theorem dX7_forget_19 : decode cX7_forget 19 = .ok (.iastore, 1) := by decide +kernel
theorem dX7_forget_20 : decode cX7_forget 20 = .ok (.iinc 2 1, 3) := by decide +kernel
theorem dX7_forget_23 : decode cX7_forget 23 = .ok (.goto (-16), 3) := by decide +kernel
theorem dX7_forget_26 : decode cX7_forget 26 = .ok (.iload_n 1, 1) := by decide +kernel
theorem dX7_forget_27 : decode cX7_forget 27 = .ok (.ireturn, 1) := by decide +kernel
theorem dX7_isFound_0 : decode cX7_isFound 0 = .ok (.aload_n 0, 1) := by decide +kernel
theorem dX7_isFound_1 : decode cX7_isFound 1 = .ok (.invokevirtual 159, 3) := by decide +kernel
theorem dX7_isFound_4 : decode cX7_isFound 4 = .ok (.iconst 1, 1) := by decide +kernel
theorem dX7_isFound_5 : decode cX7_isFound 5 = .ok (.istore_n 1, 1) := by decide +kernel
theorem dX7_isFound_6 : decode cX7_isFound 6 = .ok (.iconst 0, 1) := by decide +kernel
theorem dX7_isFound_7 : decode cX7_isFound 7 = .ok (.istore_n 2, 1) := by decide +kernel
theorem dX7_isFound_8 : decode cX7_isFound 8 = .ok (.iload_n 2, 1) := by decide +kernel
theorem dX7_isFound_9 : decode cX7_isFound 9 = .ok (.bipush 6, 2) := by decide +kernel
theorem dX7_isFound_11 : decode cX7_isFound 11 = .ok (.if_icmp .ge 104, 3) := by decide +kernel
theorem dX7_isFound_14 : decode cX7_isFound 14 = .ok (.aload_n 0, 1) := by decide +kernel
theorem dX7_isFound_15 : decode cX7_isFound 15 = .ok (.getfield 47, 3) := by decide +kernel
theorem dX7_isFound_18 : decode cX7_isFound 18 = .ok (.iload_n 2, 1) := by decide +kernel
theorem dX7_isFound_19 : decode cX7_isFound 19 = .ok (.iaload, 1) := by decide +kernel
theorem dX7_isFound_20 : decode cX7_isFound 20 = .ok (.iconst (-1), 1) := by decide +kernel
theorem dX7_isFound_21 : decode cX7_isFound 21 = .ok (.if_icmp .eq 88, 3) := by decide +kernel
theorem dX7_isFound_24 : decode cX7_isFound 24 = .ok (.iload_n 1, 1) := by decide +kernel
theorem dX7_isFound_25 : decode cX7_isFound 25 = .ok (.ifCond .eq 27, 3) := by decide +kernel
theorem dX7_isFound_28 : decode cX7_isFound 28 = .ok (.aload_n 0, 1) := by decide +kernel
theorem dX7_isFound_29 : decode cX7_isFound 29 = .ok (.getfield 28, 3) := by decide +kernel
theorem dX7_isFound_32 : decode cX7_isFound 32 = .ok (.bipush 17, 2) := by decide +kernel
theorem dX7_isFound_34 : decode cX7_isFound 34 = .ok (.iload_n 2, 1) := by decide +kernel
theorem dX7_isFound_35 : decode cX7_isFound 35 = .ok (.imul, 1) := by decide +kernel
theorem dX7_isFound_36 : decode cX7_isFound 36 = .ok (.iconst 4, 1) := by decide +kernel
theorem dX7_isFound_37 : decode cX7_isFound 37 = .ok (.iadd, 1) := by decide +kernel
theorem dX7_isFound_38 : decode cX7_isFound 38 = .ok (.iaload, 1) := by decide +kernel
theorem dX7_isFound_39 : decode cX7_isFound 39 = .ok (.aload_n 0, 1) := by decide +kernel
theorem dX7_isFound_40 : decode cX7_isFound 40 = .ok (.getfield 47, 3) := by decide +kernel
theorem dX7_isFound_43 : decode cX7_isFound 43 = .ok (.iload_n 2, 1) := by decide +kernel
theorem dX7_isFound_44 : decode cX7_isFound 44 = .ok (.iaload, 1) := by decide +kernel
theorem dX7_isFound_45 : decode cX7_isFound 45 = .ok (.if_icmp .ne 7, 3) := by decide +kernel
theorem dX7_isFound_48 : decode cX7_isFound 48 = .ok (.iconst 1, 1) := by decide +kernel
theorem dX7_isFound_49 : decode cX7_isFound 49 = .ok (.goto 4, 3) := by decide +kernel
theorem dX7_isFound_52 : decode cX7_isFound 52 = .ok (.iconst 0, 1) := by decide +kernel
theorem dX7_isFound_53 : decode cX7_isFound 53 = .ok (.istore_n 1, 1) := by decide +kernel
theorem dX7_isFound_54 : decode cX7_isFound 54 = .ok (.iconst 0, 1) := by decide +kernel
theorem dX7_isFound_55 : decode cX7_isFound 55 = .ok (.istore_n 3, 1) := by decide +kernel
theorem dX7_isFound_56 : decode cX7_isFound 56 = .ok (.iload_n 3, 1) := by decide +kernel
theorem dX7_isFound_57 : decode cX7_isFound 57 = .ok (.aload_n 0, 1) := by decide +kernel
theorem dX7_isFound_58 : decode cX7_isFound 58 = .ok (.getfield 47, 3) := by decide +kernel
theorem dX7_isFound_61 : decode cX7_isFound 61 = .ok (.iload_n 2, 1) := by decide +kernel
theorem dX7_isFound_62 : decode cX7_isFound 62 = .ok (.iaload, 1) := by decide +kernel
theorem dX7_isFound_63 : decode cX7_isFound 63 = .ok (.if_icmp .ge 46, 3) := by decide +kernel
theorem dX7_isFound_66 : decode cX7_isFound 66 = .ok (.iload_n 1, 1) := by decide +kernel
theorem dX7_isFound_67 : decode cX7_isFound 67 = .ok (.ifCond .eq 34, 3) := by decide +kernel
theorem dX7_isFound_70 : decode cX7_isFound 70 = .ok (.aload_n 0, 1) := by decide +kernel
theorem dX7_isFound_71 : decode cX7_isFound 71 = .ok (.getfield 28, 3) := by decide +kernel
theorem dX7_isFound_74 : decode cX7_isFound 74 = .ok (.bipush 17, 2) := by decide +kernel
theorem dX7_isFound_76 : decode cX7_isFound 76 = .ok (.iload_n 2, 1) := by decide +kernel
theorem dX7_isFound_77 : decode cX7_isFound 77 = .ok (.imul, 1) := by decide +kernel
theorem dX7_isFound_78 : decode cX7_isFound 78 = .ok (.iconst 5, 1) := by decide +kernel
theorem dX7_isFound_79 : decode cX7_isFound 79 = .ok (.iadd, 1) := by decide +kernel
theorem dX7_isFound_80 : decode cX7_isFound 80 = .ok (.iload_n 3, 1) := by decide +kernel
theorem dX7_isFound_81 : decode cX7_isFound 81 = .ok (.iadd, 1) := by decide +kernel
theorem dX7_isFound_82 : decode cX7_isFound 82 = .ok (.iaload, 1) := by decide +kernel
theorem dX7_isFound_83 : decode cX7_isFound 83 = .ok (.aload_n 0, 1) := by decide +kernel
theorem dX7_isFound_84 : decode cX7_isFound 84 = .ok (.getfield 50, 3) := by decide +kernel
theorem dX7_isFound_87 : decode cX7_isFound 87 = .ok (.bipush 8, 2) := by decide +kernel
theorem dX7_isFound_89 : decode cX7_isFound 89 = .ok (.iload_n 2, 1) := by decide +kernel
theorem dX7_isFound_90 : decode cX7_isFound 90 = .ok (.imul, 1) := by decide +kernel
theorem dX7_isFound_91 : decode cX7_isFound 91 = .ok (.iload_n 3, 1) := by decide +kernel
theorem dX7_isFound_92 : decode cX7_isFound 92 = .ok (.iadd, 1) := by decide +kernel
theorem dX7_isFound_93 : decode cX7_isFound 93 = .ok (.iaload, 1) := by decide +kernel
theorem dX7_isFound_94 : decode cX7_isFound 94 = .ok (.if_icmp .ne 7, 3) := by decide +kernel
theorem dX7_isFound_97 : decode cX7_isFound 97 = .ok (.iconst 1, 1) := by decide +kernel
theorem dX7_isFound_98 : decode cX7_isFound 98 = .ok (.goto 4, 3) := by decide +kernel
theorem dX7_isFound_101 : decode cX7_isFound 101 = .ok (.iconst 0, 1) := by decide +kernel
theorem dX7_isFound_102 : decode cX7_isFound 102 = .ok (.istore_n 1, 1) := by decide +kernel
theorem dX7_isFound_103 : decode cX7_isFound 103 = .ok (.iinc 3 1, 3) := by decide +kernel
theorem dX7_isFound_106 : decode cX7_isFound 106 = .ok (.goto (-50), 3) := by decide +kernel
theorem dX7_isFound_109 : decode cX7_isFound 109 = .ok (.iinc 2 1, 3) := by decide +kernel
theorem dX7_isFound_112 : decode cX7_isFound 112 = .ok (.goto (-104), 3) := by decide +kernel
theorem dX7_isFound_115 : decode cX7_isFound 115 = .ok (.iload_n 1, 1) := by decide +kernel
theorem dX7_isFound_116 : decode cX7_isFound 116 = .ok (.ireturn, 1) := by decide +kernel
theorem dX7_kindBits_0 : decode cX7_kindBits 0 = .ok (.aload_n 0, 1) := by decide +kernel
theorem dX7_kindBits_1 : decode cX7_kindBits 1 = .ok (.invokevirtual 150, 3) := by decide +kernel
theorem dX7_kindBits_4 : decode cX7_kindBits 4 = .ok (.iconst 0, 1) := by decide +kernel
theorem dX7_kindBits_5 : decode cX7_kindBits 5 = .ok (.istore_n 2, 1) := by decide +kernel
theorem dX7_kindBits_6 : decode cX7_kindBits 6 = .ok (.iconst 0, 1) := by decide +kernel
theorem dX7_kindBits_7 : decode cX7_kindBits 7 = .ok (.istore_n 3, 1) := by decide +kernel
theorem dX7_kindBits_8 : decode cX7_kindBits 8 = .ok (.iload_n 3, 1) := by decide +kernel
theorem dX7_kindBits_9 : decode cX7_kindBits 9 = .ok (.iconst 5, 1) := by decide +kernel
theorem dX7_kindBits_10 : decode cX7_kindBits 10 = .ok (.if_icmp .ge 33, 3) := by decide +kernel
theorem dX7_kindBits_13 : decode cX7_kindBits 13 = .ok (.aload_n 0, 1) := by decide +kernel
theorem dX7_kindBits_14 : decode cX7_kindBits 14 = .ok (.getfield 31, 3) := by decide +kernel
theorem dX7_kindBits_17 : decode cX7_kindBits 17 = .ok (.iload_n 1, 1) := by decide +kernel
theorem dX7_kindBits_18 : decode cX7_kindBits 18 = .ok (.iload_n 3, 1) := by decide +kernel
theorem dX7_kindBits_19 : decode cX7_kindBits 19 = .ok (.iastore, 1) := by decide +kernel
theorem dX7_kindBits_20 : decode cX7_kindBits 20 = .ok (.iload_n 2, 1) := by decide +kernel
theorem dX7_kindBits_21 : decode cX7_kindBits 21 = .ok (.aload_n 0, 1) := by decide +kernel
theorem dX7_kindBits_22 : decode cX7_kindBits 22 = .ok (.invokevirtual 181, 3) := by decide +kernel
theorem dX7_kindBits_25 : decode cX7_kindBits 25 = .ok (.ifCond .eq 9, 3) := by decide +kernel
theorem dX7_kindBits_28 : decode cX7_kindBits 28 = .ok (.iconst 1, 1) := by decide +kernel
theorem dX7_kindBits_29 : decode cX7_kindBits 29 = .ok (.iload_n 3, 1) := by decide +kernel
theorem dX7_kindBits_30 : decode cX7_kindBits 30 = .ok (.ishl, 1) := by decide +kernel
theorem dX7_kindBits_31 : decode cX7_kindBits 31 = .ok (.goto 4, 3) := by decide +kernel
theorem dX7_kindBits_34 : decode cX7_kindBits 34 = .ok (.iconst 0, 1) := by decide +kernel
theorem dX7_kindBits_35 : decode cX7_kindBits 35 = .ok (.ior, 1) := by decide +kernel
theorem dX7_kindBits_36 : decode cX7_kindBits 36 = .ok (.istore_n 2, 1) := by decide +kernel
theorem dX7_kindBits_37 : decode cX7_kindBits 37 = .ok (.iinc 3 1, 3) := by decide +kernel
theorem dX7_kindBits_40 : decode cX7_kindBits 40 = .ok (.goto (-32), 3) := by decide +kernel
theorem dX7_kindBits_43 : decode cX7_kindBits 43 = .ok (.iload_n 2, 1) := by decide +kernel
theorem dX7_kindBits_44 : decode cX7_kindBits 44 = .ok (.ireturn, 1) := by decide +kernel
theorem dX7_kindOf_0 : decode cX7_kindOf 0 = .ok (.aload_n 0, 1) := by decide +kernel
theorem dX7_kindOf_1 : decode cX7_kindOf 1 = .ok (.iload_n 1, 1) := by decide +kernel
theorem dX7_kindOf_2 : decode cX7_kindOf 2 = .ok (.invokevirtual 119, 3) := by decide +kernel
theorem dX7_kindOf_5 : decode cX7_kindOf 5 = .ok (.ifCond .eq 11, 3) := by decide +kernel
theorem dX7_kindOf_8 : decode cX7_kindOf 8 = .ok (.aload_n 0, 1) := by decide +kernel
theorem dX7_kindOf_9 : decode cX7_kindOf 9 = .ok (.iload_n 1, 1) := by decide +kernel
theorem dX7_kindOf_10 : decode cX7_kindOf 10 = .ok (.invokevirtual 184, 3) := by decide +kernel
theorem dX7_kindOf_13 : decode cX7_kindOf 13 = .ok (.goto 5, 3) := by decide +kernel
theorem dX7_kindOf_16 : decode cX7_kindOf 16 = .ok (.bipush (-101), 2) := by decide +kernel
theorem dX7_kindOf_18 : decode cX7_kindOf 18 = .ok (.ireturn, 1) := by decide +kernel
theorem dX7_letterBits_0 : decode cX7_letterBits 0 = .ok (.aload_n 0, 1) := by decide +kernel
theorem dX7_letterBits_1 : decode cX7_letterBits 1 = .ok (.invokevirtual 150, 3) := by decide +kernel
theorem dX7_letterBits_4 : decode cX7_letterBits 4 = .ok (.iconst 0, 1) := by decide +kernel
theorem dX7_letterBits_5 : decode cX7_letterBits 5 = .ok (.istore_n 2, 1) := by decide +kernel
theorem dX7_letterBits_6 : decode cX7_letterBits 6 = .ok (.iconst 0, 1) := by decide +kernel
theorem dX7_letterBits_7 : decode cX7_letterBits 7 = .ok (.istore_n 3, 1) := by decide +kernel
theorem dX7_letterBits_8 : decode cX7_letterBits 8 = .ok (.iload_n 3, 1) := by decide +kernel
theorem dX7_letterBits_9 : decode cX7_letterBits 9 = .ok (.iconst 5, 1) := by decide +kernel
theorem dX7_letterBits_10 : decode cX7_letterBits 10 = .ok (.if_icmp .ge 33, 3) := by decide +kernel
theorem dX7_letterBits_13 : decode cX7_letterBits 13 = .ok (.aload_n 0, 1) := by decide +kernel
theorem dX7_letterBits_14 : decode cX7_letterBits 14 = .ok (.getfield 37, 3) := by decide +kernel
theorem dX7_letterBits_17 : decode cX7_letterBits 17 = .ok (.iload_n 1, 1) := by decide +kernel
theorem dX7_letterBits_18 : decode cX7_letterBits 18 = .ok (.iload_n 3, 1) := by decide +kernel
theorem dX7_letterBits_19 : decode cX7_letterBits 19 = .ok (.iastore, 1) := by decide +kernel
theorem dX7_letterBits_20 : decode cX7_letterBits 20 = .ok (.iload_n 2, 1) := by decide +kernel
theorem dX7_letterBits_21 : decode cX7_letterBits 21 = .ok (.aload_n 0, 1) := by decide +kernel
theorem dX7_letterBits_22 : decode cX7_letterBits 22 = .ok (.invokevirtual 181, 3) := by decide +kernel
theorem dX7_letterBits_25 : decode cX7_letterBits 25 = .ok (.ifCond .eq 9, 3) := by decide +kernel
theorem dX7_letterBits_28 : decode cX7_letterBits 28 = .ok (.iconst 1, 1) := by decide +kernel
theorem dX7_letterBits_29 : decode cX7_letterBits 29 = .ok (.iload_n 3, 1) := by decide +kernel
theorem dX7_letterBits_30 : decode cX7_letterBits 30 = .ok (.ishl, 1) := by decide +kernel
theorem dX7_letterBits_31 : decode cX7_letterBits 31 = .ok (.goto 4, 3) := by decide +kernel
theorem dX7_letterBits_34 : decode cX7_letterBits 34 = .ok (.iconst 0, 1) := by decide +kernel
theorem dX7_letterBits_35 : decode cX7_letterBits 35 = .ok (.ior, 1) := by decide +kernel
theorem dX7_letterBits_36 : decode cX7_letterBits 36 = .ok (.istore_n 2, 1) := by decide +kernel
theorem dX7_letterBits_37 : decode cX7_letterBits 37 = .ok (.iinc 3 1, 3) := by decide +kernel
theorem dX7_letterBits_40 : decode cX7_letterBits 40 = .ok (.goto (-32), 3) := by decide +kernel
theorem dX7_letterBits_43 : decode cX7_letterBits 43 = .ok (.iload_n 2, 1) := by decide +kernel
theorem dX7_letterBits_44 : decode cX7_letterBits 44 = .ok (.ireturn, 1) := by decide +kernel
theorem dX7_letterOf_0 : decode cX7_letterOf 0 = .ok (.iload_n 1, 1) := by decide +kernel
theorem dX7_letterOf_1 : decode cX7_letterOf 1 = .ok (.i2l, 1) := by decide +kernel
theorem dX7_letterOf_2 : decode cX7_letterOf 2 = .ok (.lconst 0, 1) := by decide +kernel
theorem dX7_letterOf_3 : decode cX7_letterOf 3 = .ok (.aload_n 0, 1) := by decide +kernel
theorem dX7_letterOf_4 : decode cX7_letterOf 4 = .ok (.getfield 109, 3) := by decide +kernel
theorem dX7_letterOf_7 : decode cX7_letterOf 7 = .ok (.iconst 1, 1) := by decide +kernel
theorem dX7_letterOf_8 : decode cX7_letterOf 8 = .ok (.isub, 1) := by decide +kernel
theorem dX7_letterOf_9 : decode cX7_letterOf 9 = .ok (.i2l, 1) := by decide +kernel
theorem dX7_letterOf_10 : decode cX7_letterOf 10 = .ok (.invokestatic 77, 3) := by decide +kernel
theorem dX7_letterOf_13 : decode cX7_letterOf 13 = .ok (.ifCond .eq 11, 3) := by decide +kernel
theorem dX7_letterOf_16 : decode cX7_letterOf 16 = .ok (.aload_n 0, 1) := by decide +kernel
theorem dX7_letterOf_17 : decode cX7_letterOf 17 = .ok (.iload_n 1, 1) := by decide +kernel
theorem dX7_letterOf_18 : decode cX7_letterOf 18 = .ok (.invokevirtual 187, 3) := by decide +kernel
theorem dX7_letterOf_21 : decode cX7_letterOf 21 = .ok (.goto 5, 3) := by decide +kernel
theorem dX7_letterOf_24 : decode cX7_letterOf 24 = .ok (.bipush (-101), 2) := by decide +kernel
theorem dX7_letterOf_26 : decode cX7_letterOf 26 = .ok (.ireturn, 1) := by decide +kernel
theorem dX7_draw_0 : decode cX7_draw 0 = .ok (.aload_n 0, 1) := by decide +kernel
theorem dX7_draw_1 : decode cX7_draw 1 = .ok (.ldc2_w 190, 3) := by decide +kernel
theorem dX7_draw_4 : decode cX7_draw 4 = .ok (.aload_n 0, 1) := by decide +kernel
theorem dX7_draw_5 : decode cX7_draw 5 = .ok (.getfield 192, 3) := by decide +kernel
theorem dX7_draw_8 : decode cX7_draw 8 = .ok (.i2l, 1) := by decide +kernel
theorem dX7_draw_9 : decode cX7_draw 9 = .ok (.lmul, 1) := by decide +kernel
theorem dX7_draw_10 : decode cX7_draw 10 = .ok (.ldc2_w 195, 3) := by decide +kernel
theorem dX7_draw_13 : decode cX7_draw 13 = .ok (.ladd, 1) := by decide +kernel
theorem dX7_draw_14 : decode cX7_draw 14 = .ok (.ldc2_w 197, 3) := by decide +kernel
theorem dX7_draw_17 : decode cX7_draw 17 = .ok (.land, 1) := by decide +kernel
theorem dX7_draw_18 : decode cX7_draw 18 = .ok (.l2i, 1) := by decide +kernel
theorem dX7_draw_19 : decode cX7_draw 19 = .ok (.putfield 192, 3) := by decide +kernel
theorem dX7_draw_22 : decode cX7_draw 22 = .ok (.aload_n 0, 1) := by decide +kernel
theorem dX7_draw_23 : decode cX7_draw 23 = .ok (.getfield 192, 3) := by decide +kernel
theorem dX7_draw_26 : decode cX7_draw 26 = .ok (.ldc 199, 2) := by decide +kernel
theorem dX7_draw_28 : decode cX7_draw 28 = .ok (.idiv, 1) := by decide +kernel
theorem dX7_draw_29 : decode cX7_draw 29 = .ok (.iload_n 1, 1) := by decide +kernel
theorem dX7_draw_30 : decode cX7_draw 30 = .ok (.irem, 1) := by decide +kernel
theorem dX7_draw_31 : decode cX7_draw 31 = .ok (.ireturn, 1) := by decide +kernel
theorem dX7_mornings_0 : decode cX7_mornings 0 = .ok (.iload_n 1, 1) := by decide +kernel
theorem dX7_mornings_1 : decode cX7_mornings 1 = .ok (.i2l, 1) := by decide +kernel
theorem dX7_mornings_2 : decode cX7_mornings 2 = .ok (.lconst 1, 1) := by decide +kernel
theorem dX7_mornings_3 : decode cX7_mornings 3 = .ok (.ldc2_w 200, 3) := by decide +kernel
theorem dX7_mornings_6 : decode cX7_mornings 6 = .ok (.invokestatic 77, 3) := by decide +kernel
theorem dX7_mornings_9 : decode cX7_mornings 9 = .ok (.ifCond .eq 17, 3) := by decide +kernel
theorem dX7_mornings_12 : decode cX7_mornings 12 = .ok (.iload_n 2, 1) := by decide +kernel
theorem dX7_mornings_13 : decode cX7_mornings 13 = .ok (.ifCond .lt 13, 3) := by decide +kernel
theorem dX7_mornings_16 : decode cX7_mornings 16 = .ok (.iload_n 3, 1) := by decide +kernel
theorem dX7_mornings_17 : decode cX7_mornings 17 = .ok (.i2l, 1) := by decide +kernel
theorem dX7_mornings_18 : decode cX7_mornings 18 = .ok (.lconst 0, 1) := by decide +kernel
theorem dX7_mornings_19 : decode cX7_mornings 19 = .ok (.lconst 1, 1) := by decide +kernel
theorem dX7_mornings_20 : decode cX7_mornings 20 = .ok (.invokestatic 77, 3) := by decide +kernel
theorem dX7_mornings_23 : decode cX7_mornings 23 = .ok (.ifCond .ne 6, 3) := by decide +kernel
theorem dX7_mornings_26 : decode cX7_mornings 26 = .ok (.bipush (-102), 2) := by decide +kernel
theorem dX7_mornings_28 : decode cX7_mornings 28 = .ok (.ireturn, 1) := by decide +kernel
theorem dX7_mornings_29 : decode cX7_mornings 29 = .ok (.aload_n 0, 1) := by decide +kernel
theorem dX7_mornings_30 : decode cX7_mornings 30 = .ok (.getfield 101, 3) := by decide +kernel
theorem dX7_mornings_33 : decode cX7_mornings 33 = .ok (.ifCond .ne 6, 3) := by decide +kernel
theorem dX7_mornings_36 : decode cX7_mornings 36 = .ok (.bipush (-103), 2) := by decide +kernel
theorem dX7_mornings_38 : decode cX7_mornings 38 = .ok (.ireturn, 1) := by decide +kernel
theorem dX7_mornings_39 : decode cX7_mornings 39 = .ok (.aload_n 0, 1) := by decide +kernel
theorem dX7_mornings_40 : decode cX7_mornings 40 = .ok (.iload_n 2, 1) := by decide +kernel
theorem dX7_mornings_41 : decode cX7_mornings 41 = .ok (.putfield 192, 3) := by decide +kernel
theorem dX7_mornings_44 : decode cX7_mornings 44 = .ok (.iconst 0, 1) := by decide +kernel
theorem dX7_mornings_45 : decode cX7_mornings 45 = .ok (.istore 4, 2) := by decide +kernel
theorem dX7_mornings_47 : decode cX7_mornings 47 = .ok (.iconst 0, 1) := by decide +kernel
theorem dX7_mornings_48 : decode cX7_mornings 48 = .ok (.istore 5, 2) := by decide +kernel
theorem dX7_mornings_50 : decode cX7_mornings 50 = .ok (.iload 5, 2) := by decide +kernel
theorem dX7_mornings_52 : decode cX7_mornings 52 = .ok (.iload_n 1, 1) := by decide +kernel
theorem dX7_mornings_53 : decode cX7_mornings 53 = .ok (.if_icmp .ge 79, 3) := by decide +kernel
theorem dX7_mornings_56 : decode cX7_mornings 56 = .ok (.aload_n 0, 1) := by decide +kernel
theorem dX7_mornings_57 : decode cX7_mornings 57 = .ok (.getfield 28, 3) := by decide +kernel
theorem dX7_mornings_60 : decode cX7_mornings 60 = .ok (.invokestatic 105, 3) := by decide +kernel
theorem dX7_mornings_63 : decode cX7_mornings 63 = .ok (.iconst 0, 1) := by decide +kernel
theorem dX7_mornings_64 : decode cX7_mornings 64 = .ok (.istore 6, 2) := by decide +kernel
theorem dX7_mornings_66 : decode cX7_mornings 66 = .ok (.iload 6, 2) := by decide +kernel
theorem dX7_mornings_68 : decode cX7_mornings 68 = .ok (.iconst 5, 1) := by decide +kernel
theorem dX7_mornings_69 : decode cX7_mornings 69 = .ok (.if_icmp .ge 45, 3) := by decide +kernel
theorem dX7_mornings_72 : decode cX7_mornings 72 = .ok (.aload_n 0, 1) := by decide +kernel
theorem dX7_mornings_73 : decode cX7_mornings 73 = .ok (.bipush 6, 2) := by decide +kernel
theorem dX7_mornings_75 : decode cX7_mornings 75 = .ok (.invokevirtual 202, 3) := by decide +kernel
theorem dX7_mornings_78 : decode cX7_mornings 78 = .ok (.istore 7, 2) := by decide +kernel
theorem dX7_mornings_80 : decode cX7_mornings 80 = .ok (.aload_n 0, 1) := by decide +kernel
theorem dX7_mornings_81 : decode cX7_mornings 81 = .ok (.iconst 5, 1) := by decide +kernel
theorem dX7_mornings_82 : decode cX7_mornings 82 = .ok (.invokevirtual 202, 3) := by decide +kernel
theorem dX7_mornings_85 : decode cX7_mornings 85 = .ok (.istore 8, 2) := by decide +kernel
theorem dX7_mornings_87 : decode cX7_mornings 87 = .ok (.aload_n 0, 1) := by decide +kernel
theorem dX7_mornings_88 : decode cX7_mornings 88 = .ok (.getfield 28, 3) := by decide +kernel
theorem dX7_mornings_91 : decode cX7_mornings 91 = .ok (.aload_n 0, 1) := by decide +kernel
theorem dX7_mornings_92 : decode cX7_mornings 92 = .ok (.getfield 13, 3) := by decide +kernel
theorem dX7_mornings_95 : decode cX7_mornings 95 = .ok (.aload_n 0, 1) := by decide +kernel
theorem dX7_mornings_96 : decode cX7_mornings 96 = .ok (.getfield 16, 3) := by decide +kernel
theorem dX7_mornings_99 : decode cX7_mornings 99 = .ok (.iload 7, 2) := by decide +kernel
theorem dX7_mornings_101 : decode cX7_mornings 101 = .ok (.iload 8, 2) := by decide +kernel
theorem dX7_mornings_103 : decode cX7_mornings 103 = .ok (.invokestatic 133, 3) := by decide +kernel
theorem dX7_mornings_106 : decode cX7_mornings 106 = .ok (.istore 9, 2) := by decide +kernel
theorem dX7_mornings_108 : decode cX7_mornings 108 = .ok (.iinc 6 1, 3) := by decide +kernel
theorem dX7_mornings_111 : decode cX7_mornings 111 = .ok (.goto (-45), 3) := by decide +kernel
theorem dX7_mornings_114 : decode cX7_mornings 114 = .ok (.iload 4, 2) := by decide +kernel
theorem dX7_mornings_116 : decode cX7_mornings 116 = .ok (.aload_n 0, 1) := by decide +kernel
theorem dX7_mornings_117 : decode cX7_mornings 117 = .ok (.getfield 28, 3) := by decide +kernel
theorem dX7_mornings_120 : decode cX7_mornings 120 = .ok (.invokestatic 174, 3) := by decide +kernel
theorem dX7_mornings_123 : decode cX7_mornings 123 = .ok (.iadd, 1) := by decide +kernel
theorem dX7_mornings_124 : decode cX7_mornings 124 = .ok (.istore 4, 2) := by decide +kernel
theorem dX7_mornings_126 : decode cX7_mornings 126 = .ok (.iinc 5 1, 3) := by decide +kernel
theorem dX7_mornings_129 : decode cX7_mornings 129 = .ok (.goto (-79), 3) := by decide +kernel
theorem dX7_mornings_132 : decode cX7_mornings 132 = .ok (.iload_n 3, 1) := by decide +kernel
theorem dX7_mornings_133 : decode cX7_mornings 133 = .ok (.ifCond .ne 8, 3) := by decide +kernel
theorem dX7_mornings_136 : decode cX7_mornings 136 = .ok (.iload 4, 2) := by decide +kernel
theorem dX7_mornings_138 : decode cX7_mornings 138 = .ok (.goto 7, 3) := by decide +kernel
theorem dX7_mornings_141 : decode cX7_mornings 141 = .ok (.aload_n 0, 1) := by decide +kernel
theorem dX7_mornings_142 : decode cX7_mornings 142 = .ok (.getfield 192, 3) := by decide +kernel
theorem dX7_mornings_145 : decode cX7_mornings 145 = .ok (.ireturn, 1) := by decide +kernel
theorem dX7_image_0 : decode cX7_image 0 = .ok (.aload_n 0, 1) := by decide +kernel
theorem dX7_image_1 : decode cX7_image 1 = .ok (.getfield 101, 3) := by decide +kernel
theorem dX7_image_4 : decode cX7_image 4 = .ok (.ifCond .ne 6, 3) := by decide +kernel
theorem dX7_image_7 : decode cX7_image 7 = .ok (.bipush (-103), 2) := by decide +kernel
theorem dX7_image_9 : decode cX7_image 9 = .ok (.ireturn, 1) := by decide +kernel
theorem dX7_image_10 : decode cX7_image 10 = .ok (.aload_n 0, 1) := by decide +kernel
theorem dX7_image_11 : decode cX7_image 11 = .ok (.getfield 16, 3) := by decide +kernel
theorem dX7_image_14 : decode cX7_image 14 = .ok (.aload_n 0, 1) := by decide +kernel
theorem dX7_image_15 : decode cX7_image 15 = .ok (.getfield 53, 3) := by decide +kernel
theorem dX7_image_18 : decode cX7_image 18 = .ok (.invokestatic 137, 3) := by decide +kernel
theorem dX7_image_21 : decode cX7_image 21 = .ok (.aload_n 0, 1) := by decide +kernel
theorem dX7_image_22 : decode cX7_image 22 = .ok (.getfield 19, 3) := by decide +kernel
theorem dX7_image_25 : decode cX7_image 25 = .ok (.aload_n 0, 1) := by decide +kernel
theorem dX7_image_26 : decode cX7_image 26 = .ok (.getfield 56, 3) := by decide +kernel
theorem dX7_image_29 : decode cX7_image 29 = .ok (.invokestatic 137, 3) := by decide +kernel
theorem dX7_image_32 : decode cX7_image 32 = .ok (.aload_n 0, 1) := by decide +kernel
theorem dX7_image_33 : decode cX7_image 33 = .ok (.getfield 22, 3) := by decide +kernel
theorem dX7_image_36 : decode cX7_image 36 = .ok (.aload_n 0, 1) := by decide +kernel
theorem dX7_image_37 : decode cX7_image 37 = .ok (.getfield 59, 3) := by decide +kernel
theorem dX7_image_40 : decode cX7_image 40 = .ok (.invokestatic 137, 3) := by decide +kernel
theorem dX7_image_43 : decode cX7_image 43 = .ok (.aload_n 0, 1) := by decide +kernel
theorem dX7_image_44 : decode cX7_image 44 = .ok (.getfield 25, 3) := by decide +kernel
theorem dX7_image_47 : decode cX7_image 47 = .ok (.aload_n 0, 1) := by decide +kernel
theorem dX7_image_48 : decode cX7_image 48 = .ok (.getfield 62, 3) := by decide +kernel
theorem dX7_image_51 : decode cX7_image 51 = .ok (.invokestatic 137, 3) := by decide +kernel
theorem dX7_image_54 : decode cX7_image 54 = .ok (.aload_n 0, 1) := by decide +kernel
theorem dX7_image_55 : decode cX7_image 55 = .ok (.getfield 47, 3) := by decide +kernel
theorem dX7_image_58 : decode cX7_image 58 = .ok (.aload_n 0, 1) := by decide +kernel
theorem dX7_image_59 : decode cX7_image 59 = .ok (.getfield 65, 3) := by decide +kernel
theorem dX7_image_62 : decode cX7_image 62 = .ok (.invokestatic 137, 3) := by decide +kernel
theorem dX7_image_65 : decode cX7_image 65 = .ok (.aload_n 0, 1) := by decide +kernel
theorem dX7_image_66 : decode cX7_image 66 = .ok (.getfield 50, 3) := by decide +kernel
theorem dX7_image_69 : decode cX7_image 69 = .ok (.aload_n 0, 1) := by decide +kernel
theorem dX7_image_70 : decode cX7_image 70 = .ok (.getfield 68, 3) := by decide +kernel
theorem dX7_image_73 : decode cX7_image 73 = .ok (.invokestatic 137, 3) := by decide +kernel
theorem dX7_image_76 : decode cX7_image 76 = .ok (.aload_n 0, 1) := by decide +kernel
theorem dX7_image_77 : decode cX7_image 77 = .ok (.aload_n 0, 1) := by decide +kernel
theorem dX7_image_78 : decode cX7_image 78 = .ok (.getfield 109, 3) := by decide +kernel
theorem dX7_image_81 : decode cX7_image 81 = .ok (.putfield 205, 3) := by decide +kernel
theorem dX7_image_84 : decode cX7_image 84 = .ok (.aload_n 0, 1) := by decide +kernel
theorem dX7_image_85 : decode cX7_image 85 = .ok (.aload_n 0, 1) := by decide +kernel
theorem dX7_image_86 : decode cX7_image 86 = .ok (.getfield 112, 3) := by decide +kernel
theorem dX7_image_89 : decode cX7_image 89 = .ok (.putfield 71, 3) := by decide +kernel
theorem dX7_image_92 : decode cX7_image 92 = .ok (.aload_n 0, 1) := by decide +kernel
theorem dX7_image_93 : decode cX7_image 93 = .ok (.getfield 109, 3) := by decide +kernel
theorem dX7_image_96 : decode cX7_image 96 = .ok (.ireturn, 1) := by decide +kernel
theorem dX7_restore_0 : decode cX7_restore 0 = .ok (.aload_n 0, 1) := by decide +kernel
theorem dX7_restore_1 : decode cX7_restore 1 = .ok (.getfield 71, 3) := by decide +kernel
theorem dX7_restore_4 : decode cX7_restore 4 = .ok (.aload_n 0, 1) := by decide +kernel
theorem dX7_restore_5 : decode cX7_restore 5 = .ok (.getfield 112, 3) := by decide +kernel
theorem dX7_restore_8 : decode cX7_restore 8 = .ok (.if_icmp .eq 6, 3) := by decide +kernel
theorem dX7_restore_11 : decode cX7_restore 11 = .ok (.bipush (-103), 2) := by decide +kernel
theorem dX7_restore_13 : decode cX7_restore 13 = .ok (.ireturn, 1) := by decide +kernel
theorem dX7_restore_14 : decode cX7_restore 14 = .ok (.aload_n 0, 1) := by decide +kernel
theorem dX7_restore_15 : decode cX7_restore 15 = .ok (.getfield 53, 3) := by decide +kernel
theorem dX7_restore_18 : decode cX7_restore 18 = .ok (.aload_n 0, 1) := by decide +kernel
theorem dX7_restore_19 : decode cX7_restore 19 = .ok (.getfield 16, 3) := by decide +kernel
theorem dX7_restore_22 : decode cX7_restore 22 = .ok (.invokestatic 137, 3) := by decide +kernel
theorem dX7_restore_25 : decode cX7_restore 25 = .ok (.aload_n 0, 1) := by decide +kernel
theorem dX7_restore_26 : decode cX7_restore 26 = .ok (.getfield 56, 3) := by decide +kernel
theorem dX7_restore_29 : decode cX7_restore 29 = .ok (.aload_n 0, 1) := by decide +kernel
theorem dX7_restore_30 : decode cX7_restore 30 = .ok (.getfield 19, 3) := by decide +kernel
theorem dX7_restore_33 : decode cX7_restore 33 = .ok (.invokestatic 137, 3) := by decide +kernel
theorem dX7_restore_36 : decode cX7_restore 36 = .ok (.aload_n 0, 1) := by decide +kernel
theorem dX7_restore_37 : decode cX7_restore 37 = .ok (.getfield 59, 3) := by decide +kernel
theorem dX7_restore_40 : decode cX7_restore 40 = .ok (.aload_n 0, 1) := by decide +kernel
theorem dX7_restore_41 : decode cX7_restore 41 = .ok (.getfield 22, 3) := by decide +kernel
theorem dX7_restore_44 : decode cX7_restore 44 = .ok (.invokestatic 137, 3) := by decide +kernel
theorem dX7_restore_47 : decode cX7_restore 47 = .ok (.aload_n 0, 1) := by decide +kernel
theorem dX7_restore_48 : decode cX7_restore 48 = .ok (.getfield 62, 3) := by decide +kernel
theorem dX7_restore_51 : decode cX7_restore 51 = .ok (.aload_n 0, 1) := by decide +kernel
theorem dX7_restore_52 : decode cX7_restore 52 = .ok (.getfield 25, 3) := by decide +kernel
theorem dX7_restore_55 : decode cX7_restore 55 = .ok (.invokestatic 137, 3) := by decide +kernel
theorem dX7_restore_58 : decode cX7_restore 58 = .ok (.aload_n 0, 1) := by decide +kernel
theorem dX7_restore_59 : decode cX7_restore 59 = .ok (.getfield 65, 3) := by decide +kernel
theorem dX7_restore_62 : decode cX7_restore 62 = .ok (.aload_n 0, 1) := by decide +kernel
theorem dX7_restore_63 : decode cX7_restore 63 = .ok (.getfield 47, 3) := by decide +kernel
theorem dX7_restore_66 : decode cX7_restore 66 = .ok (.invokestatic 137, 3) := by decide +kernel
theorem dX7_restore_69 : decode cX7_restore 69 = .ok (.aload_n 0, 1) := by decide +kernel
theorem dX7_restore_70 : decode cX7_restore 70 = .ok (.getfield 68, 3) := by decide +kernel
theorem dX7_restore_73 : decode cX7_restore 73 = .ok (.aload_n 0, 1) := by decide +kernel
theorem dX7_restore_74 : decode cX7_restore 74 = .ok (.getfield 50, 3) := by decide +kernel
theorem dX7_restore_77 : decode cX7_restore 77 = .ok (.invokestatic 137, 3) := by decide +kernel
theorem dX7_restore_80 : decode cX7_restore 80 = .ok (.aload_n 0, 1) := by decide +kernel
theorem dX7_restore_81 : decode cX7_restore 81 = .ok (.aload_n 0, 1) := by decide +kernel
theorem dX7_restore_82 : decode cX7_restore 82 = .ok (.getfield 205, 3) := by decide +kernel
theorem dX7_restore_85 : decode cX7_restore 85 = .ok (.putfield 109, 3) := by decide +kernel
theorem dX7_restore_88 : decode cX7_restore 88 = .ok (.aload_n 0, 1) := by decide +kernel
theorem dX7_restore_89 : decode cX7_restore 89 = .ok (.getfield 109, 3) := by decide +kernel
theorem dX7_restore_92 : decode cX7_restore 92 = .ok (.ireturn, 1) := by decide +kernel
theorem dX7_countOf_0 : decode cX7_countOf 0 = .ok (.iconst 0, 1) := by decide +kernel
theorem dX7_countOf_1 : decode cX7_countOf 1 = .ok (.istore_n 2, 1) := by decide +kernel
theorem dX7_countOf_2 : decode cX7_countOf 2 = .ok (.iconst 0, 1) := by decide +kernel
theorem dX7_countOf_3 : decode cX7_countOf 3 = .ok (.istore_n 3, 1) := by decide +kernel
theorem dX7_countOf_4 : decode cX7_countOf 4 = .ok (.iconst 0, 1) := by decide +kernel
theorem dX7_countOf_5 : decode cX7_countOf 5 = .ok (.istore 4, 2) := by decide +kernel
theorem dX7_countOf_7 : decode cX7_countOf 7 = .ok (.iload 4, 2) := by decide +kernel
theorem dX7_countOf_9 : decode cX7_countOf 9 = .ok (.bipush 6, 2) := by decide +kernel
theorem dX7_countOf_11 : decode cX7_countOf 11 = .ok (.if_icmp .ge 59, 3) := by decide +kernel
theorem dX7_countOf_14 : decode cX7_countOf 14 = .ok (.iload_n 2, 1) := by decide +kernel
theorem dX7_countOf_15 : decode cX7_countOf 15 = .ok (.aload_n 0, 1) := by decide +kernel
theorem dX7_countOf_16 : decode cX7_countOf 16 = .ok (.getfield 19, 3) := by decide +kernel
theorem dX7_countOf_19 : decode cX7_countOf 19 = .ok (.bipush 17, 2) := by decide +kernel
theorem dX7_countOf_21 : decode cX7_countOf 21 = .ok (.iload 4, 2) := by decide +kernel
theorem dX7_countOf_23 : decode cX7_countOf 23 = .ok (.imul, 1) := by decide +kernel
theorem dX7_countOf_24 : decode cX7_countOf 24 = .ok (.iconst 3, 1) := by decide +kernel
theorem dX7_countOf_25 : decode cX7_countOf 25 = .ok (.iadd, 1) := by decide +kernel
theorem dX7_countOf_26 : decode cX7_countOf 26 = .ok (.iaload, 1) := by decide +kernel
theorem dX7_countOf_27 : decode cX7_countOf 27 = .ok (.iadd, 1) := by decide +kernel
theorem dX7_countOf_28 : decode cX7_countOf 28 = .ok (.istore_n 2, 1) := by decide +kernel
theorem dX7_countOf_29 : decode cX7_countOf 29 = .ok (.iload_n 3, 1) := by decide +kernel
theorem dX7_countOf_30 : decode cX7_countOf 30 = .ok (.aload_n 0, 1) := by decide +kernel
theorem dX7_countOf_31 : decode cX7_countOf 31 = .ok (.getfield 13, 3) := by decide +kernel
theorem dX7_countOf_34 : decode cX7_countOf 34 = .ok (.iload 4, 2) := by decide +kernel
theorem dX7_countOf_36 : decode cX7_countOf 36 = .ok (.iaload, 1) := by decide +kernel
theorem dX7_countOf_37 : decode cX7_countOf 37 = .ok (.iconst 1, 1) := by decide +kernel
theorem dX7_countOf_38 : decode cX7_countOf 38 = .ok (.if_icmp .ne 23, 3) := by decide +kernel
theorem dX7_countOf_41 : decode cX7_countOf 41 = .ok (.aload_n 0, 1) := by decide +kernel
theorem dX7_countOf_42 : decode cX7_countOf 42 = .ok (.getfield 19, 3) := by decide +kernel
theorem dX7_countOf_45 : decode cX7_countOf 45 = .ok (.bipush 17, 2) := by decide +kernel
theorem dX7_countOf_47 : decode cX7_countOf 47 = .ok (.iload 4, 2) := by decide +kernel
theorem dX7_countOf_49 : decode cX7_countOf 49 = .ok (.imul, 1) := by decide +kernel
theorem dX7_countOf_50 : decode cX7_countOf 50 = .ok (.iconst 1, 1) := by decide +kernel
theorem dX7_countOf_51 : decode cX7_countOf 51 = .ok (.iadd, 1) := by decide +kernel
theorem dX7_countOf_52 : decode cX7_countOf 52 = .ok (.iaload, 1) := by decide +kernel
theorem dX7_countOf_53 : decode cX7_countOf 53 = .ok (.iconst (-1), 1) := by decide +kernel
theorem dX7_countOf_54 : decode cX7_countOf 54 = .ok (.if_icmp .eq 7, 3) := by decide +kernel
theorem dX7_countOf_57 : decode cX7_countOf 57 = .ok (.iconst 1, 1) := by decide +kernel
theorem dX7_countOf_58 : decode cX7_countOf 58 = .ok (.goto 4, 3) := by decide +kernel
theorem dX7_countOf_61 : decode cX7_countOf 61 = .ok (.iconst 0, 1) := by decide +kernel
theorem dX7_countOf_62 : decode cX7_countOf 62 = .ok (.iadd, 1) := by decide +kernel
theorem dX7_countOf_63 : decode cX7_countOf 63 = .ok (.istore_n 3, 1) := by decide +kernel
theorem dX7_countOf_64 : decode cX7_countOf 64 = .ok (.iinc 4 1, 3) := by decide +kernel
theorem dX7_countOf_67 : decode cX7_countOf 67 = .ok (.goto (-60), 3) := by decide +kernel
theorem dX7_countOf_70 : decode cX7_countOf 70 = .ok (.iload_n 1, 1) := by decide +kernel
theorem dX7_countOf_71 : decode cX7_countOf 71 = .ok (.tableswitch 118 0 10 #[57, 71, 76, 81, 89, 91, 93, 98, 103, 108, 113], 57) := by decide +kernel
theorem dX7_countOf_128 : decode cX7_countOf 128 = .ok (.aload_n 0, 1) := by decide +kernel
theorem dX7_countOf_129 : decode cX7_countOf 129 = .ok (.getfield 101, 3) := by decide +kernel
theorem dX7_countOf_132 : decode cX7_countOf 132 = .ok (.ifCond .eq 8, 3) := by decide +kernel
theorem dX7_countOf_135 : decode cX7_countOf 135 = .ok (.bipush 6, 2) := by decide +kernel
theorem dX7_countOf_137 : decode cX7_countOf 137 = .ok (.goto 4, 3) := by decide +kernel
theorem dX7_countOf_140 : decode cX7_countOf 140 = .ok (.iconst 0, 1) := by decide +kernel
theorem dX7_countOf_141 : decode cX7_countOf 141 = .ok (.ireturn, 1) := by decide +kernel
theorem dX7_countOf_142 : decode cX7_countOf 142 = .ok (.aload_n 0, 1) := by decide +kernel
theorem dX7_countOf_143 : decode cX7_countOf 143 = .ok (.invokevirtual 115, 3) := by decide +kernel
theorem dX7_countOf_146 : decode cX7_countOf 146 = .ok (.ireturn, 1) := by decide +kernel
theorem dX7_countOf_147 : decode cX7_countOf 147 = .ok (.aload_n 0, 1) := by decide +kernel
theorem dX7_countOf_148 : decode cX7_countOf 148 = .ok (.getfield 109, 3) := by decide +kernel
theorem dX7_countOf_151 : decode cX7_countOf 151 = .ok (.ireturn, 1) := by decide +kernel
theorem dX7_countOf_152 : decode cX7_countOf 152 = .ok (.aload_n 0, 1) := by decide +kernel
theorem dX7_countOf_153 : decode cX7_countOf 153 = .ok (.getfield 19, 3) := by decide +kernel
theorem dX7_countOf_156 : decode cX7_countOf 156 = .ok (.invokestatic 174, 3) := by decide +kernel
theorem dX7_countOf_159 : decode cX7_countOf 159 = .ok (.ireturn, 1) := by decide +kernel
theorem dX7_countOf_160 : decode cX7_countOf 160 = .ok (.iload_n 2, 1) := by decide +kernel
theorem dX7_countOf_161 : decode cX7_countOf 161 = .ok (.ireturn, 1) := by decide +kernel
theorem dX7_countOf_162 : decode cX7_countOf 162 = .ok (.iload_n 3, 1) := by decide +kernel
theorem dX7_countOf_163 : decode cX7_countOf 163 = .ok (.ireturn, 1) := by decide +kernel
theorem dX7_countOf_164 : decode cX7_countOf 164 = .ok (.aload_n 0, 1) := by decide +kernel
theorem dX7_countOf_165 : decode cX7_countOf 165 = .ok (.invokevirtual 178, 3) := by decide +kernel
theorem dX7_countOf_168 : decode cX7_countOf 168 = .ok (.ireturn, 1) := by decide +kernel
theorem dX7_countOf_169 : decode cX7_countOf 169 = .ok (.aload_n 0, 1) := by decide +kernel
theorem dX7_countOf_170 : decode cX7_countOf 170 = .ok (.getfield 81, 3) := by decide +kernel
theorem dX7_countOf_173 : decode cX7_countOf 173 = .ok (.ireturn, 1) := by decide +kernel
theorem dX7_countOf_174 : decode cX7_countOf 174 = .ok (.aload_n 0, 1) := by decide +kernel
theorem dX7_countOf_175 : decode cX7_countOf 175 = .ok (.getfield 112, 3) := by decide +kernel
theorem dX7_countOf_178 : decode cX7_countOf 178 = .ok (.ireturn, 1) := by decide +kernel
theorem dX7_countOf_179 : decode cX7_countOf 179 = .ok (.aload_n 0, 1) := by decide +kernel
theorem dX7_countOf_180 : decode cX7_countOf 180 = .ok (.getfield 147, 3) := by decide +kernel
theorem dX7_countOf_183 : decode cX7_countOf 183 = .ok (.ireturn, 1) := by decide +kernel
theorem dX7_countOf_184 : decode cX7_countOf 184 = .ok (.aload_n 0, 1) := by decide +kernel
theorem dX7_countOf_185 : decode cX7_countOf 185 = .ok (.getfield 165, 3) := by decide +kernel
theorem dX7_countOf_188 : decode cX7_countOf 188 = .ok (.ireturn, 1) := by decide +kernel
theorem dX7_countOf_189 : decode cX7_countOf 189 = .ok (.bipush (-102), 2) := by decide +kernel
theorem dX7_countOf_191 : decode cX7_countOf 191 = .ok (.ireturn, 1) := by decide +kernel
theorem dX7_count_0 : decode cX7_count 0 = .ok (.aload_n 0, 1) := by decide +kernel
theorem dX7_count_1 : decode cX7_count 1 = .ok (.iload_n 1, 1) := by decide +kernel
theorem dX7_count_2 : decode cX7_count 2 = .ok (.invokevirtual 208, 3) := by decide +kernel
theorem dX7_count_5 : decode cX7_count 5 = .ok (.ireturn, 1) := by decide +kernel
theorem dX7_say_0 : decode cX7_say 0 = .ok (.aload_n 0, 1) := by decide +kernel
theorem dX7_say_1 : decode cX7_say 1 = .ok (.ldc2_w 211, 3) := by decide +kernel
theorem dX7_say_4 : decode cX7_say 4 = .ok (.aload_n 0, 1) := by decide +kernel
theorem dX7_say_5 : decode cX7_say 5 = .ok (.getfield 213, 3) := by decide +kernel
theorem dX7_say_8 : decode cX7_say 8 = .ok (.lmul, 1) := by decide +kernel
theorem dX7_say_9 : decode cX7_say 9 = .ok (.lload_n 1, 1) := by decide +kernel
theorem dX7_say_10 : decode cX7_say 10 = .ok (.ladd, 1) := by decide +kernel
theorem dX7_say_11 : decode cX7_say 11 = .ok (.putfield 213, 3) := by decide +kernel
theorem dX7_say_14 : decode cX7_say 14 = .ok (.return_, 1) := by decide +kernel
theorem dX7_sayGutter_0 : decode cX7_sayGutter 0 = .ok (.iconst 0, 1) := by decide +kernel
theorem dX7_sayGutter_1 : decode cX7_sayGutter 1 = .ok (.istore_n 2, 1) := by decide +kernel
theorem dX7_sayGutter_2 : decode cX7_sayGutter 2 = .ok (.iload_n 2, 1) := by decide +kernel
theorem dX7_sayGutter_3 : decode cX7_sayGutter 3 = .ok (.bipush 6, 2) := by decide +kernel
theorem dX7_sayGutter_5 : decode cX7_sayGutter 5 = .ok (.if_icmp .ge 20, 3) := by decide +kernel
theorem dX7_sayGutter_8 : decode cX7_sayGutter 8 = .ok (.aload_n 0, 1) := by decide +kernel
theorem dX7_sayGutter_9 : decode cX7_sayGutter 9 = .ok (.aload_n 0, 1) := by decide +kernel
theorem dX7_sayGutter_10 : decode cX7_sayGutter 10 = .ok (.iload_n 1, 1) := by decide +kernel
theorem dX7_sayGutter_11 : decode cX7_sayGutter 11 = .ok (.iload_n 2, 1) := by decide +kernel
theorem dX7_sayGutter_12 : decode cX7_sayGutter 12 = .ok (.invokevirtual 123, 3) := by decide +kernel
theorem dX7_sayGutter_15 : decode cX7_sayGutter 15 = .ok (.i2l, 1) := by decide +kernel
theorem dX7_sayGutter_16 : decode cX7_sayGutter 16 = .ok (.invokevirtual 217, 3) := by decide +kernel
theorem dX7_sayGutter_19 : decode cX7_sayGutter 19 = .ok (.iinc 2 1, 3) := by decide +kernel
theorem dX7_sayGutter_22 : decode cX7_sayGutter 22 = .ok (.goto (-20), 3) := by decide +kernel
theorem dX7_sayGutter_25 : decode cX7_sayGutter 25 = .ok (.iconst 0, 1) := by decide +kernel
theorem dX7_sayGutter_26 : decode cX7_sayGutter 26 = .ok (.istore_n 2, 1) := by decide +kernel
theorem dX7_sayGutter_27 : decode cX7_sayGutter 27 = .ok (.iload_n 2, 1) := by decide +kernel
theorem dX7_sayGutter_28 : decode cX7_sayGutter 28 = .ok (.aload_n 0, 1) := by decide +kernel
theorem dX7_sayGutter_29 : decode cX7_sayGutter 29 = .ok (.getfield 19, 3) := by decide +kernel
theorem dX7_sayGutter_32 : decode cX7_sayGutter 32 = .ok (.bipush 17, 2) := by decide +kernel
theorem dX7_sayGutter_34 : decode cX7_sayGutter 34 = .ok (.iload_n 1, 1) := by decide +kernel
theorem dX7_sayGutter_35 : decode cX7_sayGutter 35 = .ok (.imul, 1) := by decide +kernel
theorem dX7_sayGutter_36 : decode cX7_sayGutter 36 = .ok (.iconst 4, 1) := by decide +kernel
theorem dX7_sayGutter_37 : decode cX7_sayGutter 37 = .ok (.iadd, 1) := by decide +kernel
theorem dX7_sayGutter_38 : decode cX7_sayGutter 38 = .ok (.iaload, 1) := by decide +kernel
theorem dX7_sayGutter_39 : decode cX7_sayGutter 39 = .ok (.if_icmp .ge 27, 3) := by decide +kernel
theorem dX7_sayGutter_42 : decode cX7_sayGutter 42 = .ok (.aload_n 0, 1) := by decide +kernel
theorem dX7_sayGutter_43 : decode cX7_sayGutter 43 = .ok (.aload_n 0, 1) := by decide +kernel
theorem dX7_sayGutter_44 : decode cX7_sayGutter 44 = .ok (.getfield 19, 3) := by decide +kernel
theorem dX7_sayGutter_47 : decode cX7_sayGutter 47 = .ok (.bipush 17, 2) := by decide +kernel
theorem dX7_sayGutter_49 : decode cX7_sayGutter 49 = .ok (.iload_n 1, 1) := by decide +kernel
theorem dX7_sayGutter_50 : decode cX7_sayGutter 50 = .ok (.imul, 1) := by decide +kernel
theorem dX7_sayGutter_51 : decode cX7_sayGutter 51 = .ok (.iconst 5, 1) := by decide +kernel
theorem dX7_sayGutter_52 : decode cX7_sayGutter 52 = .ok (.iadd, 1) := by decide +kernel
theorem dX7_sayGutter_53 : decode cX7_sayGutter 53 = .ok (.iload_n 2, 1) := by decide +kernel
theorem dX7_sayGutter_54 : decode cX7_sayGutter 54 = .ok (.iadd, 1) := by decide +kernel
theorem dX7_sayGutter_55 : decode cX7_sayGutter 55 = .ok (.iaload, 1) := by decide +kernel
theorem dX7_sayGutter_56 : decode cX7_sayGutter 56 = .ok (.i2l, 1) := by decide +kernel
theorem dX7_sayGutter_57 : decode cX7_sayGutter 57 = .ok (.invokevirtual 217, 3) := by decide +kernel
theorem dX7_sayGutter_60 : decode cX7_sayGutter 60 = .ok (.iinc 2 1, 3) := by decide +kernel
theorem dX7_sayGutter_63 : decode cX7_sayGutter 63 = .ok (.goto (-36), 3) := by decide +kernel
theorem dX7_sayGutter_66 : decode cX7_sayGutter 66 = .ok (.aload_n 0, 1) := by decide +kernel
theorem dX7_sayGutter_67 : decode cX7_sayGutter 67 = .ok (.aload_n 0, 1) := by decide +kernel
theorem dX7_sayGutter_68 : decode cX7_sayGutter 68 = .ok (.iload_n 1, 1) := by decide +kernel
theorem dX7_sayGutter_69 : decode cX7_sayGutter 69 = .ok (.invokevirtual 184, 3) := by decide +kernel
theorem dX7_sayGutter_72 : decode cX7_sayGutter 72 = .ok (.i2l, 1) := by decide +kernel
theorem dX7_sayGutter_73 : decode cX7_sayGutter 73 = .ok (.invokevirtual 217, 3) := by decide +kernel
theorem dX7_sayGutter_76 : decode cX7_sayGutter 76 = .ok (.return_, 1) := by decide +kernel
theorem dX7_digest_0 : decode cX7_digest 0 = .ok (.aload_n 0, 1) := by decide +kernel
theorem dX7_digest_1 : decode cX7_digest 1 = .ok (.ldc2_w 221, 3) := by decide +kernel
theorem dX7_digest_4 : decode cX7_digest 4 = .ok (.putfield 213, 3) := by decide +kernel
theorem dX7_digest_7 : decode cX7_digest 7 = .ok (.iconst 0, 1) := by decide +kernel
theorem dX7_digest_8 : decode cX7_digest 8 = .ok (.istore_n 1, 1) := by decide +kernel
theorem dX7_digest_9 : decode cX7_digest 9 = .ok (.iload_n 1, 1) := by decide +kernel
theorem dX7_digest_10 : decode cX7_digest 10 = .ok (.bipush 6, 2) := by decide +kernel
theorem dX7_digest_12 : decode cX7_digest 12 = .ok (.if_icmp .ge 21, 3) := by decide +kernel
theorem dX7_digest_15 : decode cX7_digest 15 = .ok (.aload_n 0, 1) := by decide +kernel
theorem dX7_digest_16 : decode cX7_digest 16 = .ok (.getfield 101, 3) := by decide +kernel
theorem dX7_digest_19 : decode cX7_digest 19 = .ok (.ifCond .eq 14, 3) := by decide +kernel
theorem dX7_digest_22 : decode cX7_digest 22 = .ok (.aload_n 0, 1) := by decide +kernel
theorem dX7_digest_23 : decode cX7_digest 23 = .ok (.iload_n 1, 1) := by decide +kernel
theorem dX7_digest_24 : decode cX7_digest 24 = .ok (.invokevirtual 223, 3) := by decide +kernel
theorem dX7_digest_27 : decode cX7_digest 27 = .ok (.iinc 1 1, 3) := by decide +kernel
theorem dX7_digest_30 : decode cX7_digest 30 = .ok (.goto (-21), 3) := by decide +kernel
theorem dX7_digest_33 : decode cX7_digest 33 = .ok (.iconst 0, 1) := by decide +kernel
theorem dX7_digest_34 : decode cX7_digest 34 = .ok (.istore_n 1, 1) := by decide +kernel
theorem dX7_digest_35 : decode cX7_digest 35 = .ok (.iload_n 1, 1) := by decide +kernel
theorem dX7_digest_36 : decode cX7_digest 36 = .ok (.aload_n 0, 1) := by decide +kernel
theorem dX7_digest_37 : decode cX7_digest 37 = .ok (.getfield 109, 3) := by decide +kernel
theorem dX7_digest_40 : decode cX7_digest 40 = .ok (.if_icmp .ge 41, 3) := by decide +kernel
theorem dX7_digest_43 : decode cX7_digest 43 = .ok (.aload_n 0, 1) := by decide +kernel
theorem dX7_digest_44 : decode cX7_digest 44 = .ok (.aload_n 0, 1) := by decide +kernel
theorem dX7_digest_45 : decode cX7_digest 45 = .ok (.getfield 22, 3) := by decide +kernel
theorem dX7_digest_48 : decode cX7_digest 48 = .ok (.iload_n 1, 1) := by decide +kernel
theorem dX7_digest_49 : decode cX7_digest 49 = .ok (.iaload, 1) := by decide +kernel
theorem dX7_digest_50 : decode cX7_digest 50 = .ok (.i2l, 1) := by decide +kernel
theorem dX7_digest_51 : decode cX7_digest 51 = .ok (.invokevirtual 217, 3) := by decide +kernel
theorem dX7_digest_54 : decode cX7_digest 54 = .ok (.aload_n 0, 1) := by decide +kernel
theorem dX7_digest_55 : decode cX7_digest 55 = .ok (.aload_n 0, 1) := by decide +kernel
theorem dX7_digest_56 : decode cX7_digest 56 = .ok (.getfield 25, 3) := by decide +kernel
theorem dX7_digest_59 : decode cX7_digest 59 = .ok (.iload_n 1, 1) := by decide +kernel
theorem dX7_digest_60 : decode cX7_digest 60 = .ok (.iaload, 1) := by decide +kernel
theorem dX7_digest_61 : decode cX7_digest 61 = .ok (.i2l, 1) := by decide +kernel
theorem dX7_digest_62 : decode cX7_digest 62 = .ok (.invokevirtual 217, 3) := by decide +kernel
theorem dX7_digest_65 : decode cX7_digest 65 = .ok (.aload_n 0, 1) := by decide +kernel
theorem dX7_digest_66 : decode cX7_digest 66 = .ok (.aload_n 0, 1) := by decide +kernel
theorem dX7_digest_67 : decode cX7_digest 67 = .ok (.iload_n 1, 1) := by decide +kernel
theorem dX7_digest_68 : decode cX7_digest 68 = .ok (.invokevirtual 187, 3) := by decide +kernel
theorem dX7_digest_71 : decode cX7_digest 71 = .ok (.i2l, 1) := by decide +kernel
theorem dX7_digest_72 : decode cX7_digest 72 = .ok (.invokevirtual 217, 3) := by decide +kernel
theorem dX7_digest_75 : decode cX7_digest 75 = .ok (.iinc 1 1, 3) := by decide +kernel
theorem dX7_digest_78 : decode cX7_digest 78 = .ok (.goto (-43), 3) := by decide +kernel
theorem dX7_digest_81 : decode cX7_digest 81 = .ok (.iconst 0, 1) := by decide +kernel
theorem dX7_digest_82 : decode cX7_digest 82 = .ok (.istore_n 1, 1) := by decide +kernel
theorem dX7_digest_83 : decode cX7_digest 83 = .ok (.iload_n 1, 1) := by decide +kernel
theorem dX7_digest_84 : decode cX7_digest 84 = .ok (.aload_n 0, 1) := by decide +kernel
theorem dX7_digest_85 : decode cX7_digest 85 = .ok (.getfield 81, 3) := by decide +kernel
theorem dX7_digest_88 : decode cX7_digest 88 = .ok (.if_icmp .ge 20, 3) := by decide +kernel
theorem dX7_digest_91 : decode cX7_digest 91 = .ok (.aload_n 0, 1) := by decide +kernel
theorem dX7_digest_92 : decode cX7_digest 92 = .ok (.aload_n 0, 1) := by decide +kernel
theorem dX7_digest_93 : decode cX7_digest 93 = .ok (.getfield 7, 3) := by decide +kernel
theorem dX7_digest_96 : decode cX7_digest 96 = .ok (.iload_n 1, 1) := by decide +kernel
theorem dX7_digest_97 : decode cX7_digest 97 = .ok (.iaload, 1) := by decide +kernel
theorem dX7_digest_98 : decode cX7_digest 98 = .ok (.i2l, 1) := by decide +kernel
theorem dX7_digest_99 : decode cX7_digest 99 = .ok (.invokevirtual 217, 3) := by decide +kernel
theorem dX7_digest_102 : decode cX7_digest 102 = .ok (.iinc 1 1, 3) := by decide +kernel
theorem dX7_digest_105 : decode cX7_digest 105 = .ok (.goto (-22), 3) := by decide +kernel
theorem dX7_digest_108 : decode cX7_digest 108 = .ok (.iconst 0, 1) := by decide +kernel
theorem dX7_digest_109 : decode cX7_digest 109 = .ok (.istore_n 1, 1) := by decide +kernel
theorem dX7_digest_110 : decode cX7_digest 110 = .ok (.iload_n 1, 1) := by decide +kernel
theorem dX7_digest_111 : decode cX7_digest 111 = .ok (.bipush 11, 2) := by decide +kernel
theorem dX7_digest_113 : decode cX7_digest 113 = .ok (.if_icmp .ge 19, 3) := by decide +kernel
theorem dX7_digest_116 : decode cX7_digest 116 = .ok (.aload_n 0, 1) := by decide +kernel
theorem dX7_digest_117 : decode cX7_digest 117 = .ok (.aload_n 0, 1) := by decide +kernel
theorem dX7_digest_118 : decode cX7_digest 118 = .ok (.iload_n 1, 1) := by decide +kernel
theorem dX7_digest_119 : decode cX7_digest 119 = .ok (.invokevirtual 208, 3) := by decide +kernel
theorem dX7_digest_122 : decode cX7_digest 122 = .ok (.i2l, 1) := by decide +kernel
theorem dX7_digest_123 : decode cX7_digest 123 = .ok (.invokevirtual 217, 3) := by decide +kernel
theorem dX7_digest_126 : decode cX7_digest 126 = .ok (.iinc 1 1, 3) := by decide +kernel
theorem dX7_digest_129 : decode cX7_digest 129 = .ok (.goto (-19), 3) := by decide +kernel
theorem dX7_digest_132 : decode cX7_digest 132 = .ok (.aload_n 0, 1) := by decide +kernel
theorem dX7_digest_133 : decode cX7_digest 133 = .ok (.getfield 213, 3) := by decide +kernel
theorem dX7_digest_136 : decode cX7_digest 136 = .ok (.lreturn, 1) := by decide +kernel
theorem dJ6_bitCount_0f7a4_0 : decode cJ6_bitCount_0f7a4 0 = .ok (.iload_n 0, 1) := by decide +kernel
theorem dJ6_bitCount_0f7a4_1 : decode cJ6_bitCount_0f7a4 1 = .ok (.iload_n 0, 1) := by decide +kernel
theorem dJ6_bitCount_0f7a4_2 : decode cJ6_bitCount_0f7a4 2 = .ok (.iconst 1, 1) := by decide +kernel
theorem dJ6_bitCount_0f7a4_3 : decode cJ6_bitCount_0f7a4 3 = .ok (.iushr, 1) := by decide +kernel
theorem dJ6_bitCount_0f7a4_4 : decode cJ6_bitCount_0f7a4 4 = .ok (.ldc_w 265, 3) := by decide +kernel
theorem dJ6_bitCount_0f7a4_7 : decode cJ6_bitCount_0f7a4 7 = .ok (.iand, 1) := by decide +kernel
theorem dJ6_bitCount_0f7a4_8 : decode cJ6_bitCount_0f7a4 8 = .ok (.isub, 1) := by decide +kernel
theorem dJ6_bitCount_0f7a4_9 : decode cJ6_bitCount_0f7a4 9 = .ok (.istore_n 0, 1) := by decide +kernel
theorem dJ6_bitCount_0f7a4_10 : decode cJ6_bitCount_0f7a4 10 = .ok (.iload_n 0, 1) := by decide +kernel
theorem dJ6_bitCount_0f7a4_11 : decode cJ6_bitCount_0f7a4 11 = .ok (.ldc_w 266, 3) := by decide +kernel
theorem dJ6_bitCount_0f7a4_14 : decode cJ6_bitCount_0f7a4 14 = .ok (.iand, 1) := by decide +kernel
theorem dJ6_bitCount_0f7a4_15 : decode cJ6_bitCount_0f7a4 15 = .ok (.iload_n 0, 1) := by decide +kernel
theorem dJ6_bitCount_0f7a4_16 : decode cJ6_bitCount_0f7a4 16 = .ok (.iconst 2, 1) := by decide +kernel
theorem dJ6_bitCount_0f7a4_17 : decode cJ6_bitCount_0f7a4 17 = .ok (.iushr, 1) := by decide +kernel
theorem dJ6_bitCount_0f7a4_18 : decode cJ6_bitCount_0f7a4 18 = .ok (.ldc_w 266, 3) := by decide +kernel
theorem dJ6_bitCount_0f7a4_21 : decode cJ6_bitCount_0f7a4 21 = .ok (.iand, 1) := by decide +kernel
theorem dJ6_bitCount_0f7a4_22 : decode cJ6_bitCount_0f7a4 22 = .ok (.iadd, 1) := by decide +kernel
theorem dJ6_bitCount_0f7a4_23 : decode cJ6_bitCount_0f7a4 23 = .ok (.istore_n 0, 1) := by decide +kernel
theorem dJ6_bitCount_0f7a4_24 : decode cJ6_bitCount_0f7a4 24 = .ok (.iload_n 0, 1) := by decide +kernel
theorem dJ6_bitCount_0f7a4_25 : decode cJ6_bitCount_0f7a4 25 = .ok (.iload_n 0, 1) := by decide +kernel
theorem dJ6_bitCount_0f7a4_26 : decode cJ6_bitCount_0f7a4 26 = .ok (.iconst 4, 1) := by decide +kernel
theorem dJ6_bitCount_0f7a4_27 : decode cJ6_bitCount_0f7a4 27 = .ok (.iushr, 1) := by decide +kernel
theorem dJ6_bitCount_0f7a4_28 : decode cJ6_bitCount_0f7a4 28 = .ok (.iadd, 1) := by decide +kernel
theorem dJ6_bitCount_0f7a4_29 : decode cJ6_bitCount_0f7a4 29 = .ok (.ldc_w 267, 3) := by decide +kernel
theorem dJ6_bitCount_0f7a4_32 : decode cJ6_bitCount_0f7a4 32 = .ok (.iand, 1) := by decide +kernel
theorem dJ6_bitCount_0f7a4_33 : decode cJ6_bitCount_0f7a4 33 = .ok (.istore_n 0, 1) := by decide +kernel
theorem dJ6_bitCount_0f7a4_34 : decode cJ6_bitCount_0f7a4 34 = .ok (.iload_n 0, 1) := by decide +kernel
theorem dJ6_bitCount_0f7a4_35 : decode cJ6_bitCount_0f7a4 35 = .ok (.iload_n 0, 1) := by decide +kernel
theorem dJ6_bitCount_0f7a4_36 : decode cJ6_bitCount_0f7a4 36 = .ok (.bipush 8, 2) := by decide +kernel
theorem dJ6_bitCount_0f7a4_38 : decode cJ6_bitCount_0f7a4 38 = .ok (.iushr, 1) := by decide +kernel
theorem dJ6_bitCount_0f7a4_39 : decode cJ6_bitCount_0f7a4 39 = .ok (.iadd, 1) := by decide +kernel
theorem dJ6_bitCount_0f7a4_40 : decode cJ6_bitCount_0f7a4 40 = .ok (.istore_n 0, 1) := by decide +kernel
theorem dJ6_bitCount_0f7a4_41 : decode cJ6_bitCount_0f7a4 41 = .ok (.iload_n 0, 1) := by decide +kernel
theorem dJ6_bitCount_0f7a4_42 : decode cJ6_bitCount_0f7a4 42 = .ok (.iload_n 0, 1) := by decide +kernel
theorem dJ6_bitCount_0f7a4_43 : decode cJ6_bitCount_0f7a4 43 = .ok (.bipush 16, 2) := by decide +kernel
theorem dJ6_bitCount_0f7a4_45 : decode cJ6_bitCount_0f7a4 45 = .ok (.iushr, 1) := by decide +kernel
theorem dJ6_bitCount_0f7a4_46 : decode cJ6_bitCount_0f7a4 46 = .ok (.iadd, 1) := by decide +kernel
theorem dJ6_bitCount_0f7a4_47 : decode cJ6_bitCount_0f7a4 47 = .ok (.istore_n 0, 1) := by decide +kernel
theorem dJ6_bitCount_0f7a4_48 : decode cJ6_bitCount_0f7a4 48 = .ok (.iload_n 0, 1) := by decide +kernel
theorem dJ6_bitCount_0f7a4_49 : decode cJ6_bitCount_0f7a4 49 = .ok (.bipush 63, 2) := by decide +kernel
theorem dJ6_bitCount_0f7a4_51 : decode cJ6_bitCount_0f7a4 51 = .ok (.iand, 1) := by decide +kernel
theorem dJ6_bitCount_0f7a4_52 : decode cJ6_bitCount_0f7a4 52 = .ok (.ireturn, 1) := by decide +kernel
theorem dJ0_length_8abf5_0 : decode cJ0_length_8abf5 0 = .ok (.aload_n 0, 1) := by decide +kernel
theorem dJ0_length_8abf5_1 : decode cJ0_length_8abf5 1 = .ok (.getfield 9, 3) := by decide +kernel
theorem dJ0_length_8abf5_4 : decode cJ0_length_8abf5 4 = .ok (.arraylength, 1) := by decide +kernel
theorem dJ0_length_8abf5_5 : decode cJ0_length_8abf5 5 = .ok (.aload_n 0, 1) := by decide +kernel
theorem dJ0_length_8abf5_6 : decode cJ0_length_8abf5 6 = .ok (.invokevirtual 335, 3) := by decide +kernel
theorem dJ0_length_8abf5_9 : decode cJ0_length_8abf5 9 = .ok (.ishr, 1) := by decide +kernel
theorem dJ0_length_8abf5_10 : decode cJ0_length_8abf5 10 = .ok (.ireturn, 1) := by decide +kernel
theorem dJ0_indexOf_0f7a4_0 : decode cJ0_indexOf_0f7a4 0 = .ok (.aload_n 0, 1) := by decide +kernel
theorem dJ0_indexOf_0f7a4_1 : decode cJ0_indexOf_0f7a4 1 = .ok (.iload_n 1, 1) := by decide +kernel
theorem dJ0_indexOf_0f7a4_2 : decode cJ0_indexOf_0f7a4 2 = .ok (.iconst 0, 1) := by decide +kernel
theorem dJ0_indexOf_0f7a4_3 : decode cJ0_indexOf_0f7a4 3 = .ok (.invokevirtual 633, 3) := by decide +kernel
theorem dJ0_indexOf_0f7a4_6 : decode cJ0_indexOf_0f7a4 6 = .ok (.ireturn, 1) := by decide +kernel
theorem dJ0_indexOf_7cf53_0 : decode cJ0_indexOf_7cf53 0 = .ok (.aload_n 0, 1) := by decide +kernel
theorem dJ0_indexOf_7cf53_1 : decode cJ0_indexOf_7cf53 1 = .ok (.invokevirtual 492, 3) := by decide +kernel
theorem dJ0_indexOf_7cf53_4 : decode cJ0_indexOf_7cf53 4 = .ok (.ifCond .eq 19, 3) := by decide +kernel
theorem dJ0_indexOf_7cf53_7 : decode cJ0_indexOf_7cf53 7 = .ok (.aload_n 0, 1) := by decide +kernel
theorem dJ0_indexOf_7cf53_8 : decode cJ0_indexOf_7cf53 8 = .ok (.getfield 9, 3) := by decide +kernel
theorem dJ0_indexOf_7cf53_11 : decode cJ0_indexOf_7cf53 11 = .ok (.iload_n 1, 1) := by decide +kernel
theorem dJ0_indexOf_7cf53_12 : decode cJ0_indexOf_7cf53 12 = .ok (.iload_n 2, 1) := by decide +kernel
theorem dJ0_indexOf_7cf53_13 : decode cJ0_indexOf_7cf53 13 = .ok (.aload_n 0, 1) := by decide +kernel
theorem dJ0_indexOf_7cf53_14 : decode cJ0_indexOf_7cf53 14 = .ok (.invokevirtual 505, 3) := by decide +kernel
theorem dJ0_indexOf_7cf53_17 : decode cJ0_indexOf_7cf53 17 = .ok (.invokestatic 637, 3) := by decide +kernel
theorem dJ0_indexOf_7cf53_20 : decode cJ0_indexOf_7cf53 20 = .ok (.goto 16, 3) := by decide +kernel
theorem dJ0_indexOf_7cf53_23 : decode cJ0_indexOf_7cf53 23 = .ok (.aload_n 0, 1) := by decide +kernel
theorem dJ0_indexOf_7cf53_24 : decode cJ0_indexOf_7cf53 24 = .ok (.getfield 9, 3) := by decide +kernel
theorem dJ0_indexOf_7cf53_27 : decode cJ0_indexOf_7cf53 27 = .ok (.iload_n 1, 1) := by decide +kernel
theorem dJ0_indexOf_7cf53_28 : decode cJ0_indexOf_7cf53 28 = .ok (.iload_n 2, 1) := by decide +kernel
theorem dJ0_indexOf_7cf53_29 : decode cJ0_indexOf_7cf53 29 = .ok (.aload_n 0, 1) := by decide +kernel
theorem dJ0_indexOf_7cf53_30 : decode cJ0_indexOf_7cf53 30 = .ok (.invokevirtual 505, 3) := by decide +kernel
theorem dJ0_indexOf_7cf53_33 : decode cJ0_indexOf_7cf53 33 = .ok (.invokestatic 640, 3) := by decide +kernel
theorem dJ0_indexOf_7cf53_36 : decode cJ0_indexOf_7cf53 36 = .ok (.ireturn, 1) := by decide +kernel
theorem dJ0_coder_7d493_0 : decode cJ0_coder_7d493 0 = .ok (.getstatic 38, 3) := by decide +kernel
theorem dJ0_coder_7d493_3 : decode cJ0_coder_7d493 3 = .ok (.ifCond .eq 10, 3) := by decide +kernel
theorem dJ0_coder_7d493_6 : decode cJ0_coder_7d493 6 = .ok (.aload_n 0, 1) := by decide +kernel
theorem dJ0_coder_7d493_7 : decode cJ0_coder_7d493 7 = .ok (.getfield 15, 3) := by decide +kernel
theorem dJ0_coder_7d493_10 : decode cJ0_coder_7d493 10 = .ok (.goto 4, 3) := by decide +kernel
theorem dJ0_coder_7d493_13 : decode cJ0_coder_7d493 13 = .ok (.iconst 1, 1) := by decide +kernel
theorem dJ0_coder_7d493_14 : decode cJ0_coder_7d493 14 = .ok (.ireturn, 1) := by decide +kernel
theorem dJ0_isLatin1_aae02_0 : decode cJ0_isLatin1_aae02 0 = .ok (.getstatic 38, 3) := by decide +kernel
theorem dJ0_isLatin1_aae02_3 : decode cJ0_isLatin1_aae02 3 = .ok (.ifCond .eq 14, 3) := by decide +kernel
theorem dJ0_isLatin1_aae02_6 : decode cJ0_isLatin1_aae02 6 = .ok (.aload_n 0, 1) := by decide +kernel
theorem dJ0_isLatin1_aae02_7 : decode cJ0_isLatin1_aae02 7 = .ok (.getfield 15, 3) := by decide +kernel
theorem dJ0_isLatin1_aae02_10 : decode cJ0_isLatin1_aae02 10 = .ok (.ifCond .ne 7, 3) := by decide +kernel
theorem dJ0_isLatin1_aae02_13 : decode cJ0_isLatin1_aae02 13 = .ok (.iconst 1, 1) := by decide +kernel
theorem dJ0_isLatin1_aae02_14 : decode cJ0_isLatin1_aae02 14 = .ok (.goto 4, 3) := by decide +kernel
theorem dJ0_isLatin1_aae02_17 : decode cJ0_isLatin1_aae02 17 = .ok (.iconst 0, 1) := by decide +kernel
theorem dJ0_isLatin1_aae02_18 : decode cJ0_isLatin1_aae02 18 = .ok (.ireturn, 1) := by decide +kernel
theorem dJ1_canEncode_9a6ad_0 : decode cJ1_canEncode_9a6ad 0 = .ok (.iload_n 0, 1) := by decide +kernel
theorem dJ1_canEncode_9a6ad_1 : decode cJ1_canEncode_9a6ad 1 = .ok (.ifCond .lt 14, 3) := by decide +kernel
theorem dJ1_canEncode_9a6ad_4 : decode cJ1_canEncode_9a6ad 4 = .ok (.iload_n 0, 1) := by decide +kernel
theorem dJ1_canEncode_9a6ad_5 : decode cJ1_canEncode_9a6ad 5 = .ok (.sipush 255, 3) := by decide +kernel
theorem dJ1_canEncode_9a6ad_8 : decode cJ1_canEncode_9a6ad 8 = .ok (.if_icmp .gt 7, 3) := by decide +kernel
theorem dJ1_canEncode_9a6ad_11 : decode cJ1_canEncode_9a6ad 11 = .ok (.iconst 1, 1) := by decide +kernel
theorem dJ1_canEncode_9a6ad_12 : decode cJ1_canEncode_9a6ad 12 = .ok (.goto 4, 3) := by decide +kernel
theorem dJ1_canEncode_9a6ad_15 : decode cJ1_canEncode_9a6ad 15 = .ok (.iconst 0, 1) := by decide +kernel
theorem dJ1_canEncode_9a6ad_16 : decode cJ1_canEncode_9a6ad 16 = .ok (.ireturn, 1) := by decide +kernel
theorem dJ1_indexOf_4cfef_0 : decode cJ1_indexOf_4cfef 0 = .ok (.iload_n 1, 1) := by decide +kernel
theorem dJ1_indexOf_4cfef_1 : decode cJ1_indexOf_4cfef 1 = .ok (.invokestatic 88, 3) := by decide +kernel
theorem dJ1_indexOf_4cfef_4 : decode cJ1_indexOf_4cfef 4 = .ok (.ifCond .ne 5, 3) := by decide +kernel
theorem dJ1_indexOf_4cfef_7 : decode cJ1_indexOf_4cfef 7 = .ok (.iconst (-1), 1) := by decide +kernel
theorem dJ1_indexOf_4cfef_8 : decode cJ1_indexOf_4cfef 8 = .ok (.ireturn, 1) := by decide +kernel
theorem dJ1_indexOf_4cfef_9 : decode cJ1_indexOf_4cfef 9 = .ok (.iload_n 2, 1) := by decide +kernel
theorem dJ1_indexOf_4cfef_10 : decode cJ1_indexOf_4cfef 10 = .ok (.iconst 0, 1) := by decide +kernel
theorem dJ1_indexOf_4cfef_11 : decode cJ1_indexOf_4cfef 11 = .ok (.invokestatic 92, 3) := by decide +kernel
theorem dJ1_indexOf_4cfef_14 : decode cJ1_indexOf_4cfef 14 = .ok (.istore_n 2, 1) := by decide +kernel
theorem dJ1_indexOf_4cfef_15 : decode cJ1_indexOf_4cfef 15 = .ok (.iload_n 3, 1) := by decide +kernel
theorem dJ1_indexOf_4cfef_16 : decode cJ1_indexOf_4cfef 16 = .ok (.aload_n 0, 1) := by decide +kernel
theorem dJ1_indexOf_4cfef_17 : decode cJ1_indexOf_4cfef 17 = .ok (.arraylength, 1) := by decide +kernel
theorem dJ1_indexOf_4cfef_18 : decode cJ1_indexOf_4cfef 18 = .ok (.invokestatic 38, 3) := by decide +kernel
theorem dJ1_indexOf_4cfef_21 : decode cJ1_indexOf_4cfef 21 = .ok (.istore_n 3, 1) := by decide +kernel
theorem dJ1_indexOf_4cfef_22 : decode cJ1_indexOf_4cfef 22 = .ok (.iload_n 2, 1) := by decide +kernel
theorem dJ1_indexOf_4cfef_23 : decode cJ1_indexOf_4cfef 23 = .ok (.iload_n 3, 1) := by decide +kernel
theorem dJ1_indexOf_4cfef_24 : decode cJ1_indexOf_4cfef 24 = .ok (.if_icmp .lt 5, 3) := by decide +kernel
theorem dJ1_indexOf_4cfef_27 : decode cJ1_indexOf_4cfef 27 = .ok (.iconst (-1), 1) := by decide +kernel
theorem dJ1_indexOf_4cfef_28 : decode cJ1_indexOf_4cfef 28 = .ok (.ireturn, 1) := by decide +kernel
theorem dJ1_indexOf_4cfef_29 : decode cJ1_indexOf_4cfef 29 = .ok (.aload_n 0, 1) := by decide +kernel
theorem dJ1_indexOf_4cfef_30 : decode cJ1_indexOf_4cfef 30 = .ok (.iload_n 1, 1) := by decide +kernel
theorem dJ1_indexOf_4cfef_31 : decode cJ1_indexOf_4cfef 31 = .ok (.iload_n 2, 1) := by decide +kernel
theorem dJ1_indexOf_4cfef_32 : decode cJ1_indexOf_4cfef 32 = .ok (.iload_n 3, 1) := by decide +kernel
theorem dJ1_indexOf_4cfef_33 : decode cJ1_indexOf_4cfef 33 = .ok (.invokestatic 95, 3) := by decide +kernel
theorem dJ1_indexOf_4cfef_36 : decode cJ1_indexOf_4cfef 36 = .ok (.ireturn, 1) := by decide +kernel
theorem dJ1_indexOfChar_4cfef_0 : decode cJ1_indexOfChar_4cfef 0 = .ok (.iload_n 1, 1) := by decide +kernel
theorem dJ1_indexOfChar_4cfef_1 : decode cJ1_indexOfChar_4cfef 1 = .ok (.i2b, 1) := by decide +kernel
theorem dJ1_indexOfChar_4cfef_2 : decode cJ1_indexOfChar_4cfef 2 = .ok (.istore 4, 2) := by decide +kernel
theorem dJ1_indexOfChar_4cfef_4 : decode cJ1_indexOfChar_4cfef 4 = .ok (.iload_n 2, 1) := by decide +kernel
theorem dJ1_indexOfChar_4cfef_5 : decode cJ1_indexOfChar_4cfef 5 = .ok (.istore 5, 2) := by decide +kernel
theorem dJ1_indexOfChar_4cfef_7 : decode cJ1_indexOfChar_4cfef 7 = .ok (.iload 5, 2) := by decide +kernel
theorem dJ1_indexOfChar_4cfef_9 : decode cJ1_indexOfChar_4cfef 9 = .ok (.iload_n 3, 1) := by decide +kernel
theorem dJ1_indexOfChar_4cfef_10 : decode cJ1_indexOfChar_4cfef 10 = .ok (.if_icmp .ge 21, 3) := by decide +kernel
theorem dJ1_indexOfChar_4cfef_13 : decode cJ1_indexOfChar_4cfef 13 = .ok (.aload_n 0, 1) := by decide +kernel
theorem dJ1_indexOfChar_4cfef_14 : decode cJ1_indexOfChar_4cfef 14 = .ok (.iload 5, 2) := by decide +kernel
theorem dJ1_indexOfChar_4cfef_16 : decode cJ1_indexOfChar_4cfef 16 = .ok (.baload, 1) := by decide +kernel
theorem dJ1_indexOfChar_4cfef_17 : decode cJ1_indexOfChar_4cfef 17 = .ok (.iload 4, 2) := by decide +kernel
theorem dJ1_indexOfChar_4cfef_19 : decode cJ1_indexOfChar_4cfef 19 = .ok (.if_icmp .ne 6, 3) := by decide +kernel
theorem dJ1_indexOfChar_4cfef_22 : decode cJ1_indexOfChar_4cfef 22 = .ok (.iload 5, 2) := by decide +kernel
theorem dJ1_indexOfChar_4cfef_24 : decode cJ1_indexOfChar_4cfef 24 = .ok (.ireturn, 1) := by decide +kernel
theorem dJ1_indexOfChar_4cfef_25 : decode cJ1_indexOfChar_4cfef 25 = .ok (.iinc 5 1, 3) := by decide +kernel
theorem dJ1_indexOfChar_4cfef_28 : decode cJ1_indexOfChar_4cfef 28 = .ok (.goto (-21), 3) := by decide +kernel
theorem dJ1_indexOfChar_4cfef_31 : decode cJ1_indexOfChar_4cfef 31 = .ok (.iconst (-1), 1) := by decide +kernel
theorem dJ1_indexOfChar_4cfef_32 : decode cJ1_indexOfChar_4cfef 32 = .ok (.ireturn, 1) := by decide +kernel
theorem dJ7_fill_53178_0 : decode cJ7_fill_53178 0 = .ok (.iconst 0, 1) := by decide +kernel
theorem dJ7_fill_53178_1 : decode cJ7_fill_53178 1 = .ok (.istore_n 2, 1) := by decide +kernel
theorem dJ7_fill_53178_2 : decode cJ7_fill_53178 2 = .ok (.aload_n 0, 1) := by decide +kernel
theorem dJ7_fill_53178_3 : decode cJ7_fill_53178 3 = .ok (.arraylength, 1) := by decide +kernel
theorem dJ7_fill_53178_4 : decode cJ7_fill_53178 4 = .ok (.istore_n 3, 1) := by decide +kernel
theorem dJ7_fill_53178_5 : decode cJ7_fill_53178 5 = .ok (.iload_n 2, 1) := by decide +kernel
theorem dJ7_fill_53178_6 : decode cJ7_fill_53178 6 = .ok (.iload_n 3, 1) := by decide +kernel
theorem dJ7_fill_53178_7 : decode cJ7_fill_53178 7 = .ok (.if_icmp .ge 13, 3) := by decide +kernel
theorem dJ7_fill_53178_10 : decode cJ7_fill_53178 10 = .ok (.aload_n 0, 1) := by decide +kernel
theorem dJ7_fill_53178_11 : decode cJ7_fill_53178 11 = .ok (.iload_n 2, 1) := by decide +kernel
theorem dJ7_fill_53178_12 : decode cJ7_fill_53178 12 = .ok (.iload_n 1, 1) := by decide +kernel
theorem dJ7_fill_53178_13 : decode cJ7_fill_53178 13 = .ok (.iastore, 1) := by decide +kernel
theorem dJ7_fill_53178_14 : decode cJ7_fill_53178 14 = .ok (.iinc 2 1, 3) := by decide +kernel
theorem dJ7_fill_53178_17 : decode cJ7_fill_53178 17 = .ok (.goto (-12), 3) := by decide +kernel
theorem dJ7_fill_53178_20 : decode cJ7_fill_53178 20 = .ok (.return_, 1) := by decide +kernel
theorem dL_law_0 : decode cL_law 0 = .ok (.new 7, 3) := by decide +kernel
theorem dL_law_3 : decode cL_law 3 = .ok (.dup, 1) := by decide +kernel
theorem dL_law_4 : decode cL_law 4 = .ok (.invokespecial 9, 3) := by decide +kernel
theorem dL_law_7 : decode cL_law 7 = .ok (.astore_n 1, 1) := by decide +kernel
theorem dL_law_8 : decode cL_law 8 = .ok (.new 10, 3) := by decide +kernel
theorem dL_law_11 : decode cL_law 11 = .ok (.dup, 1) := by decide +kernel
theorem dL_law_12 : decode cL_law 12 = .ok (.invokespecial 12, 3) := by decide +kernel
theorem dL_law_15 : decode cL_law 15 = .ok (.astore_n 2, 1) := by decide +kernel
theorem dL_law_16 : decode cL_law 16 = .ok (.iconst 0, 1) := by decide +kernel
theorem dL_law_17 : decode cL_law 17 = .ok (.istore_n 3, 1) := by decide +kernel
theorem dL_law_18 : decode cL_law 18 = .ok (.iload_n 3, 1) := by decide +kernel
theorem dL_law_19 : decode cL_law 19 = .ok (.aload_n 0, 1) := by decide +kernel
theorem dL_law_20 : decode cL_law 20 = .ok (.arraylength, 1) := by decide +kernel
theorem dL_law_21 : decode cL_law 21 = .ok (.iconst 4, 1) := by decide +kernel
theorem dL_law_22 : decode cL_law 22 = .ok (.isub, 1) := by decide +kernel
theorem dL_law_23 : decode cL_law 23 = .ok (.if_icmp .gt 673, 3) := by decide +kernel
theorem dL_law_26 : decode cL_law 26 = .ok (.aload_n 0, 1) := by decide +kernel
theorem dL_law_27 : decode cL_law 27 = .ok (.iload_n 3, 1) := by decide +kernel
theorem dL_law_28 : decode cL_law 28 = .ok (.iaload, 1) := by decide +kernel
theorem dL_law_29 : decode cL_law 29 = .ok (.bipush 31, 2) := by decide +kernel
theorem dL_law_31 : decode cL_law 31 = .ok (.iand, 1) := by decide +kernel
theorem dL_law_32 : decode cL_law 32 = .ok (.tableswitch 658 0 22 #[108, 131, 144, 167, 180, 213, 246, 279, 312, 345, 358, 391, 424, 447, 470, 493, 506, 529, 552, 595, 608, 621, 644], 108) := by decide +kernel
theorem dL_law_140 : decode cL_law 140 = .ok (.aload_n 1, 1) := by decide +kernel
theorem dL_law_141 : decode cL_law 141 = .ok (.aload_n 0, 1) := by decide +kernel
theorem dL_law_142 : decode cL_law 142 = .ok (.iload_n 3, 1) := by decide +kernel
theorem dL_law_143 : decode cL_law 143 = .ok (.iconst 1, 1) := by decide +kernel
theorem dL_law_144 : decode cL_law 144 = .ok (.iadd, 1) := by decide +kernel
theorem dL_law_145 : decode cL_law 145 = .ok (.iaload, 1) := by decide +kernel
theorem dL_law_146 : decode cL_law 146 = .ok (.invokevirtual 13, 3) := by decide +kernel
theorem dL_law_149 : decode cL_law 149 = .ok (.aload_n 2, 1) := by decide +kernel
theorem dL_law_150 : decode cL_law 150 = .ok (.aload_n 0, 1) := by decide +kernel
theorem dL_law_151 : decode cL_law 151 = .ok (.iload_n 3, 1) := by decide +kernel
theorem dL_law_152 : decode cL_law 152 = .ok (.iconst 1, 1) := by decide +kernel
theorem dL_law_153 : decode cL_law 153 = .ok (.iadd, 1) := by decide +kernel
theorem dL_law_154 : decode cL_law 154 = .ok (.iaload, 1) := by decide +kernel
theorem dL_law_155 : decode cL_law 155 = .ok (.invokevirtual 17, 3) := by decide +kernel
theorem dL_law_158 : decode cL_law 158 = .ok (.if_icmp .eq 532, 3) := by decide +kernel
theorem dL_law_161 : decode cL_law 161 = .ok (.iconst 0, 1) := by decide +kernel
theorem dL_law_162 : decode cL_law 162 = .ok (.ireturn, 1) := by decide +kernel
theorem dL_law_163 : decode cL_law 163 = .ok (.aload_n 1, 1) := by decide +kernel
theorem dL_law_164 : decode cL_law 164 = .ok (.invokevirtual 18, 3) := by decide +kernel
theorem dL_law_167 : decode cL_law 167 = .ok (.aload_n 2, 1) := by decide +kernel
theorem dL_law_168 : decode cL_law 168 = .ok (.invokevirtual 22, 3) := by decide +kernel
theorem dL_law_171 : decode cL_law 171 = .ok (.if_icmp .eq 519, 3) := by decide +kernel
theorem dL_law_174 : decode cL_law 174 = .ok (.iconst 0, 1) := by decide +kernel
theorem dL_law_175 : decode cL_law 175 = .ok (.ireturn, 1) := by decide +kernel
theorem dL_law_176 : decode cL_law 176 = .ok (.aload_n 1, 1) := by decide +kernel
theorem dL_law_177 : decode cL_law 177 = .ok (.aload_n 0, 1) := by decide +kernel
theorem dL_law_178 : decode cL_law 178 = .ok (.iload_n 3, 1) := by decide +kernel
theorem dL_law_179 : decode cL_law 179 = .ok (.iconst 1, 1) := by decide +kernel
theorem dL_law_180 : decode cL_law 180 = .ok (.iadd, 1) := by decide +kernel
theorem dL_law_181 : decode cL_law 181 = .ok (.iaload, 1) := by decide +kernel
theorem dL_law_182 : decode cL_law 182 = .ok (.invokevirtual 23, 3) := by decide +kernel
theorem dL_law_185 : decode cL_law 185 = .ok (.aload_n 2, 1) := by decide +kernel
theorem dL_law_186 : decode cL_law 186 = .ok (.aload_n 0, 1) := by decide +kernel
theorem dL_law_187 : decode cL_law 187 = .ok (.iload_n 3, 1) := by decide +kernel
theorem dL_law_188 : decode cL_law 188 = .ok (.iconst 1, 1) := by decide +kernel
theorem dL_law_189 : decode cL_law 189 = .ok (.iadd, 1) := by decide +kernel
theorem dL_law_190 : decode cL_law 190 = .ok (.iaload, 1) := by decide +kernel
theorem dL_law_191 : decode cL_law 191 = .ok (.invokevirtual 26, 3) := by decide +kernel
theorem dL_law_194 : decode cL_law 194 = .ok (.if_icmp .eq 496, 3) := by decide +kernel
theorem dL_law_197 : decode cL_law 197 = .ok (.iconst 0, 1) := by decide +kernel
theorem dL_law_198 : decode cL_law 198 = .ok (.ireturn, 1) := by decide +kernel
theorem dL_law_199 : decode cL_law 199 = .ok (.aload_n 1, 1) := by decide +kernel
theorem dL_law_200 : decode cL_law 200 = .ok (.invokevirtual 27, 3) := by decide +kernel
theorem dL_law_203 : decode cL_law 203 = .ok (.aload_n 2, 1) := by decide +kernel
theorem dL_law_204 : decode cL_law 204 = .ok (.invokevirtual 30, 3) := by decide +kernel
theorem dL_law_207 : decode cL_law 207 = .ok (.if_icmp .eq 483, 3) := by decide +kernel
theorem dL_law_210 : decode cL_law 210 = .ok (.iconst 0, 1) := by decide +kernel
theorem dL_law_211 : decode cL_law 211 = .ok (.ireturn, 1) := by decide +kernel
theorem dL_law_212 : decode cL_law 212 = .ok (.aload_n 1, 1) := by decide +kernel
theorem dL_law_213 : decode cL_law 213 = .ok (.aload_n 0, 1) := by decide +kernel
theorem dL_law_214 : decode cL_law 214 = .ok (.iload_n 3, 1) := by decide +kernel
theorem dL_law_215 : decode cL_law 215 = .ok (.iconst 1, 1) := by decide +kernel
theorem dL_law_216 : decode cL_law 216 = .ok (.iadd, 1) := by decide +kernel
theorem dL_law_217 : decode cL_law 217 = .ok (.iaload, 1) := by decide +kernel
theorem dL_law_218 : decode cL_law 218 = .ok (.aload_n 0, 1) := by decide +kernel
theorem dL_law_219 : decode cL_law 219 = .ok (.iload_n 3, 1) := by decide +kernel
theorem dL_law_220 : decode cL_law 220 = .ok (.iconst 2, 1) := by decide +kernel
theorem dL_law_221 : decode cL_law 221 = .ok (.iadd, 1) := by decide +kernel
theorem dL_law_222 : decode cL_law 222 = .ok (.iaload, 1) := by decide +kernel
theorem dL_law_223 : decode cL_law 223 = .ok (.invokevirtual 31, 3) := by decide +kernel
theorem dL_law_226 : decode cL_law 226 = .ok (.aload_n 2, 1) := by decide +kernel
theorem dL_law_227 : decode cL_law 227 = .ok (.aload_n 0, 1) := by decide +kernel
theorem dL_law_228 : decode cL_law 228 = .ok (.iload_n 3, 1) := by decide +kernel
theorem dL_law_229 : decode cL_law 229 = .ok (.iconst 1, 1) := by decide +kernel
theorem dL_law_230 : decode cL_law 230 = .ok (.iadd, 1) := by decide +kernel
theorem dL_law_231 : decode cL_law 231 = .ok (.iaload, 1) := by decide +kernel
theorem dL_law_232 : decode cL_law 232 = .ok (.aload_n 0, 1) := by decide +kernel
theorem dL_law_233 : decode cL_law 233 = .ok (.iload_n 3, 1) := by decide +kernel
theorem dL_law_234 : decode cL_law 234 = .ok (.iconst 2, 1) := by decide +kernel
theorem dL_law_235 : decode cL_law 235 = .ok (.iadd, 1) := by decide +kernel
theorem dL_law_236 : decode cL_law 236 = .ok (.iaload, 1) := by decide +kernel
theorem dL_law_237 : decode cL_law 237 = .ok (.invokevirtual 35, 3) := by decide +kernel
theorem dL_law_240 : decode cL_law 240 = .ok (.if_icmp .eq 450, 3) := by decide +kernel
theorem dL_law_243 : decode cL_law 243 = .ok (.iconst 0, 1) := by decide +kernel
theorem dL_law_244 : decode cL_law 244 = .ok (.ireturn, 1) := by decide +kernel
theorem dL_law_245 : decode cL_law 245 = .ok (.aload_n 1, 1) := by decide +kernel
theorem dL_law_246 : decode cL_law 246 = .ok (.aload_n 0, 1) := by decide +kernel
theorem dL_law_247 : decode cL_law 247 = .ok (.iload_n 3, 1) := by decide +kernel
theorem dL_law_248 : decode cL_law 248 = .ok (.iconst 1, 1) := by decide +kernel
theorem dL_law_249 : decode cL_law 249 = .ok (.iadd, 1) := by decide +kernel
theorem dL_law_250 : decode cL_law 250 = .ok (.iaload, 1) := by decide +kernel
theorem dL_law_251 : decode cL_law 251 = .ok (.aload_n 0, 1) := by decide +kernel
theorem dL_law_252 : decode cL_law 252 = .ok (.iload_n 3, 1) := by decide +kernel
theorem dL_law_253 : decode cL_law 253 = .ok (.iconst 2, 1) := by decide +kernel
theorem dL_law_254 : decode cL_law 254 = .ok (.iadd, 1) := by decide +kernel
theorem dL_law_255 : decode cL_law 255 = .ok (.iaload, 1) := by decide +kernel
theorem dL_law_256 : decode cL_law 256 = .ok (.invokevirtual 36, 3) := by decide +kernel
theorem dL_law_259 : decode cL_law 259 = .ok (.aload_n 2, 1) := by decide +kernel
theorem dL_law_260 : decode cL_law 260 = .ok (.aload_n 0, 1) := by decide +kernel
theorem dL_law_261 : decode cL_law 261 = .ok (.iload_n 3, 1) := by decide +kernel
theorem dL_law_262 : decode cL_law 262 = .ok (.iconst 1, 1) := by decide +kernel
theorem dL_law_263 : decode cL_law 263 = .ok (.iadd, 1) := by decide +kernel
theorem dL_law_264 : decode cL_law 264 = .ok (.iaload, 1) := by decide +kernel
theorem dL_law_265 : decode cL_law 265 = .ok (.aload_n 0, 1) := by decide +kernel
theorem dL_law_266 : decode cL_law 266 = .ok (.iload_n 3, 1) := by decide +kernel
theorem dL_law_267 : decode cL_law 267 = .ok (.iconst 2, 1) := by decide +kernel
theorem dL_law_268 : decode cL_law 268 = .ok (.iadd, 1) := by decide +kernel
theorem dL_law_269 : decode cL_law 269 = .ok (.iaload, 1) := by decide +kernel
theorem dL_law_270 : decode cL_law 270 = .ok (.invokevirtual 39, 3) := by decide +kernel
theorem dL_law_273 : decode cL_law 273 = .ok (.if_icmp .eq 417, 3) := by decide +kernel
theorem dL_law_276 : decode cL_law 276 = .ok (.iconst 0, 1) := by decide +kernel
theorem dL_law_277 : decode cL_law 277 = .ok (.ireturn, 1) := by decide +kernel
theorem dL_law_278 : decode cL_law 278 = .ok (.aload_n 1, 1) := by decide +kernel
theorem dL_law_279 : decode cL_law 279 = .ok (.aload_n 0, 1) := by decide +kernel
theorem dL_law_280 : decode cL_law 280 = .ok (.iload_n 3, 1) := by decide +kernel
theorem dL_law_281 : decode cL_law 281 = .ok (.iconst 1, 1) := by decide +kernel
theorem dL_law_282 : decode cL_law 282 = .ok (.iadd, 1) := by decide +kernel
theorem dL_law_283 : decode cL_law 283 = .ok (.iaload, 1) := by decide +kernel
theorem dL_law_284 : decode cL_law 284 = .ok (.aload_n 0, 1) := by decide +kernel
theorem dL_law_285 : decode cL_law 285 = .ok (.iload_n 3, 1) := by decide +kernel
theorem dL_law_286 : decode cL_law 286 = .ok (.iconst 2, 1) := by decide +kernel
theorem dL_law_287 : decode cL_law 287 = .ok (.iadd, 1) := by decide +kernel
theorem dL_law_288 : decode cL_law 288 = .ok (.iaload, 1) := by decide +kernel
theorem dL_law_289 : decode cL_law 289 = .ok (.invokevirtual 40, 3) := by decide +kernel
theorem dL_law_292 : decode cL_law 292 = .ok (.aload_n 2, 1) := by decide +kernel
theorem dL_law_293 : decode cL_law 293 = .ok (.aload_n 0, 1) := by decide +kernel
theorem dL_law_294 : decode cL_law 294 = .ok (.iload_n 3, 1) := by decide +kernel
theorem dL_law_295 : decode cL_law 295 = .ok (.iconst 1, 1) := by decide +kernel
theorem dL_law_296 : decode cL_law 296 = .ok (.iadd, 1) := by decide +kernel
theorem dL_law_297 : decode cL_law 297 = .ok (.iaload, 1) := by decide +kernel
theorem dL_law_298 : decode cL_law 298 = .ok (.aload_n 0, 1) := by decide +kernel
theorem dL_law_299 : decode cL_law 299 = .ok (.iload_n 3, 1) := by decide +kernel
theorem dL_law_300 : decode cL_law 300 = .ok (.iconst 2, 1) := by decide +kernel
theorem dL_law_301 : decode cL_law 301 = .ok (.iadd, 1) := by decide +kernel
theorem dL_law_302 : decode cL_law 302 = .ok (.iaload, 1) := by decide +kernel
theorem dL_law_303 : decode cL_law 303 = .ok (.invokevirtual 43, 3) := by decide +kernel
theorem dL_law_306 : decode cL_law 306 = .ok (.if_icmp .eq 384, 3) := by decide +kernel
theorem dL_law_309 : decode cL_law 309 = .ok (.iconst 0, 1) := by decide +kernel
theorem dL_law_310 : decode cL_law 310 = .ok (.ireturn, 1) := by decide +kernel
theorem dL_law_311 : decode cL_law 311 = .ok (.aload_n 1, 1) := by decide +kernel
theorem dL_law_312 : decode cL_law 312 = .ok (.aload_n 0, 1) := by decide +kernel
theorem dL_law_313 : decode cL_law 313 = .ok (.iload_n 3, 1) := by decide +kernel
theorem dL_law_314 : decode cL_law 314 = .ok (.iconst 1, 1) := by decide +kernel
theorem dL_law_315 : decode cL_law 315 = .ok (.iadd, 1) := by decide +kernel
theorem dL_law_316 : decode cL_law 316 = .ok (.iaload, 1) := by decide +kernel
theorem dL_law_317 : decode cL_law 317 = .ok (.aload_n 0, 1) := by decide +kernel
theorem dL_law_318 : decode cL_law 318 = .ok (.iload_n 3, 1) := by decide +kernel
theorem dL_law_319 : decode cL_law 319 = .ok (.iconst 2, 1) := by decide +kernel
theorem dL_law_320 : decode cL_law 320 = .ok (.iadd, 1) := by decide +kernel
theorem dL_law_321 : decode cL_law 321 = .ok (.iaload, 1) := by decide +kernel
theorem dL_law_322 : decode cL_law 322 = .ok (.invokevirtual 44, 3) := by decide +kernel
theorem dL_law_325 : decode cL_law 325 = .ok (.aload_n 2, 1) := by decide +kernel
theorem dL_law_326 : decode cL_law 326 = .ok (.aload_n 0, 1) := by decide +kernel
theorem dL_law_327 : decode cL_law 327 = .ok (.iload_n 3, 1) := by decide +kernel
theorem dL_law_328 : decode cL_law 328 = .ok (.iconst 1, 1) := by decide +kernel
theorem dL_law_329 : decode cL_law 329 = .ok (.iadd, 1) := by decide +kernel
theorem dL_law_330 : decode cL_law 330 = .ok (.iaload, 1) := by decide +kernel
theorem dL_law_331 : decode cL_law 331 = .ok (.aload_n 0, 1) := by decide +kernel
theorem dL_law_332 : decode cL_law 332 = .ok (.iload_n 3, 1) := by decide +kernel
theorem dL_law_333 : decode cL_law 333 = .ok (.iconst 2, 1) := by decide +kernel
theorem dL_law_334 : decode cL_law 334 = .ok (.iadd, 1) := by decide +kernel
theorem dL_law_335 : decode cL_law 335 = .ok (.iaload, 1) := by decide +kernel
theorem dL_law_336 : decode cL_law 336 = .ok (.invokevirtual 47, 3) := by decide +kernel
theorem dL_law_339 : decode cL_law 339 = .ok (.if_icmp .eq 351, 3) := by decide +kernel
theorem dL_law_342 : decode cL_law 342 = .ok (.iconst 0, 1) := by decide +kernel
theorem dL_law_343 : decode cL_law 343 = .ok (.ireturn, 1) := by decide +kernel
theorem dL_law_344 : decode cL_law 344 = .ok (.aload_n 1, 1) := by decide +kernel
theorem dL_law_345 : decode cL_law 345 = .ok (.aload_n 0, 1) := by decide +kernel
theorem dL_law_346 : decode cL_law 346 = .ok (.iload_n 3, 1) := by decide +kernel
theorem dL_law_347 : decode cL_law 347 = .ok (.iconst 1, 1) := by decide +kernel
theorem dL_law_348 : decode cL_law 348 = .ok (.iadd, 1) := by decide +kernel
theorem dL_law_349 : decode cL_law 349 = .ok (.iaload, 1) := by decide +kernel
theorem dL_law_350 : decode cL_law 350 = .ok (.aload_n 0, 1) := by decide +kernel
theorem dL_law_351 : decode cL_law 351 = .ok (.iload_n 3, 1) := by decide +kernel
theorem dL_law_352 : decode cL_law 352 = .ok (.iconst 2, 1) := by decide +kernel
theorem dL_law_353 : decode cL_law 353 = .ok (.iadd, 1) := by decide +kernel
theorem dL_law_354 : decode cL_law 354 = .ok (.iaload, 1) := by decide +kernel
theorem dL_law_355 : decode cL_law 355 = .ok (.invokevirtual 48, 3) := by decide +kernel
theorem dL_law_358 : decode cL_law 358 = .ok (.aload_n 2, 1) := by decide +kernel
theorem dL_law_359 : decode cL_law 359 = .ok (.aload_n 0, 1) := by decide +kernel
theorem dL_law_360 : decode cL_law 360 = .ok (.iload_n 3, 1) := by decide +kernel
theorem dL_law_361 : decode cL_law 361 = .ok (.iconst 1, 1) := by decide +kernel
theorem dL_law_362 : decode cL_law 362 = .ok (.iadd, 1) := by decide +kernel
theorem dL_law_363 : decode cL_law 363 = .ok (.iaload, 1) := by decide +kernel
theorem dL_law_364 : decode cL_law 364 = .ok (.aload_n 0, 1) := by decide +kernel
theorem dL_law_365 : decode cL_law 365 = .ok (.iload_n 3, 1) := by decide +kernel
theorem dL_law_366 : decode cL_law 366 = .ok (.iconst 2, 1) := by decide +kernel
theorem dL_law_367 : decode cL_law 367 = .ok (.iadd, 1) := by decide +kernel
theorem dL_law_368 : decode cL_law 368 = .ok (.iaload, 1) := by decide +kernel
theorem dL_law_369 : decode cL_law 369 = .ok (.invokevirtual 51, 3) := by decide +kernel
theorem dL_law_372 : decode cL_law 372 = .ok (.if_icmp .eq 318, 3) := by decide +kernel
theorem dL_law_375 : decode cL_law 375 = .ok (.iconst 0, 1) := by decide +kernel
theorem dL_law_376 : decode cL_law 376 = .ok (.ireturn, 1) := by decide +kernel
theorem dL_law_377 : decode cL_law 377 = .ok (.aload_n 1, 1) := by decide +kernel
theorem dL_law_378 : decode cL_law 378 = .ok (.invokevirtual 52, 3) := by decide +kernel
theorem dL_law_381 : decode cL_law 381 = .ok (.aload_n 2, 1) := by decide +kernel
theorem dL_law_382 : decode cL_law 382 = .ok (.invokevirtual 55, 3) := by decide +kernel
theorem dL_law_385 : decode cL_law 385 = .ok (.if_icmp .eq 305, 3) := by decide +kernel
theorem dL_law_388 : decode cL_law 388 = .ok (.iconst 0, 1) := by decide +kernel
theorem dL_law_389 : decode cL_law 389 = .ok (.ireturn, 1) := by decide +kernel
theorem dL_law_390 : decode cL_law 390 = .ok (.aload_n 1, 1) := by decide +kernel
theorem dL_law_391 : decode cL_law 391 = .ok (.aload_n 0, 1) := by decide +kernel
theorem dL_law_392 : decode cL_law 392 = .ok (.iload_n 3, 1) := by decide +kernel
theorem dL_law_393 : decode cL_law 393 = .ok (.iconst 1, 1) := by decide +kernel
theorem dL_law_394 : decode cL_law 394 = .ok (.iadd, 1) := by decide +kernel
theorem dL_law_395 : decode cL_law 395 = .ok (.iaload, 1) := by decide +kernel
theorem dL_law_396 : decode cL_law 396 = .ok (.aload_n 0, 1) := by decide +kernel
theorem dL_law_397 : decode cL_law 397 = .ok (.iload_n 3, 1) := by decide +kernel
theorem dL_law_398 : decode cL_law 398 = .ok (.iconst 2, 1) := by decide +kernel
theorem dL_law_399 : decode cL_law 399 = .ok (.iadd, 1) := by decide +kernel
theorem dL_law_400 : decode cL_law 400 = .ok (.iaload, 1) := by decide +kernel
theorem dL_law_401 : decode cL_law 401 = .ok (.invokevirtual 56, 3) := by decide +kernel
theorem dL_law_404 : decode cL_law 404 = .ok (.aload_n 2, 1) := by decide +kernel
theorem dL_law_405 : decode cL_law 405 = .ok (.aload_n 0, 1) := by decide +kernel
theorem dL_law_406 : decode cL_law 406 = .ok (.iload_n 3, 1) := by decide +kernel
theorem dL_law_407 : decode cL_law 407 = .ok (.iconst 1, 1) := by decide +kernel
theorem dL_law_408 : decode cL_law 408 = .ok (.iadd, 1) := by decide +kernel
theorem dL_law_409 : decode cL_law 409 = .ok (.iaload, 1) := by decide +kernel
theorem dL_law_410 : decode cL_law 410 = .ok (.aload_n 0, 1) := by decide +kernel
theorem dL_law_411 : decode cL_law 411 = .ok (.iload_n 3, 1) := by decide +kernel
theorem dL_law_412 : decode cL_law 412 = .ok (.iconst 2, 1) := by decide +kernel
theorem dL_law_413 : decode cL_law 413 = .ok (.iadd, 1) := by decide +kernel
theorem dL_law_414 : decode cL_law 414 = .ok (.iaload, 1) := by decide +kernel
theorem dL_law_415 : decode cL_law 415 = .ok (.invokevirtual 59, 3) := by decide +kernel
theorem dL_law_418 : decode cL_law 418 = .ok (.if_icmp .eq 272, 3) := by decide +kernel
theorem dL_law_421 : decode cL_law 421 = .ok (.iconst 0, 1) := by decide +kernel
theorem dL_law_422 : decode cL_law 422 = .ok (.ireturn, 1) := by decide +kernel
theorem dL_law_423 : decode cL_law 423 = .ok (.aload_n 1, 1) := by decide +kernel
theorem dL_law_424 : decode cL_law 424 = .ok (.aload_n 0, 1) := by decide +kernel
theorem dL_law_425 : decode cL_law 425 = .ok (.iload_n 3, 1) := by decide +kernel
theorem dL_law_426 : decode cL_law 426 = .ok (.iconst 1, 1) := by decide +kernel
theorem dL_law_427 : decode cL_law 427 = .ok (.iadd, 1) := by decide +kernel
theorem dL_law_428 : decode cL_law 428 = .ok (.iaload, 1) := by decide +kernel
theorem dL_law_429 : decode cL_law 429 = .ok (.aload_n 0, 1) := by decide +kernel
theorem dL_law_430 : decode cL_law 430 = .ok (.iload_n 3, 1) := by decide +kernel
theorem dL_law_431 : decode cL_law 431 = .ok (.iconst 2, 1) := by decide +kernel
theorem dL_law_432 : decode cL_law 432 = .ok (.iadd, 1) := by decide +kernel
theorem dL_law_433 : decode cL_law 433 = .ok (.iaload, 1) := by decide +kernel
theorem dL_law_434 : decode cL_law 434 = .ok (.invokevirtual 60, 3) := by decide +kernel
theorem dL_law_437 : decode cL_law 437 = .ok (.aload_n 2, 1) := by decide +kernel
theorem dL_law_438 : decode cL_law 438 = .ok (.aload_n 0, 1) := by decide +kernel
theorem dL_law_439 : decode cL_law 439 = .ok (.iload_n 3, 1) := by decide +kernel
theorem dL_law_440 : decode cL_law 440 = .ok (.iconst 1, 1) := by decide +kernel
theorem dL_law_441 : decode cL_law 441 = .ok (.iadd, 1) := by decide +kernel
theorem dL_law_442 : decode cL_law 442 = .ok (.iaload, 1) := by decide +kernel
theorem dL_law_443 : decode cL_law 443 = .ok (.aload_n 0, 1) := by decide +kernel
theorem dL_law_444 : decode cL_law 444 = .ok (.iload_n 3, 1) := by decide +kernel
theorem dL_law_445 : decode cL_law 445 = .ok (.iconst 2, 1) := by decide +kernel
theorem dL_law_446 : decode cL_law 446 = .ok (.iadd, 1) := by decide +kernel
theorem dL_law_447 : decode cL_law 447 = .ok (.iaload, 1) := by decide +kernel
theorem dL_law_448 : decode cL_law 448 = .ok (.invokevirtual 63, 3) := by decide +kernel
theorem dL_law_451 : decode cL_law 451 = .ok (.if_icmp .eq 239, 3) := by decide +kernel
theorem dL_law_454 : decode cL_law 454 = .ok (.iconst 0, 1) := by decide +kernel
theorem dL_law_455 : decode cL_law 455 = .ok (.ireturn, 1) := by decide +kernel
theorem dL_law_456 : decode cL_law 456 = .ok (.aload_n 1, 1) := by decide +kernel
theorem dL_law_457 : decode cL_law 457 = .ok (.aload_n 0, 1) := by decide +kernel
theorem dL_law_458 : decode cL_law 458 = .ok (.iload_n 3, 1) := by decide +kernel
theorem dL_law_459 : decode cL_law 459 = .ok (.iconst 1, 1) := by decide +kernel
theorem dL_law_460 : decode cL_law 460 = .ok (.iadd, 1) := by decide +kernel
theorem dL_law_461 : decode cL_law 461 = .ok (.iaload, 1) := by decide +kernel
theorem dL_law_462 : decode cL_law 462 = .ok (.invokevirtual 64, 3) := by decide +kernel
theorem dL_law_465 : decode cL_law 465 = .ok (.aload_n 2, 1) := by decide +kernel
theorem dL_law_466 : decode cL_law 466 = .ok (.aload_n 0, 1) := by decide +kernel
theorem dL_law_467 : decode cL_law 467 = .ok (.iload_n 3, 1) := by decide +kernel
theorem dL_law_468 : decode cL_law 468 = .ok (.iconst 1, 1) := by decide +kernel
theorem dL_law_469 : decode cL_law 469 = .ok (.iadd, 1) := by decide +kernel
theorem dL_law_470 : decode cL_law 470 = .ok (.iaload, 1) := by decide +kernel
theorem dL_law_471 : decode cL_law 471 = .ok (.invokevirtual 67, 3) := by decide +kernel
theorem dL_law_474 : decode cL_law 474 = .ok (.if_icmp .eq 216, 3) := by decide +kernel
theorem dL_law_477 : decode cL_law 477 = .ok (.iconst 0, 1) := by decide +kernel
theorem dL_law_478 : decode cL_law 478 = .ok (.ireturn, 1) := by decide +kernel
theorem dL_law_479 : decode cL_law 479 = .ok (.aload_n 1, 1) := by decide +kernel
theorem dL_law_480 : decode cL_law 480 = .ok (.aload_n 0, 1) := by decide +kernel
theorem dL_law_481 : decode cL_law 481 = .ok (.iload_n 3, 1) := by decide +kernel
theorem dL_law_482 : decode cL_law 482 = .ok (.iconst 1, 1) := by decide +kernel
theorem dL_law_483 : decode cL_law 483 = .ok (.iadd, 1) := by decide +kernel
theorem dL_law_484 : decode cL_law 484 = .ok (.iaload, 1) := by decide +kernel
theorem dL_law_485 : decode cL_law 485 = .ok (.invokevirtual 68, 3) := by decide +kernel
theorem dL_law_488 : decode cL_law 488 = .ok (.aload_n 2, 1) := by decide +kernel
theorem dL_law_489 : decode cL_law 489 = .ok (.aload_n 0, 1) := by decide +kernel
theorem dL_law_490 : decode cL_law 490 = .ok (.iload_n 3, 1) := by decide +kernel
theorem dL_law_491 : decode cL_law 491 = .ok (.iconst 1, 1) := by decide +kernel
theorem dL_law_492 : decode cL_law 492 = .ok (.iadd, 1) := by decide +kernel
theorem dL_law_493 : decode cL_law 493 = .ok (.iaload, 1) := by decide +kernel
theorem dL_law_494 : decode cL_law 494 = .ok (.invokevirtual 71, 3) := by decide +kernel
theorem dL_law_497 : decode cL_law 497 = .ok (.if_icmp .eq 193, 3) := by decide +kernel
theorem dL_law_500 : decode cL_law 500 = .ok (.iconst 0, 1) := by decide +kernel
theorem dL_law_501 : decode cL_law 501 = .ok (.ireturn, 1) := by decide +kernel
theorem dL_law_502 : decode cL_law 502 = .ok (.aload_n 1, 1) := by decide +kernel
theorem dL_law_503 : decode cL_law 503 = .ok (.aload_n 0, 1) := by decide +kernel
theorem dL_law_504 : decode cL_law 504 = .ok (.iload_n 3, 1) := by decide +kernel
theorem dL_law_505 : decode cL_law 505 = .ok (.iconst 1, 1) := by decide +kernel
theorem dL_law_506 : decode cL_law 506 = .ok (.iadd, 1) := by decide +kernel
theorem dL_law_507 : decode cL_law 507 = .ok (.iaload, 1) := by decide +kernel
theorem dL_law_508 : decode cL_law 508 = .ok (.invokevirtual 72, 3) := by decide +kernel
theorem dL_law_511 : decode cL_law 511 = .ok (.aload_n 2, 1) := by decide +kernel
theorem dL_law_512 : decode cL_law 512 = .ok (.aload_n 0, 1) := by decide +kernel
theorem dL_law_513 : decode cL_law 513 = .ok (.iload_n 3, 1) := by decide +kernel
theorem dL_law_514 : decode cL_law 514 = .ok (.iconst 1, 1) := by decide +kernel
theorem dL_law_515 : decode cL_law 515 = .ok (.iadd, 1) := by decide +kernel
theorem dL_law_516 : decode cL_law 516 = .ok (.iaload, 1) := by decide +kernel
theorem dL_law_517 : decode cL_law 517 = .ok (.invokevirtual 75, 3) := by decide +kernel
theorem dL_law_520 : decode cL_law 520 = .ok (.if_icmp .eq 170, 3) := by decide +kernel
theorem dL_law_523 : decode cL_law 523 = .ok (.iconst 0, 1) := by decide +kernel
theorem dL_law_524 : decode cL_law 524 = .ok (.ireturn, 1) := by decide +kernel
theorem dL_law_525 : decode cL_law 525 = .ok (.aload_n 1, 1) := by decide +kernel
theorem dL_law_526 : decode cL_law 526 = .ok (.invokevirtual 76, 3) := by decide +kernel
theorem dL_law_529 : decode cL_law 529 = .ok (.aload_n 2, 1) := by decide +kernel
theorem dL_law_530 : decode cL_law 530 = .ok (.invokevirtual 79, 3) := by decide +kernel
theorem dL_law_533 : decode cL_law 533 = .ok (.if_icmp .eq 157, 3) := by decide +kernel
theorem dL_law_536 : decode cL_law 536 = .ok (.iconst 0, 1) := by decide +kernel
theorem dL_law_537 : decode cL_law 537 = .ok (.ireturn, 1) := by decide +kernel
theorem dL_law_538 : decode cL_law 538 = .ok (.aload_n 1, 1) := by decide +kernel
theorem dL_law_539 : decode cL_law 539 = .ok (.aload_n 0, 1) := by decide +kernel
theorem dL_law_540 : decode cL_law 540 = .ok (.iload_n 3, 1) := by decide +kernel
theorem dL_law_541 : decode cL_law 541 = .ok (.iconst 1, 1) := by decide +kernel
theorem dL_law_542 : decode cL_law 542 = .ok (.iadd, 1) := by decide +kernel
theorem dL_law_543 : decode cL_law 543 = .ok (.iaload, 1) := by decide +kernel
theorem dL_law_544 : decode cL_law 544 = .ok (.invokevirtual 80, 3) := by decide +kernel
theorem dL_law_547 : decode cL_law 547 = .ok (.aload_n 2, 1) := by decide +kernel
theorem dL_law_548 : decode cL_law 548 = .ok (.aload_n 0, 1) := by decide +kernel
theorem dL_law_549 : decode cL_law 549 = .ok (.iload_n 3, 1) := by decide +kernel
theorem dL_law_550 : decode cL_law 550 = .ok (.iconst 1, 1) := by decide +kernel
theorem dL_law_551 : decode cL_law 551 = .ok (.iadd, 1) := by decide +kernel
theorem dL_law_552 : decode cL_law 552 = .ok (.iaload, 1) := by decide +kernel
theorem dL_law_553 : decode cL_law 553 = .ok (.invokevirtual 83, 3) := by decide +kernel
theorem dL_law_556 : decode cL_law 556 = .ok (.if_icmp .eq 134, 3) := by decide +kernel
theorem dL_law_559 : decode cL_law 559 = .ok (.iconst 0, 1) := by decide +kernel
theorem dL_law_560 : decode cL_law 560 = .ok (.ireturn, 1) := by decide +kernel
theorem dL_law_561 : decode cL_law 561 = .ok (.aload_n 1, 1) := by decide +kernel
theorem dL_law_562 : decode cL_law 562 = .ok (.aload_n 0, 1) := by decide +kernel
theorem dL_law_563 : decode cL_law 563 = .ok (.iload_n 3, 1) := by decide +kernel
theorem dL_law_564 : decode cL_law 564 = .ok (.iconst 1, 1) := by decide +kernel
theorem dL_law_565 : decode cL_law 565 = .ok (.iadd, 1) := by decide +kernel
theorem dL_law_566 : decode cL_law 566 = .ok (.iaload, 1) := by decide +kernel
theorem dL_law_567 : decode cL_law 567 = .ok (.invokevirtual 84, 3) := by decide +kernel
theorem dL_law_570 : decode cL_law 570 = .ok (.aload_n 2, 1) := by decide +kernel
theorem dL_law_571 : decode cL_law 571 = .ok (.aload_n 0, 1) := by decide +kernel
theorem dL_law_572 : decode cL_law 572 = .ok (.iload_n 3, 1) := by decide +kernel
theorem dL_law_573 : decode cL_law 573 = .ok (.iconst 1, 1) := by decide +kernel
theorem dL_law_574 : decode cL_law 574 = .ok (.iadd, 1) := by decide +kernel
theorem dL_law_575 : decode cL_law 575 = .ok (.iaload, 1) := by decide +kernel
theorem dL_law_576 : decode cL_law 576 = .ok (.invokevirtual 87, 3) := by decide +kernel
theorem dL_law_579 : decode cL_law 579 = .ok (.if_icmp .eq 111, 3) := by decide +kernel
theorem dL_law_582 : decode cL_law 582 = .ok (.iconst 0, 1) := by decide +kernel
theorem dL_law_583 : decode cL_law 583 = .ok (.ireturn, 1) := by decide +kernel
theorem dL_law_584 : decode cL_law 584 = .ok (.aload_n 1, 1) := by decide +kernel
theorem dL_law_585 : decode cL_law 585 = .ok (.aload_n 0, 1) := by decide +kernel
theorem dL_law_586 : decode cL_law 586 = .ok (.iload_n 3, 1) := by decide +kernel
theorem dL_law_587 : decode cL_law 587 = .ok (.iconst 1, 1) := by decide +kernel
theorem dL_law_588 : decode cL_law 588 = .ok (.iadd, 1) := by decide +kernel
theorem dL_law_589 : decode cL_law 589 = .ok (.iaload, 1) := by decide +kernel
theorem dL_law_590 : decode cL_law 590 = .ok (.aload_n 0, 1) := by decide +kernel
theorem dL_law_591 : decode cL_law 591 = .ok (.iload_n 3, 1) := by decide +kernel
theorem dL_law_592 : decode cL_law 592 = .ok (.iconst 2, 1) := by decide +kernel
theorem dL_law_593 : decode cL_law 593 = .ok (.iadd, 1) := by decide +kernel
theorem dL_law_594 : decode cL_law 594 = .ok (.iaload, 1) := by decide +kernel
theorem dL_law_595 : decode cL_law 595 = .ok (.aload_n 0, 1) := by decide +kernel
theorem dL_law_596 : decode cL_law 596 = .ok (.iload_n 3, 1) := by decide +kernel
theorem dL_law_597 : decode cL_law 597 = .ok (.iconst 3, 1) := by decide +kernel
theorem dL_law_598 : decode cL_law 598 = .ok (.iadd, 1) := by decide +kernel
theorem dL_law_599 : decode cL_law 599 = .ok (.iaload, 1) := by decide +kernel
theorem dL_law_600 : decode cL_law 600 = .ok (.invokevirtual 88, 3) := by decide +kernel
theorem dL_law_603 : decode cL_law 603 = .ok (.aload_n 2, 1) := by decide +kernel
theorem dL_law_604 : decode cL_law 604 = .ok (.aload_n 0, 1) := by decide +kernel
theorem dL_law_605 : decode cL_law 605 = .ok (.iload_n 3, 1) := by decide +kernel
theorem dL_law_606 : decode cL_law 606 = .ok (.iconst 1, 1) := by decide +kernel
theorem dL_law_607 : decode cL_law 607 = .ok (.iadd, 1) := by decide +kernel
theorem dL_law_608 : decode cL_law 608 = .ok (.iaload, 1) := by decide +kernel
theorem dL_law_609 : decode cL_law 609 = .ok (.aload_n 0, 1) := by decide +kernel
theorem dL_law_610 : decode cL_law 610 = .ok (.iload_n 3, 1) := by decide +kernel
theorem dL_law_611 : decode cL_law 611 = .ok (.iconst 2, 1) := by decide +kernel
theorem dL_law_612 : decode cL_law 612 = .ok (.iadd, 1) := by decide +kernel
theorem dL_law_613 : decode cL_law 613 = .ok (.iaload, 1) := by decide +kernel
theorem dL_law_614 : decode cL_law 614 = .ok (.aload_n 0, 1) := by decide +kernel
theorem dL_law_615 : decode cL_law 615 = .ok (.iload_n 3, 1) := by decide +kernel
theorem dL_law_616 : decode cL_law 616 = .ok (.iconst 3, 1) := by decide +kernel
theorem dL_law_617 : decode cL_law 617 = .ok (.iadd, 1) := by decide +kernel
theorem dL_law_618 : decode cL_law 618 = .ok (.iaload, 1) := by decide +kernel
theorem dL_law_619 : decode cL_law 619 = .ok (.invokevirtual 92, 3) := by decide +kernel
theorem dL_law_622 : decode cL_law 622 = .ok (.if_icmp .eq 68, 3) := by decide +kernel
theorem dL_law_625 : decode cL_law 625 = .ok (.iconst 0, 1) := by decide +kernel
theorem dL_law_626 : decode cL_law 626 = .ok (.ireturn, 1) := by decide +kernel
theorem dL_law_627 : decode cL_law 627 = .ok (.aload_n 1, 1) := by decide +kernel
theorem dL_law_628 : decode cL_law 628 = .ok (.invokevirtual 93, 3) := by decide +kernel
theorem dL_law_631 : decode cL_law 631 = .ok (.aload_n 2, 1) := by decide +kernel
theorem dL_law_632 : decode cL_law 632 = .ok (.invokevirtual 96, 3) := by decide +kernel
theorem dL_law_635 : decode cL_law 635 = .ok (.if_icmp .eq 55, 3) := by decide +kernel
theorem dL_law_638 : decode cL_law 638 = .ok (.iconst 0, 1) := by decide +kernel
theorem dL_law_639 : decode cL_law 639 = .ok (.ireturn, 1) := by decide +kernel
theorem dL_law_640 : decode cL_law 640 = .ok (.aload_n 1, 1) := by decide +kernel
theorem dL_law_641 : decode cL_law 641 = .ok (.invokevirtual 97, 3) := by decide +kernel
theorem dL_law_644 : decode cL_law 644 = .ok (.aload_n 2, 1) := by decide +kernel
theorem dL_law_645 : decode cL_law 645 = .ok (.invokevirtual 100, 3) := by decide +kernel
theorem dL_law_648 : decode cL_law 648 = .ok (.if_icmp .eq 42, 3) := by decide +kernel
theorem dL_law_651 : decode cL_law 651 = .ok (.iconst 0, 1) := by decide +kernel
theorem dL_law_652 : decode cL_law 652 = .ok (.ireturn, 1) := by decide +kernel
theorem dL_law_653 : decode cL_law 653 = .ok (.aload_n 1, 1) := by decide +kernel
theorem dL_law_654 : decode cL_law 654 = .ok (.aload_n 0, 1) := by decide +kernel
theorem dL_law_655 : decode cL_law 655 = .ok (.iload_n 3, 1) := by decide +kernel
theorem dL_law_656 : decode cL_law 656 = .ok (.iconst 1, 1) := by decide +kernel
theorem dL_law_657 : decode cL_law 657 = .ok (.iadd, 1) := by decide +kernel
theorem dL_law_658 : decode cL_law 658 = .ok (.iaload, 1) := by decide +kernel
theorem dL_law_659 : decode cL_law 659 = .ok (.invokevirtual 101, 3) := by decide +kernel
theorem dL_law_662 : decode cL_law 662 = .ok (.aload_n 2, 1) := by decide +kernel
theorem dL_law_663 : decode cL_law 663 = .ok (.aload_n 0, 1) := by decide +kernel
theorem dL_law_664 : decode cL_law 664 = .ok (.iload_n 3, 1) := by decide +kernel
theorem dL_law_665 : decode cL_law 665 = .ok (.iconst 1, 1) := by decide +kernel
theorem dL_law_666 : decode cL_law 666 = .ok (.iadd, 1) := by decide +kernel
theorem dL_law_667 : decode cL_law 667 = .ok (.iaload, 1) := by decide +kernel
theorem dL_law_668 : decode cL_law 668 = .ok (.invokevirtual 104, 3) := by decide +kernel
theorem dL_law_671 : decode cL_law 671 = .ok (.if_icmp .eq 19, 3) := by decide +kernel
theorem dL_law_674 : decode cL_law 674 = .ok (.iconst 0, 1) := by decide +kernel
theorem dL_law_675 : decode cL_law 675 = .ok (.ireturn, 1) := by decide +kernel
theorem dL_law_676 : decode cL_law 676 = .ok (.aload_n 1, 1) := by decide +kernel
theorem dL_law_677 : decode cL_law 677 = .ok (.invokevirtual 105, 3) := by decide +kernel
theorem dL_law_680 : decode cL_law 680 = .ok (.aload_n 2, 1) := by decide +kernel
theorem dL_law_681 : decode cL_law 681 = .ok (.invokevirtual 109, 3) := by decide +kernel
theorem dL_law_684 : decode cL_law 684 = .ok (.lcmp, 1) := by decide +kernel
theorem dL_law_685 : decode cL_law 685 = .ok (.ifCond .eq 5, 3) := by decide +kernel
theorem dL_law_688 : decode cL_law 688 = .ok (.iconst 0, 1) := by decide +kernel
theorem dL_law_689 : decode cL_law 689 = .ok (.ireturn, 1) := by decide +kernel
theorem dL_law_690 : decode cL_law 690 = .ok (.iinc 3 4, 3) := by decide +kernel
theorem dL_law_693 : decode cL_law 693 = .ok (.goto (-675), 3) := by decide +kernel
theorem dL_law_696 : decode cL_law 696 = .ok (.iconst 1, 1) := by decide +kernel
theorem dL_law_697 : decode cL_law 697 = .ok (.ireturn, 1) := by decide +kernel
