theorem dX0_count_0 : decode cX0_count 0 = .ok (.aload_n 0, 1) := by decide +kernel
theorem dX0_count_1 : decode cX0_count 1 = .ok (.getfield 22, 3) := by decide +kernel
theorem dX0_count_4 : decode cX0_count 4 = .ok (.ireturn, 1) := by decide +kernel
theorem dX0_kindOf_0 : decode cX0_kindOf 0 = .ok (.iload_n 1, 1) := by decide +kernel
theorem dX0_kindOf_1 : decode cX0_kindOf 1 = .ok (.ifCond .lt 18, 3) := by decide +kernel
theorem dX0_kindOf_4 : decode cX0_kindOf 4 = .ok (.iload_n 1, 1) := by decide +kernel
theorem dX0_kindOf_5 : decode cX0_kindOf 5 = .ok (.bipush 60, 2) := by decide +kernel
theorem dX0_kindOf_7 : decode cX0_kindOf 7 = .ok (.if_icmp .ge 12, 3) := by decide +kernel
theorem dX0_kindOf_10 : decode cX0_kindOf 10 = .ok (.aload_n 0, 1) := by decide +kernel
theorem dX0_kindOf_11 : decode cX0_kindOf 11 = .ok (.getfield 15, 3) := by decide +kernel
theorem dX0_kindOf_14 : decode cX0_kindOf 14 = .ok (.iload_n 1, 1) := by decide +kernel
theorem dX0_kindOf_15 : decode cX0_kindOf 15 = .ok (.iaload, 1) := by decide +kernel
theorem dX0_kindOf_16 : decode cX0_kindOf 16 = .ok (.goto 4, 3) := by decide +kernel
theorem dX0_kindOf_19 : decode cX0_kindOf 19 = .ok (.iconst 0, 1) := by decide +kernel
theorem dX0_kindOf_20 : decode cX0_kindOf 20 = .ok (.ireturn, 1) := by decide +kernel
theorem dX0_add_0 : decode cX0_add 0 = .ok (.iload_n 1, 1) := by decide +kernel
theorem dX0_add_1 : decode cX0_add 1 = .ok (.ifCond .lt 9, 3) := by decide +kernel
theorem dX0_add_4 : decode cX0_add 4 = .ok (.iload_n 1, 1) := by decide +kernel
theorem dX0_add_5 : decode cX0_add 5 = .ok (.bipush 60, 2) := by decide +kernel
theorem dX0_add_7 : decode cX0_add 7 = .ok (.if_icmp .lt 4, 3) := by decide +kernel
theorem dX0_add_10 : decode cX0_add 10 = .ok (.return_, 1) := by decide +kernel
theorem dX0_add_11 : decode cX0_add 11 = .ok (.aload_n 0, 1) := by decide +kernel
theorem dX0_add_12 : decode cX0_add 12 = .ok (.getfield 15, 3) := by decide +kernel
theorem dX0_add_15 : decode cX0_add 15 = .ok (.iload_n 1, 1) := by decide +kernel
theorem dX0_add_16 : decode cX0_add 16 = .ok (.iaload, 1) := by decide +kernel
theorem dX0_add_17 : decode cX0_add 17 = .ok (.ifCond .ne 39, 3) := by decide +kernel
theorem dX0_add_20 : decode cX0_add 20 = .ok (.aload_n 0, 1) := by decide +kernel
theorem dX0_add_21 : decode cX0_add 21 = .ok (.getfield 22, 3) := by decide +kernel
theorem dX0_add_24 : decode cX0_add 24 = .ok (.ifCond .lt 32, 3) := by decide +kernel
theorem dX0_add_27 : decode cX0_add 27 = .ok (.aload_n 0, 1) := by decide +kernel
theorem dX0_add_28 : decode cX0_add 28 = .ok (.getfield 22, 3) := by decide +kernel
theorem dX0_add_31 : decode cX0_add 31 = .ok (.bipush 60, 2) := by decide +kernel
theorem dX0_add_33 : decode cX0_add 33 = .ok (.if_icmp .ge 23, 3) := by decide +kernel
theorem dX0_add_36 : decode cX0_add 36 = .ok (.aload_n 0, 1) := by decide +kernel
theorem dX0_add_37 : decode cX0_add 37 = .ok (.getfield 9, 3) := by decide +kernel
theorem dX0_add_40 : decode cX0_add 40 = .ok (.aload_n 0, 1) := by decide +kernel
theorem dX0_add_41 : decode cX0_add 41 = .ok (.getfield 22, 3) := by decide +kernel
theorem dX0_add_44 : decode cX0_add 44 = .ok (.iload_n 1, 1) := by decide +kernel
theorem dX0_add_45 : decode cX0_add 45 = .ok (.iastore, 1) := by decide +kernel
theorem dX0_add_46 : decode cX0_add 46 = .ok (.aload_n 0, 1) := by decide +kernel
theorem dX0_add_47 : decode cX0_add 47 = .ok (.dup, 1) := by decide +kernel
theorem dX0_add_48 : decode cX0_add 48 = .ok (.getfield 22, 3) := by decide +kernel
theorem dX0_add_51 : decode cX0_add 51 = .ok (.iconst 1, 1) := by decide +kernel
theorem dX0_add_52 : decode cX0_add 52 = .ok (.iadd, 1) := by decide +kernel
theorem dX0_add_53 : decode cX0_add 53 = .ok (.putfield 22, 3) := by decide +kernel
theorem dX0_add_56 : decode cX0_add 56 = .ok (.aload_n 0, 1) := by decide +kernel
theorem dX0_add_57 : decode cX0_add 57 = .ok (.getfield 15, 3) := by decide +kernel
theorem dX0_add_60 : decode cX0_add 60 = .ok (.iload_n 1, 1) := by decide +kernel
theorem dX0_add_61 : decode cX0_add 61 = .ok (.iload_n 2, 1) := by decide +kernel
theorem dX0_add_62 : decode cX0_add 62 = .ok (.iastore, 1) := by decide +kernel
theorem dX0_add_63 : decode cX0_add 63 = .ok (.return_, 1) := by decide +kernel
theorem dX0_firstReady_0 : decode cX0_firstReady 0 = .ok (.iconst 0, 1) := by decide +kernel
theorem dX0_firstReady_1 : decode cX0_firstReady 1 = .ok (.istore_n 1, 1) := by decide +kernel
theorem dX0_firstReady_2 : decode cX0_firstReady 2 = .ok (.iload_n 1, 1) := by decide +kernel
theorem dX0_firstReady_3 : decode cX0_firstReady 3 = .ok (.aload_n 0, 1) := by decide +kernel
theorem dX0_firstReady_4 : decode cX0_firstReady 4 = .ok (.getfield 22, 3) := by decide +kernel
theorem dX0_firstReady_7 : decode cX0_firstReady 7 = .ok (.if_icmp .ge 43, 3) := by decide +kernel
theorem dX0_firstReady_10 : decode cX0_firstReady 10 = .ok (.iload_n 1, 1) := by decide +kernel
theorem dX0_firstReady_11 : decode cX0_firstReady 11 = .ok (.bipush 60, 2) := by decide +kernel
theorem dX0_firstReady_13 : decode cX0_firstReady 13 = .ok (.if_icmp .ge 37, 3) := by decide +kernel
theorem dX0_firstReady_16 : decode cX0_firstReady 16 = .ok (.aload_n 0, 1) := by decide +kernel
theorem dX0_firstReady_17 : decode cX0_firstReady 17 = .ok (.getfield 9, 3) := by decide +kernel
theorem dX0_firstReady_20 : decode cX0_firstReady 20 = .ok (.iload_n 1, 1) := by decide +kernel
theorem dX0_firstReady_21 : decode cX0_firstReady 21 = .ok (.iaload, 1) := by decide +kernel
theorem dX0_firstReady_22 : decode cX0_firstReady 22 = .ok (.istore_n 2, 1) := by decide +kernel
theorem dX0_firstReady_23 : decode cX0_firstReady 23 = .ok (.iload_n 2, 1) := by decide +kernel
theorem dX0_firstReady_24 : decode cX0_firstReady 24 = .ok (.ifCond .lt 20, 3) := by decide +kernel
theorem dX0_firstReady_27 : decode cX0_firstReady 27 = .ok (.iload_n 2, 1) := by decide +kernel
theorem dX0_firstReady_28 : decode cX0_firstReady 28 = .ok (.bipush 60, 2) := by decide +kernel
theorem dX0_firstReady_30 : decode cX0_firstReady 30 = .ok (.if_icmp .ge 14, 3) := by decide +kernel
theorem dX0_firstReady_33 : decode cX0_firstReady 33 = .ok (.aload_n 0, 1) := by decide +kernel
theorem dX0_firstReady_34 : decode cX0_firstReady 34 = .ok (.getfield 18, 3) := by decide +kernel
theorem dX0_firstReady_37 : decode cX0_firstReady 37 = .ok (.iload_n 2, 1) := by decide +kernel
theorem dX0_firstReady_38 : decode cX0_firstReady 38 = .ok (.baload, 1) := by decide +kernel
theorem dX0_firstReady_39 : decode cX0_firstReady 39 = .ok (.ifCond .ne 5, 3) := by decide +kernel
theorem dX0_firstReady_42 : decode cX0_firstReady 42 = .ok (.iload_n 2, 1) := by decide +kernel
theorem dX0_firstReady_43 : decode cX0_firstReady 43 = .ok (.ireturn, 1) := by decide +kernel
theorem dX0_firstReady_44 : decode cX0_firstReady 44 = .ok (.iinc 1 1, 3) := by decide +kernel
theorem dX0_firstReady_47 : decode cX0_firstReady 47 = .ok (.goto (-45), 3) := by decide +kernel
theorem dX0_firstReady_50 : decode cX0_firstReady 50 = .ok (.iconst (-1), 1) := by decide +kernel
theorem dX0_firstReady_51 : decode cX0_firstReady 51 = .ok (.ireturn, 1) := by decide +kernel
theorem dX0_takeAway_0 : decode cX0_takeAway 0 = .ok (.aload_n 0, 1) := by decide +kernel
theorem dX0_takeAway_1 : decode cX0_takeAway 1 = .ok (.iload_n 1, 1) := by decide +kernel
theorem dX0_takeAway_2 : decode cX0_takeAway 2 = .ok (.invokevirtual 26, 3) := by decide +kernel
theorem dX0_takeAway_5 : decode cX0_takeAway 5 = .ok (.ifCond .ne 4, 3) := by decide +kernel
theorem dX0_takeAway_8 : decode cX0_takeAway 8 = .ok (.return_, 1) := by decide +kernel
theorem dX0_takeAway_9 : decode cX0_takeAway 9 = .ok (.aload_n 0, 1) := by decide +kernel
theorem dX0_takeAway_10 : decode cX0_takeAway 10 = .ok (.getfield 15, 3) := by decide +kernel
theorem dX0_takeAway_13 : decode cX0_takeAway 13 = .ok (.iload_n 1, 1) := by decide +kernel
theorem dX0_takeAway_14 : decode cX0_takeAway 14 = .ok (.iconst 0, 1) := by decide +kernel
theorem dX0_takeAway_15 : decode cX0_takeAway 15 = .ok (.iastore, 1) := by decide +kernel
theorem dX0_takeAway_16 : decode cX0_takeAway 16 = .ok (.iconst 0, 1) := by decide +kernel
theorem dX0_takeAway_17 : decode cX0_takeAway 17 = .ok (.istore_n 2, 1) := by decide +kernel
theorem dX0_takeAway_18 : decode cX0_takeAway 18 = .ok (.iconst 0, 1) := by decide +kernel
theorem dX0_takeAway_19 : decode cX0_takeAway 19 = .ok (.istore_n 3, 1) := by decide +kernel
theorem dX0_takeAway_20 : decode cX0_takeAway 20 = .ok (.iload_n 3, 1) := by decide +kernel
theorem dX0_takeAway_21 : decode cX0_takeAway 21 = .ok (.aload_n 0, 1) := by decide +kernel
theorem dX0_takeAway_22 : decode cX0_takeAway 22 = .ok (.getfield 22, 3) := by decide +kernel
theorem dX0_takeAway_25 : decode cX0_takeAway 25 = .ok (.if_icmp .ge 46, 3) := by decide +kernel
theorem dX0_takeAway_28 : decode cX0_takeAway 28 = .ok (.iload_n 3, 1) := by decide +kernel
theorem dX0_takeAway_29 : decode cX0_takeAway 29 = .ok (.bipush 60, 2) := by decide +kernel
theorem dX0_takeAway_31 : decode cX0_takeAway 31 = .ok (.if_icmp .ge 40, 3) := by decide +kernel
theorem dX0_takeAway_34 : decode cX0_takeAway 34 = .ok (.aload_n 0, 1) := by decide +kernel
theorem dX0_takeAway_35 : decode cX0_takeAway 35 = .ok (.getfield 9, 3) := by decide +kernel
theorem dX0_takeAway_38 : decode cX0_takeAway 38 = .ok (.iload_n 3, 1) := by decide +kernel
theorem dX0_takeAway_39 : decode cX0_takeAway 39 = .ok (.iaload, 1) := by decide +kernel
theorem dX0_takeAway_40 : decode cX0_takeAway 40 = .ok (.iload_n 1, 1) := by decide +kernel
theorem dX0_takeAway_41 : decode cX0_takeAway 41 = .ok (.if_icmp .eq 24, 3) := by decide +kernel
theorem dX0_takeAway_44 : decode cX0_takeAway 44 = .ok (.iload_n 2, 1) := by decide +kernel
theorem dX0_takeAway_45 : decode cX0_takeAway 45 = .ok (.bipush 60, 2) := by decide +kernel
theorem dX0_takeAway_47 : decode cX0_takeAway 47 = .ok (.if_icmp .ge 18, 3) := by decide +kernel
theorem dX0_takeAway_50 : decode cX0_takeAway 50 = .ok (.aload_n 0, 1) := by decide +kernel
theorem dX0_takeAway_51 : decode cX0_takeAway 51 = .ok (.getfield 9, 3) := by decide +kernel
theorem dX0_takeAway_54 : decode cX0_takeAway 54 = .ok (.iload_n 2, 1) := by decide +kernel
theorem dX0_takeAway_55 : decode cX0_takeAway 55 = .ok (.aload_n 0, 1) := by decide +kernel
theorem dX0_takeAway_56 : decode cX0_takeAway 56 = .ok (.getfield 9, 3) := by decide +kernel
theorem dX0_takeAway_59 : decode cX0_takeAway 59 = .ok (.iload_n 3, 1) := by decide +kernel
theorem dX0_takeAway_60 : decode cX0_takeAway 60 = .ok (.iaload, 1) := by decide +kernel
theorem dX0_takeAway_61 : decode cX0_takeAway 61 = .ok (.iastore, 1) := by decide +kernel
theorem dX0_takeAway_62 : decode cX0_takeAway 62 = .ok (.iinc 2 1, 3) := by decide +kernel
theorem dX0_takeAway_65 : decode cX0_takeAway 65 = .ok (.iinc 3 1, 3) := by decide +kernel
theorem dX0_takeAway_68 : decode cX0_takeAway 68 = .ok (.goto (-48), 3) := by decide +kernel
theorem dX0_takeAway_71 : decode cX0_takeAway 71 = .ok (.aload_n 0, 1) := by decide +kernel
theorem dX0_takeAway_72 : decode cX0_takeAway 72 = .ok (.iload_n 2, 1) := by decide +kernel
theorem dX0_takeAway_73 : decode cX0_takeAway 73 = .ok (.putfield 22, 3) := by decide +kernel
theorem dX0_takeAway_76 : decode cX0_takeAway 76 = .ok (.return_, 1) := by decide +kernel
theorem dX0_putOff_0 : decode cX0_putOff 0 = .ok (.aload_n 0, 1) := by decide +kernel
theorem dX0_putOff_1 : decode cX0_putOff 1 = .ok (.iload_n 1, 1) := by decide +kernel
theorem dX0_putOff_2 : decode cX0_putOff 2 = .ok (.invokevirtual 30, 3) := by decide +kernel
theorem dX0_putOff_5 : decode cX0_putOff 5 = .ok (.aload_n 0, 1) := by decide +kernel
theorem dX0_putOff_6 : decode cX0_putOff 6 = .ok (.iload_n 1, 1) := by decide +kernel
theorem dX0_putOff_7 : decode cX0_putOff 7 = .ok (.iconst 1, 1) := by decide +kernel
theorem dX0_putOff_8 : decode cX0_putOff 8 = .ok (.invokevirtual 34, 3) := by decide +kernel
theorem dX0_putOff_11 : decode cX0_putOff 11 = .ok (.iload_n 1, 1) := by decide +kernel
theorem dX0_putOff_12 : decode cX0_putOff 12 = .ok (.ifCond .lt 16, 3) := by decide +kernel
theorem dX0_putOff_15 : decode cX0_putOff 15 = .ok (.iload_n 1, 1) := by decide +kernel
theorem dX0_putOff_16 : decode cX0_putOff 16 = .ok (.bipush 60, 2) := by decide +kernel
theorem dX0_putOff_18 : decode cX0_putOff 18 = .ok (.if_icmp .ge 10, 3) := by decide +kernel
theorem dX0_putOff_21 : decode cX0_putOff 21 = .ok (.aload_n 0, 1) := by decide +kernel
theorem dX0_putOff_22 : decode cX0_putOff 22 = .ok (.getfield 18, 3) := by decide +kernel
theorem dX0_putOff_25 : decode cX0_putOff 25 = .ok (.iload_n 1, 1) := by decide +kernel
theorem dX0_putOff_26 : decode cX0_putOff 26 = .ok (.iconst 1, 1) := by decide +kernel
theorem dX0_putOff_27 : decode cX0_putOff 27 = .ok (.bastore, 1) := by decide +kernel
theorem dX0_putOff_28 : decode cX0_putOff 28 = .ok (.return_, 1) := by decide +kernel
theorem dX0_endWork_0 : decode cX0_endWork 0 = .ok (.iconst 0, 1) := by decide +kernel
theorem dX0_endWork_1 : decode cX0_endWork 1 = .ok (.istore_n 1, 1) := by decide +kernel
theorem dX0_endWork_2 : decode cX0_endWork 2 = .ok (.iload_n 1, 1) := by decide +kernel
theorem dX0_endWork_3 : decode cX0_endWork 3 = .ok (.bipush 60, 2) := by decide +kernel
theorem dX0_endWork_5 : decode cX0_endWork 5 = .ok (.if_icmp .ge 16, 3) := by decide +kernel
theorem dX0_endWork_8 : decode cX0_endWork 8 = .ok (.aload_n 0, 1) := by decide +kernel
theorem dX0_endWork_9 : decode cX0_endWork 9 = .ok (.getfield 18, 3) := by decide +kernel
theorem dX0_endWork_12 : decode cX0_endWork 12 = .ok (.iload_n 1, 1) := by decide +kernel
theorem dX0_endWork_13 : decode cX0_endWork 13 = .ok (.iconst 0, 1) := by decide +kernel
theorem dX0_endWork_14 : decode cX0_endWork 14 = .ok (.bastore, 1) := by decide +kernel
theorem dX0_endWork_15 : decode cX0_endWork 15 = .ok (.iinc 1 1, 3) := by decide +kernel
theorem dX0_endWork_18 : decode cX0_endWork 18 = .ok (.goto (-16), 3) := by decide +kernel
theorem dX0_endWork_21 : decode cX0_endWork 21 = .ok (.return_, 1) := by decide +kernel
theorem dX1_startAnew_0 : decode cX1_startAnew 0 = .ok (.iconst 0, 1) := by decide +kernel
theorem dX1_startAnew_1 : decode cX1_startAnew 1 = .ok (.istore_n 2, 1) := by decide +kernel
theorem dX1_startAnew_2 : decode cX1_startAnew 2 = .ok (.iload_n 2, 1) := by decide +kernel
theorem dX1_startAnew_3 : decode cX1_startAnew 3 = .ok (.bipush 60, 2) := by decide +kernel
theorem dX1_startAnew_5 : decode cX1_startAnew 5 = .ok (.if_icmp .ge 23, 3) := by decide +kernel
theorem dX1_startAnew_8 : decode cX1_startAnew 8 = .ok (.aload_n 0, 1) := by decide +kernel
theorem dX1_startAnew_9 : decode cX1_startAnew 9 = .ok (.getfield 15, 3) := by decide +kernel
theorem dX1_startAnew_12 : decode cX1_startAnew 12 = .ok (.iload_n 2, 1) := by decide +kernel
theorem dX1_startAnew_13 : decode cX1_startAnew 13 = .ok (.iconst 0, 1) := by decide +kernel
theorem dX1_startAnew_14 : decode cX1_startAnew 14 = .ok (.bastore, 1) := by decide +kernel
theorem dX1_startAnew_15 : decode cX1_startAnew 15 = .ok (.aload_n 0, 1) := by decide +kernel
theorem dX1_startAnew_16 : decode cX1_startAnew 16 = .ok (.getfield 19, 3) := by decide +kernel
theorem dX1_startAnew_19 : decode cX1_startAnew 19 = .ok (.iload_n 2, 1) := by decide +kernel
theorem dX1_startAnew_20 : decode cX1_startAnew 20 = .ok (.iconst 0, 1) := by decide +kernel
theorem dX1_startAnew_21 : decode cX1_startAnew 21 = .ok (.bastore, 1) := by decide +kernel
theorem dX1_startAnew_22 : decode cX1_startAnew 22 = .ok (.iinc 2 1, 3) := by decide +kernel
theorem dX1_startAnew_25 : decode cX1_startAnew 25 = .ok (.goto (-23), 3) := by decide +kernel
theorem dX1_startAnew_28 : decode cX1_startAnew 28 = .ok (.aload_n 0, 1) := by decide +kernel
theorem dX1_startAnew_29 : decode cX1_startAnew 29 = .ok (.iconst 0, 1) := by decide +kernel
theorem dX1_startAnew_30 : decode cX1_startAnew 30 = .ok (.putfield 22, 3) := by decide +kernel
theorem dX1_startAnew_33 : decode cX1_startAnew 33 = .ok (.aload_n 0, 1) := by decide +kernel
theorem dX1_startAnew_34 : decode cX1_startAnew 34 = .ok (.iconst 1, 1) := by decide +kernel
theorem dX1_startAnew_35 : decode cX1_startAnew 35 = .ok (.putfield 26, 3) := by decide +kernel
theorem dX1_startAnew_38 : decode cX1_startAnew 38 = .ok (.aload_n 0, 1) := by decide +kernel
theorem dX1_startAnew_39 : decode cX1_startAnew 39 = .ok (.iload_n 1, 1) := by decide +kernel
theorem dX1_startAnew_40 : decode cX1_startAnew 40 = .ok (.invokevirtual 30, 3) := by decide +kernel
theorem dX1_startAnew_43 : decode cX1_startAnew 43 = .ok (.return_, 1) := by decide +kernel
theorem dX1_letWait_0 : decode cX1_letWait 0 = .ok (.iload_n 1, 1) := by decide +kernel
theorem dX1_letWait_1 : decode cX1_letWait 1 = .ok (.ifCond .lt 13, 3) := by decide +kernel
theorem dX1_letWait_4 : decode cX1_letWait 4 = .ok (.iload_n 1, 1) := by decide +kernel
theorem dX1_letWait_5 : decode cX1_letWait 5 = .ok (.bipush 60, 2) := by decide +kernel
theorem dX1_letWait_7 : decode cX1_letWait 7 = .ok (.if_icmp .ge 7, 3) := by decide +kernel
theorem dX1_letWait_10 : decode cX1_letWait 10 = .ok (.iconst 1, 1) := by decide +kernel
theorem dX1_letWait_11 : decode cX1_letWait 11 = .ok (.goto 4, 3) := by decide +kernel
theorem dX1_letWait_14 : decode cX1_letWait 14 = .ok (.iconst 0, 1) := by decide +kernel
theorem dX1_letWait_15 : decode cX1_letWait 15 = .ok (.istore_n 2, 1) := by decide +kernel
theorem dX1_letWait_16 : decode cX1_letWait 16 = .ok (.iload_n 2, 1) := by decide +kernel
theorem dX1_letWait_17 : decode cX1_letWait 17 = .ok (.ifCond .eq 55, 3) := by decide +kernel
theorem dX1_letWait_20 : decode cX1_letWait 20 = .ok (.aload_n 0, 1) := by decide +kernel
theorem dX1_letWait_21 : decode cX1_letWait 21 = .ok (.getfield 15, 3) := by decide +kernel
theorem dX1_letWait_24 : decode cX1_letWait 24 = .ok (.iload_n 1, 1) := by decide +kernel
theorem dX1_letWait_25 : decode cX1_letWait 25 = .ok (.baload, 1) := by decide +kernel
theorem dX1_letWait_26 : decode cX1_letWait 26 = .ok (.ifCond .ne 46, 3) := by decide +kernel
theorem dX1_letWait_29 : decode cX1_letWait 29 = .ok (.aload_n 0, 1) := by decide +kernel
theorem dX1_letWait_30 : decode cX1_letWait 30 = .ok (.getfield 22, 3) := by decide +kernel
theorem dX1_letWait_33 : decode cX1_letWait 33 = .ok (.ifCond .lt 39, 3) := by decide +kernel
theorem dX1_letWait_36 : decode cX1_letWait 36 = .ok (.aload_n 0, 1) := by decide +kernel
theorem dX1_letWait_37 : decode cX1_letWait 37 = .ok (.getfield 22, 3) := by decide +kernel
theorem dX1_letWait_40 : decode cX1_letWait 40 = .ok (.bipush 60, 2) := by decide +kernel
theorem dX1_letWait_42 : decode cX1_letWait 42 = .ok (.if_icmp .ge 30, 3) := by decide +kernel
theorem dX1_letWait_45 : decode cX1_letWait 45 = .ok (.aload_n 0, 1) := by decide +kernel
theorem dX1_letWait_46 : decode cX1_letWait 46 = .ok (.getfield 9, 3) := by decide +kernel
theorem dX1_letWait_49 : decode cX1_letWait 49 = .ok (.aload_n 0, 1) := by decide +kernel
theorem dX1_letWait_50 : decode cX1_letWait 50 = .ok (.getfield 22, 3) := by decide +kernel
theorem dX1_letWait_53 : decode cX1_letWait 53 = .ok (.iload_n 1, 1) := by decide +kernel
theorem dX1_letWait_54 : decode cX1_letWait 54 = .ok (.iastore, 1) := by decide +kernel
theorem dX1_letWait_55 : decode cX1_letWait 55 = .ok (.aload_n 0, 1) := by decide +kernel
theorem dX1_letWait_56 : decode cX1_letWait 56 = .ok (.getfield 15, 3) := by decide +kernel
theorem dX1_letWait_59 : decode cX1_letWait 59 = .ok (.iload_n 1, 1) := by decide +kernel
theorem dX1_letWait_60 : decode cX1_letWait 60 = .ok (.iconst 1, 1) := by decide +kernel
theorem dX1_letWait_61 : decode cX1_letWait 61 = .ok (.bastore, 1) := by decide +kernel
theorem dX1_letWait_62 : decode cX1_letWait 62 = .ok (.aload_n 0, 1) := by decide +kernel
theorem dX1_letWait_63 : decode cX1_letWait 63 = .ok (.dup, 1) := by decide +kernel
theorem dX1_letWait_64 : decode cX1_letWait 64 = .ok (.getfield 22, 3) := by decide +kernel
theorem dX1_letWait_67 : decode cX1_letWait 67 = .ok (.iconst 1, 1) := by decide +kernel
theorem dX1_letWait_68 : decode cX1_letWait 68 = .ok (.iadd, 1) := by decide +kernel
theorem dX1_letWait_69 : decode cX1_letWait 69 = .ok (.putfield 22, 3) := by decide +kernel
theorem dX1_letWait_72 : decode cX1_letWait 72 = .ok (.return_, 1) := by decide +kernel
theorem dX1_takeFirst_0 : decode cX1_takeFirst 0 = .ok (.aload_n 0, 1) := by decide +kernel
theorem dX1_takeFirst_1 : decode cX1_takeFirst 1 = .ok (.getfield 22, 3) := by decide +kernel
theorem dX1_takeFirst_4 : decode cX1_takeFirst 4 = .ok (.iconst 1, 1) := by decide +kernel
theorem dX1_takeFirst_5 : decode cX1_takeFirst 5 = .ok (.if_icmp .ge 5, 3) := by decide +kernel
theorem dX1_takeFirst_8 : decode cX1_takeFirst 8 = .ok (.iconst (-1), 1) := by decide +kernel
theorem dX1_takeFirst_9 : decode cX1_takeFirst 9 = .ok (.ireturn, 1) := by decide +kernel
theorem dX1_takeFirst_10 : decode cX1_takeFirst 10 = .ok (.aload_n 0, 1) := by decide +kernel
theorem dX1_takeFirst_11 : decode cX1_takeFirst 11 = .ok (.getfield 9, 3) := by decide +kernel
theorem dX1_takeFirst_14 : decode cX1_takeFirst 14 = .ok (.iconst 0, 1) := by decide +kernel
theorem dX1_takeFirst_15 : decode cX1_takeFirst 15 = .ok (.iaload, 1) := by decide +kernel
theorem dX1_takeFirst_16 : decode cX1_takeFirst 16 = .ok (.istore_n 1, 1) := by decide +kernel
theorem dX1_takeFirst_17 : decode cX1_takeFirst 17 = .ok (.iconst 1, 1) := by decide +kernel
theorem dX1_takeFirst_18 : decode cX1_takeFirst 18 = .ok (.istore_n 2, 1) := by decide +kernel
theorem dX1_takeFirst_19 : decode cX1_takeFirst 19 = .ok (.iload_n 2, 1) := by decide +kernel
theorem dX1_takeFirst_20 : decode cX1_takeFirst 20 = .ok (.aload_n 0, 1) := by decide +kernel
theorem dX1_takeFirst_21 : decode cX1_takeFirst 21 = .ok (.getfield 22, 3) := by decide +kernel
theorem dX1_takeFirst_24 : decode cX1_takeFirst 24 = .ok (.if_icmp .ge 29, 3) := by decide +kernel
theorem dX1_takeFirst_27 : decode cX1_takeFirst 27 = .ok (.iload_n 2, 1) := by decide +kernel
theorem dX1_takeFirst_28 : decode cX1_takeFirst 28 = .ok (.bipush 60, 2) := by decide +kernel
theorem dX1_takeFirst_30 : decode cX1_takeFirst 30 = .ok (.if_icmp .ge 23, 3) := by decide +kernel
theorem dX1_takeFirst_33 : decode cX1_takeFirst 33 = .ok (.aload_n 0, 1) := by decide +kernel
theorem dX1_takeFirst_34 : decode cX1_takeFirst 34 = .ok (.getfield 9, 3) := by decide +kernel
theorem dX1_takeFirst_37 : decode cX1_takeFirst 37 = .ok (.iload_n 2, 1) := by decide +kernel
theorem dX1_takeFirst_38 : decode cX1_takeFirst 38 = .ok (.iconst 1, 1) := by decide +kernel
theorem dX1_takeFirst_39 : decode cX1_takeFirst 39 = .ok (.isub, 1) := by decide +kernel
theorem dX1_takeFirst_40 : decode cX1_takeFirst 40 = .ok (.aload_n 0, 1) := by decide +kernel
theorem dX1_takeFirst_41 : decode cX1_takeFirst 41 = .ok (.getfield 9, 3) := by decide +kernel
theorem dX1_takeFirst_44 : decode cX1_takeFirst 44 = .ok (.iload_n 2, 1) := by decide +kernel
theorem dX1_takeFirst_45 : decode cX1_takeFirst 45 = .ok (.iaload, 1) := by decide +kernel
theorem dX1_takeFirst_46 : decode cX1_takeFirst 46 = .ok (.iastore, 1) := by decide +kernel
theorem dX1_takeFirst_47 : decode cX1_takeFirst 47 = .ok (.iinc 2 1, 3) := by decide +kernel
theorem dX1_takeFirst_50 : decode cX1_takeFirst 50 = .ok (.goto (-31), 3) := by decide +kernel
theorem dX1_takeFirst_53 : decode cX1_takeFirst 53 = .ok (.aload_n 0, 1) := by decide +kernel
theorem dX1_takeFirst_54 : decode cX1_takeFirst 54 = .ok (.dup, 1) := by decide +kernel
theorem dX1_takeFirst_55 : decode cX1_takeFirst 55 = .ok (.getfield 22, 3) := by decide +kernel
theorem dX1_takeFirst_58 : decode cX1_takeFirst 58 = .ok (.iconst 1, 1) := by decide +kernel
theorem dX1_takeFirst_59 : decode cX1_takeFirst 59 = .ok (.isub, 1) := by decide +kernel
theorem dX1_takeFirst_60 : decode cX1_takeFirst 60 = .ok (.putfield 22, 3) := by decide +kernel
theorem dX1_takeFirst_63 : decode cX1_takeFirst 63 = .ok (.iload_n 1, 1) := by decide +kernel
theorem dX1_takeFirst_64 : decode cX1_takeFirst 64 = .ok (.ifCond .lt 16, 3) := by decide +kernel
theorem dX1_takeFirst_67 : decode cX1_takeFirst 67 = .ok (.iload_n 1, 1) := by decide +kernel
theorem dX1_takeFirst_68 : decode cX1_takeFirst 68 = .ok (.bipush 60, 2) := by decide +kernel
theorem dX1_takeFirst_70 : decode cX1_takeFirst 70 = .ok (.if_icmp .ge 10, 3) := by decide +kernel
theorem dX1_takeFirst_73 : decode cX1_takeFirst 73 = .ok (.aload_n 0, 1) := by decide +kernel
theorem dX1_takeFirst_74 : decode cX1_takeFirst 74 = .ok (.getfield 15, 3) := by decide +kernel
theorem dX1_takeFirst_77 : decode cX1_takeFirst 77 = .ok (.iload_n 1, 1) := by decide +kernel
theorem dX1_takeFirst_78 : decode cX1_takeFirst 78 = .ok (.iconst 0, 1) := by decide +kernel
theorem dX1_takeFirst_79 : decode cX1_takeFirst 79 = .ok (.bastore, 1) := by decide +kernel
theorem dX1_takeFirst_80 : decode cX1_takeFirst 80 = .ok (.iload_n 1, 1) := by decide +kernel
theorem dX1_takeFirst_81 : decode cX1_takeFirst 81 = .ok (.ireturn, 1) := by decide +kernel
theorem dX1_meet_0 : decode cX1_meet 0 = .ok (.iload_n 1, 1) := by decide +kernel
theorem dX1_meet_1 : decode cX1_meet 1 = .ok (.ifCond .lt 16, 3) := by decide +kernel
theorem dX1_meet_4 : decode cX1_meet 4 = .ok (.iload_n 1, 1) := by decide +kernel
theorem dX1_meet_5 : decode cX1_meet 5 = .ok (.bipush 60, 2) := by decide +kernel
theorem dX1_meet_7 : decode cX1_meet 7 = .ok (.if_icmp .ge 10, 3) := by decide +kernel
theorem dX1_meet_10 : decode cX1_meet 10 = .ok (.aload_n 0, 1) := by decide +kernel
theorem dX1_meet_11 : decode cX1_meet 11 = .ok (.getfield 19, 3) := by decide +kernel
theorem dX1_meet_14 : decode cX1_meet 14 = .ok (.iload_n 1, 1) := by decide +kernel
theorem dX1_meet_15 : decode cX1_meet 15 = .ok (.iconst 1, 1) := by decide +kernel
theorem dX1_meet_16 : decode cX1_meet 16 = .ok (.bastore, 1) := by decide +kernel
theorem dX1_meet_17 : decode cX1_meet 17 = .ok (.return_, 1) := by decide +kernel
theorem dX1_hasMet_0 : decode cX1_hasMet 0 = .ok (.iload_n 1, 1) := by decide +kernel
theorem dX1_hasMet_1 : decode cX1_hasMet 1 = .ok (.ifCond .lt 22, 3) := by decide +kernel
theorem dX1_hasMet_4 : decode cX1_hasMet 4 = .ok (.iload_n 1, 1) := by decide +kernel
theorem dX1_hasMet_5 : decode cX1_hasMet 5 = .ok (.bipush 60, 2) := by decide +kernel
theorem dX1_hasMet_7 : decode cX1_hasMet 7 = .ok (.if_icmp .ge 16, 3) := by decide +kernel
theorem dX1_hasMet_10 : decode cX1_hasMet 10 = .ok (.aload_n 0, 1) := by decide +kernel
theorem dX1_hasMet_11 : decode cX1_hasMet 11 = .ok (.getfield 19, 3) := by decide +kernel
theorem dX1_hasMet_14 : decode cX1_hasMet 14 = .ok (.iload_n 1, 1) := by decide +kernel
theorem dX1_hasMet_15 : decode cX1_hasMet 15 = .ok (.baload, 1) := by decide +kernel
theorem dX1_hasMet_16 : decode cX1_hasMet 16 = .ok (.ifCond .eq 7, 3) := by decide +kernel
theorem dX1_hasMet_19 : decode cX1_hasMet 19 = .ok (.iconst 1, 1) := by decide +kernel
theorem dX1_hasMet_20 : decode cX1_hasMet 20 = .ok (.goto 4, 3) := by decide +kernel
theorem dX1_hasMet_23 : decode cX1_hasMet 23 = .ok (.iconst 0, 1) := by decide +kernel
theorem dX1_hasMet_24 : decode cX1_hasMet 24 = .ok (.ireturn, 1) := by decide +kernel
theorem dX2_has_0 : decode cX2_has 0 = .ok (.iload_n 1, 1) := by decide +kernel
theorem dX2_has_1 : decode cX2_has 1 = .ok (.ifCond .lt 22, 3) := by decide +kernel
theorem dX2_has_4 : decode cX2_has 4 = .ok (.iload_n 1, 1) := by decide +kernel
theorem dX2_has_5 : decode cX2_has 5 = .ok (.bipush 60, 2) := by decide +kernel
theorem dX2_has_7 : decode cX2_has 7 = .ok (.if_icmp .ge 16, 3) := by decide +kernel
theorem dX2_has_10 : decode cX2_has 10 = .ok (.aload_n 0, 1) := by decide +kernel
theorem dX2_has_11 : decode cX2_has 11 = .ok (.getfield 9, 3) := by decide +kernel
theorem dX2_has_14 : decode cX2_has 14 = .ok (.iload_n 1, 1) := by decide +kernel
theorem dX2_has_15 : decode cX2_has 15 = .ok (.baload, 1) := by decide +kernel
theorem dX2_has_16 : decode cX2_has 16 = .ok (.ifCond .eq 7, 3) := by decide +kernel
theorem dX2_has_19 : decode cX2_has 19 = .ok (.iconst 1, 1) := by decide +kernel
theorem dX2_has_20 : decode cX2_has 20 = .ok (.goto 4, 3) := by decide +kernel
theorem dX2_has_23 : decode cX2_has 23 = .ok (.iconst 0, 1) := by decide +kernel
theorem dX2_has_24 : decode cX2_has 24 = .ok (.ireturn, 1) := by decide +kernel
theorem dX2_editionOf_0 : decode cX2_editionOf 0 = .ok (.aload_n 0, 1) := by decide +kernel
theorem dX2_editionOf_1 : decode cX2_editionOf 1 = .ok (.iload_n 1, 1) := by decide +kernel
theorem dX2_editionOf_2 : decode cX2_editionOf 2 = .ok (.invokevirtual 48, 3) := by decide +kernel
theorem dX2_editionOf_5 : decode cX2_editionOf 5 = .ok (.ifCond .eq 12, 3) := by decide +kernel
theorem dX2_editionOf_8 : decode cX2_editionOf 8 = .ok (.aload_n 0, 1) := by decide +kernel
theorem dX2_editionOf_9 : decode cX2_editionOf 9 = .ok (.getfield 23, 3) := by decide +kernel
theorem dX2_editionOf_12 : decode cX2_editionOf 12 = .ok (.iload_n 1, 1) := by decide +kernel
theorem dX2_editionOf_13 : decode cX2_editionOf 13 = .ok (.iaload, 1) := by decide +kernel
theorem dX2_editionOf_14 : decode cX2_editionOf 14 = .ok (.goto 4, 3) := by decide +kernel
theorem dX2_editionOf_17 : decode cX2_editionOf 17 = .ok (.iconst (-1), 1) := by decide +kernel
theorem dX2_editionOf_18 : decode cX2_editionOf 18 = .ok (.ireturn, 1) := by decide +kernel
theorem dX2_lengthOf_0 : decode cX2_lengthOf 0 = .ok (.aload_n 0, 1) := by decide +kernel
theorem dX2_lengthOf_1 : decode cX2_lengthOf 1 = .ok (.iload_n 1, 1) := by decide +kernel
theorem dX2_lengthOf_2 : decode cX2_lengthOf 2 = .ok (.invokevirtual 48, 3) := by decide +kernel
theorem dX2_lengthOf_5 : decode cX2_lengthOf 5 = .ok (.ifCond .eq 12, 3) := by decide +kernel
theorem dX2_lengthOf_8 : decode cX2_lengthOf 8 = .ok (.aload_n 0, 1) := by decide +kernel
theorem dX2_lengthOf_9 : decode cX2_lengthOf 9 = .ok (.getfield 26, 3) := by decide +kernel
theorem dX2_lengthOf_12 : decode cX2_lengthOf 12 = .ok (.iload_n 1, 1) := by decide +kernel
theorem dX2_lengthOf_13 : decode cX2_lengthOf 13 = .ok (.iaload, 1) := by decide +kernel
theorem dX2_lengthOf_14 : decode cX2_lengthOf 14 = .ok (.goto 4, 3) := by decide +kernel
theorem dX2_lengthOf_17 : decode cX2_lengthOf 17 = .ok (.iconst 0, 1) := by decide +kernel
theorem dX2_lengthOf_18 : decode cX2_lengthOf 18 = .ok (.ireturn, 1) := by decide +kernel
theorem dX2_wordsOf_0 : decode cX2_wordsOf 0 = .ok (.aload_n 0, 1) := by decide +kernel
theorem dX2_wordsOf_1 : decode cX2_wordsOf 1 = .ok (.getfield 31, 3) := by decide +kernel
theorem dX2_wordsOf_4 : decode cX2_wordsOf 4 = .ok (.iload_n 1, 1) := by decide +kernel
theorem dX2_wordsOf_5 : decode cX2_wordsOf 5 = .ok (.ifCond .lt 13, 3) := by decide +kernel
theorem dX2_wordsOf_8 : decode cX2_wordsOf 8 = .ok (.iload_n 1, 1) := by decide +kernel
theorem dX2_wordsOf_9 : decode cX2_wordsOf 9 = .ok (.bipush 60, 2) := by decide +kernel
theorem dX2_wordsOf_11 : decode cX2_wordsOf 11 = .ok (.if_icmp .ge 7, 3) := by decide +kernel
theorem dX2_wordsOf_14 : decode cX2_wordsOf 14 = .ok (.iload_n 1, 1) := by decide +kernel
theorem dX2_wordsOf_15 : decode cX2_wordsOf 15 = .ok (.goto 4, 3) := by decide +kernel
theorem dX2_wordsOf_18 : decode cX2_wordsOf 18 = .ok (.iconst 0, 1) := by decide +kernel
theorem dX2_wordsOf_19 : decode cX2_wordsOf 19 = .ok (.aaload, 1) := by decide +kernel
theorem dX2_wordsOf_20 : decode cX2_wordsOf 20 = .ok (.areturn, 1) := by decide +kernel
theorem dX2_count_0 : decode cX2_count 0 = .ok (.iconst 0, 1) := by decide +kernel
theorem dX2_count_1 : decode cX2_count 1 = .ok (.istore_n 1, 1) := by decide +kernel
theorem dX2_count_2 : decode cX2_count 2 = .ok (.iconst 0, 1) := by decide +kernel
theorem dX2_count_3 : decode cX2_count 3 = .ok (.istore_n 2, 1) := by decide +kernel
theorem dX2_count_4 : decode cX2_count 4 = .ok (.iload_n 2, 1) := by decide +kernel
theorem dX2_count_5 : decode cX2_count 5 = .ok (.bipush 60, 2) := by decide +kernel
theorem dX2_count_7 : decode cX2_count 7 = .ok (.if_icmp .ge 21, 3) := by decide +kernel
theorem dX2_count_10 : decode cX2_count 10 = .ok (.aload_n 0, 1) := by decide +kernel
theorem dX2_count_11 : decode cX2_count 11 = .ok (.getfield 9, 3) := by decide +kernel
theorem dX2_count_14 : decode cX2_count 14 = .ok (.iload_n 2, 1) := by decide +kernel
theorem dX2_count_15 : decode cX2_count 15 = .ok (.baload, 1) := by decide +kernel
theorem dX2_count_16 : decode cX2_count 16 = .ok (.ifCond .eq 6, 3) := by decide +kernel
theorem dX2_count_19 : decode cX2_count 19 = .ok (.iinc 1 1, 3) := by decide +kernel
theorem dX2_count_22 : decode cX2_count 22 = .ok (.iinc 2 1, 3) := by decide +kernel
theorem dX2_count_25 : decode cX2_count 25 = .ok (.goto (-21), 3) := by decide +kernel
theorem dX2_count_28 : decode cX2_count 28 = .ok (.iload_n 1, 1) := by decide +kernel
theorem dX2_count_29 : decode cX2_count 29 = .ok (.ireturn, 1) := by decide +kernel
theorem dX2_isBehind_0 : decode cX2_isBehind 0 = .ok (.aload_n 0, 1) := by decide +kernel
theorem dX2_isBehind_1 : decode cX2_isBehind 1 = .ok (.iload_n 1, 1) := by decide +kernel
theorem dX2_isBehind_2 : decode cX2_isBehind 2 = .ok (.invokevirtual 48, 3) := by decide +kernel
theorem dX2_isBehind_5 : decode cX2_isBehind 5 = .ok (.ifCond .ne 5, 3) := by decide +kernel
theorem dX2_isBehind_8 : decode cX2_isBehind 8 = .ok (.iconst 1, 1) := by decide +kernel
theorem dX2_isBehind_9 : decode cX2_isBehind 9 = .ok (.ireturn, 1) := by decide +kernel
theorem dX2_isBehind_10 : decode cX2_isBehind 10 = .ok (.aload_n 0, 1) := by decide +kernel
theorem dX2_isBehind_11 : decode cX2_isBehind 11 = .ok (.getfield 15, 3) := by decide +kernel
theorem dX2_isBehind_14 : decode cX2_isBehind 14 = .ok (.iload_n 1, 1) := by decide +kernel
theorem dX2_isBehind_15 : decode cX2_isBehind 15 = .ok (.iaload, 1) := by decide +kernel
theorem dX2_isBehind_16 : decode cX2_isBehind 16 = .ok (.aload_n 0, 1) := by decide +kernel
theorem dX2_isBehind_17 : decode cX2_isBehind 17 = .ok (.getfield 40, 3) := by decide +kernel
theorem dX2_isBehind_20 : decode cX2_isBehind 20 = .ok (.iload_n 1, 1) := by decide +kernel
theorem dX2_isBehind_21 : decode cX2_isBehind 21 = .ok (.invokevirtual 52, 3) := by decide +kernel
theorem dX2_isBehind_24 : decode cX2_isBehind 24 = .ok (.if_icmp .ne 20, 3) := by decide +kernel
theorem dX2_isBehind_27 : decode cX2_isBehind 27 = .ok (.aload_n 0, 1) := by decide +kernel
theorem dX2_isBehind_28 : decode cX2_isBehind 28 = .ok (.getfield 19, 3) := by decide +kernel
theorem dX2_isBehind_31 : decode cX2_isBehind 31 = .ok (.iload_n 1, 1) := by decide +kernel
theorem dX2_isBehind_32 : decode cX2_isBehind 32 = .ok (.caload, 1) := by decide +kernel
theorem dX2_isBehind_33 : decode cX2_isBehind 33 = .ok (.aload_n 0, 1) := by decide +kernel
theorem dX2_isBehind_34 : decode cX2_isBehind 34 = .ok (.getfield 40, 3) := by decide +kernel
theorem dX2_isBehind_37 : decode cX2_isBehind 37 = .ok (.iload_n 1, 1) := by decide +kernel
theorem dX2_isBehind_38 : decode cX2_isBehind 38 = .ok (.invokevirtual 58, 3) := by decide +kernel
theorem dX2_isBehind_41 : decode cX2_isBehind 41 = .ok (.if_icmp .eq 5, 3) := by decide +kernel
theorem dX2_isBehind_44 : decode cX2_isBehind 44 = .ok (.iconst 1, 1) := by decide +kernel
theorem dX2_isBehind_45 : decode cX2_isBehind 45 = .ok (.ireturn, 1) := by decide +kernel
theorem dX2_isBehind_46 : decode cX2_isBehind 46 = .ok (.aload_n 0, 1) := by decide +kernel
theorem dX2_isBehind_47 : decode cX2_isBehind 47 = .ok (.getfield 40, 3) := by decide +kernel
theorem dX2_isBehind_50 : decode cX2_isBehind 50 = .ok (.iload_n 1, 1) := by decide +kernel
theorem dX2_isBehind_51 : decode cX2_isBehind 51 = .ok (.invokevirtual 62, 3) := by decide +kernel
theorem dX2_isBehind_54 : decode cX2_isBehind 54 = .ok (.ifCond .eq 24, 3) := by decide +kernel
theorem dX2_isBehind_57 : decode cX2_isBehind 57 = .ok (.aload_n 0, 1) := by decide +kernel
theorem dX2_isBehind_58 : decode cX2_isBehind 58 = .ok (.getfield 23, 3) := by decide +kernel
theorem dX2_isBehind_61 : decode cX2_isBehind 61 = .ok (.iload_n 1, 1) := by decide +kernel
theorem dX2_isBehind_62 : decode cX2_isBehind 62 = .ok (.iaload, 1) := by decide +kernel
theorem dX2_isBehind_63 : decode cX2_isBehind 63 = .ok (.aload_n 0, 1) := by decide +kernel
theorem dX2_isBehind_64 : decode cX2_isBehind 64 = .ok (.getfield 40, 3) := by decide +kernel
theorem dX2_isBehind_67 : decode cX2_isBehind 67 = .ok (.iload_n 1, 1) := by decide +kernel
theorem dX2_isBehind_68 : decode cX2_isBehind 68 = .ok (.invokevirtual 65, 3) := by decide +kernel
theorem dX2_isBehind_71 : decode cX2_isBehind 71 = .ok (.if_icmp .eq 7, 3) := by decide +kernel
theorem dX2_isBehind_74 : decode cX2_isBehind 74 = .ok (.iconst 1, 1) := by decide +kernel
theorem dX2_isBehind_75 : decode cX2_isBehind 75 = .ok (.goto 4, 3) := by decide +kernel
theorem dX2_isBehind_78 : decode cX2_isBehind 78 = .ok (.iconst 0, 1) := by decide +kernel
theorem dX2_isBehind_79 : decode cX2_isBehind 79 = .ok (.ireturn, 1) := by decide +kernel
theorem dX2_countStale_0 : decode cX2_countStale 0 = .ok (.iconst 0, 1) := by decide +kernel
theorem dX2_countStale_1 : decode cX2_countStale 1 = .ok (.istore_n 1, 1) := by decide +kernel
theorem dX2_countStale_2 : decode cX2_countStale 2 = .ok (.iconst 0, 1) := by decide +kernel
theorem dX2_countStale_3 : decode cX2_countStale 3 = .ok (.istore_n 2, 1) := by decide +kernel
theorem dX2_countStale_4 : decode cX2_countStale 4 = .ok (.iload_n 2, 1) := by decide +kernel
theorem dX2_countStale_5 : decode cX2_countStale 5 = .ok (.bipush 60, 2) := by decide +kernel
theorem dX2_countStale_7 : decode cX2_countStale 7 = .ok (.if_icmp .ge 64, 3) := by decide +kernel
theorem dX2_countStale_10 : decode cX2_countStale 10 = .ok (.aload_n 0, 1) := by decide +kernel
theorem dX2_countStale_11 : decode cX2_countStale 11 = .ok (.getfield 44, 3) := by decide +kernel
theorem dX2_countStale_14 : decode cX2_countStale 14 = .ok (.iload_n 2, 1) := by decide +kernel
theorem dX2_countStale_15 : decode cX2_countStale 15 = .ok (.invokevirtual 68, 3) := by decide +kernel
theorem dX2_countStale_18 : decode cX2_countStale 18 = .ok (.ifnull 7, 3) := by decide +kernel
theorem dX2_countStale_21 : decode cX2_countStale 21 = .ok (.iconst 1, 1) := by decide +kernel
theorem dX2_countStale_22 : decode cX2_countStale 22 = .ok (.goto 4, 3) := by decide +kernel
theorem dX2_countStale_25 : decode cX2_countStale 25 = .ok (.iconst 0, 1) := by decide +kernel
theorem dX2_countStale_26 : decode cX2_countStale 26 = .ok (.istore_n 3, 1) := by decide +kernel
theorem dX2_countStale_27 : decode cX2_countStale 27 = .ok (.iload_n 3, 1) := by decide +kernel
theorem dX2_countStale_28 : decode cX2_countStale 28 = .ok (.ifCond .eq 25, 3) := by decide +kernel
theorem dX2_countStale_31 : decode cX2_countStale 31 = .ok (.aload_n 0, 1) := by decide +kernel
theorem dX2_countStale_32 : decode cX2_countStale 32 = .ok (.getfield 40, 3) := by decide +kernel
theorem dX2_countStale_35 : decode cX2_countStale 35 = .ok (.iload_n 2, 1) := by decide +kernel
theorem dX2_countStale_36 : decode cX2_countStale 36 = .ok (.invokevirtual 62, 3) := by decide +kernel
theorem dX2_countStale_39 : decode cX2_countStale 39 = .ok (.ifCond .eq 26, 3) := by decide +kernel
theorem dX2_countStale_42 : decode cX2_countStale 42 = .ok (.aload_n 0, 1) := by decide +kernel
theorem dX2_countStale_43 : decode cX2_countStale 43 = .ok (.iload_n 2, 1) := by decide +kernel
theorem dX2_countStale_44 : decode cX2_countStale 44 = .ok (.invokevirtual 74, 3) := by decide +kernel
theorem dX2_countStale_47 : decode cX2_countStale 47 = .ok (.ifCond .eq 18, 3) := by decide +kernel
theorem dX2_countStale_50 : decode cX2_countStale 50 = .ok (.goto 12, 3) := by decide +kernel
theorem dX2_countStale_53 : decode cX2_countStale 53 = .ok (.aload_n 0, 1) := by decide +kernel
theorem dX2_countStale_54 : decode cX2_countStale 54 = .ok (.getfield 9, 3) := by decide +kernel
theorem dX2_countStale_57 : decode cX2_countStale 57 = .ok (.iload_n 2, 1) := by decide +kernel
theorem dX2_countStale_58 : decode cX2_countStale 58 = .ok (.baload, 1) := by decide +kernel
theorem dX2_countStale_59 : decode cX2_countStale 59 = .ok (.ifCond .eq 6, 3) := by decide +kernel
theorem dX2_countStale_62 : decode cX2_countStale 62 = .ok (.iinc 1 1, 3) := by decide +kernel
theorem dX2_countStale_65 : decode cX2_countStale 65 = .ok (.iinc 2 1, 3) := by decide +kernel
theorem dX2_countStale_68 : decode cX2_countStale 68 = .ok (.goto (-64), 3) := by decide +kernel
theorem dX2_countStale_71 : decode cX2_countStale 71 = .ok (.iload_n 1, 1) := by decide +kernel
theorem dX2_countStale_72 : decode cX2_countStale 72 = .ok (.ireturn, 1) := by decide +kernel
theorem dX2_isBelow_0 : decode cX2_isBelow 0 = .ok (.iload_n 1, 1) := by decide +kernel
theorem dX2_isBelow_1 : decode cX2_isBelow 1 = .ok (.istore_n 3, 1) := by decide +kernel
theorem dX2_isBelow_2 : decode cX2_isBelow 2 = .ok (.iconst 0, 1) := by decide +kernel
theorem dX2_isBelow_3 : decode cX2_isBelow 3 = .ok (.istore 4, 2) := by decide +kernel
theorem dX2_isBelow_5 : decode cX2_isBelow 5 = .ok (.iload 4, 2) := by decide +kernel
theorem dX2_isBelow_7 : decode cX2_isBelow 7 = .ok (.bipush 60, 2) := by decide +kernel
theorem dX2_isBelow_9 : decode cX2_isBelow 9 = .ok (.if_icmp .ge 50, 3) := by decide +kernel
theorem dX2_isBelow_12 : decode cX2_isBelow 12 = .ok (.aload_n 0, 1) := by decide +kernel
theorem dX2_isBelow_13 : decode cX2_isBelow 13 = .ok (.iload_n 3, 1) := by decide +kernel
theorem dX2_isBelow_14 : decode cX2_isBelow 14 = .ok (.invokevirtual 48, 3) := by decide +kernel
theorem dX2_isBelow_17 : decode cX2_isBelow 17 = .ok (.ifCond .eq 42, 3) := by decide +kernel
theorem dX2_isBelow_20 : decode cX2_isBelow 20 = .ok (.aload_n 0, 1) := by decide +kernel
theorem dX2_isBelow_21 : decode cX2_isBelow 21 = .ok (.getfield 15, 3) := by decide +kernel
theorem dX2_isBelow_24 : decode cX2_isBelow 24 = .ok (.iload_n 3, 1) := by decide +kernel
theorem dX2_isBelow_25 : decode cX2_isBelow 25 = .ok (.iaload, 1) := by decide +kernel
theorem dX2_isBelow_26 : decode cX2_isBelow 26 = .ok (.istore 5, 2) := by decide +kernel
theorem dX2_isBelow_28 : decode cX2_isBelow 28 = .ok (.iload 5, 2) := by decide +kernel
theorem dX2_isBelow_30 : decode cX2_isBelow 30 = .ok (.iload_n 2, 1) := by decide +kernel
theorem dX2_isBelow_31 : decode cX2_isBelow 31 = .ok (.if_icmp .ne 5, 3) := by decide +kernel
theorem dX2_isBelow_34 : decode cX2_isBelow 34 = .ok (.iconst 1, 1) := by decide +kernel
theorem dX2_isBelow_35 : decode cX2_isBelow 35 = .ok (.ireturn, 1) := by decide +kernel
theorem dX2_isBelow_36 : decode cX2_isBelow 36 = .ok (.aload_n 0, 1) := by decide +kernel
theorem dX2_isBelow_37 : decode cX2_isBelow 37 = .ok (.getfield 44, 3) := by decide +kernel
theorem dX2_isBelow_40 : decode cX2_isBelow 40 = .ok (.iload 5, 2) := by decide +kernel
theorem dX2_isBelow_42 : decode cX2_isBelow 42 = .ok (.invokevirtual 77, 3) := by decide +kernel
theorem dX2_isBelow_45 : decode cX2_isBelow 45 = .ok (.ifnull 5, 3) := by decide +kernel
theorem dX2_isBelow_48 : decode cX2_isBelow 48 = .ok (.iconst 0, 1) := by decide +kernel
theorem dX2_isBelow_49 : decode cX2_isBelow 49 = .ok (.ireturn, 1) := by decide +kernel
theorem dX2_isBelow_50 : decode cX2_isBelow 50 = .ok (.iload 5, 2) := by decide +kernel
theorem dX2_isBelow_52 : decode cX2_isBelow 52 = .ok (.istore_n 3, 1) := by decide +kernel
theorem dX2_isBelow_53 : decode cX2_isBelow 53 = .ok (.iinc 4 1, 3) := by decide +kernel
theorem dX2_isBelow_56 : decode cX2_isBelow 56 = .ok (.goto (-51), 3) := by decide +kernel
theorem dX2_isBelow_59 : decode cX2_isBelow 59 = .ok (.iconst 0, 1) := by decide +kernel
theorem dX2_isBelow_60 : decode cX2_isBelow 60 = .ok (.ireturn, 1) := by decide +kernel
theorem dX2_keepPlace_0 : decode cX2_keepPlace 0 = .ok (.iload_n 1, 1) := by decide +kernel
theorem dX2_keepPlace_1 : decode cX2_keepPlace 1 = .ok (.ifCond .lt 44, 3) := by decide +kernel
theorem dX2_keepPlace_4 : decode cX2_keepPlace 4 = .ok (.iload_n 1, 1) := by decide +kernel
theorem dX2_keepPlace_5 : decode cX2_keepPlace 5 = .ok (.bipush 60, 2) := by decide +kernel
theorem dX2_keepPlace_7 : decode cX2_keepPlace 7 = .ok (.if_icmp .ge 38, 3) := by decide +kernel
theorem dX2_keepPlace_10 : decode cX2_keepPlace 10 = .ok (.aload_n 0, 1) := by decide +kernel
theorem dX2_keepPlace_11 : decode cX2_keepPlace 11 = .ok (.getfield 9, 3) := by decide +kernel
theorem dX2_keepPlace_14 : decode cX2_keepPlace 14 = .ok (.iload_n 1, 1) := by decide +kernel
theorem dX2_keepPlace_15 : decode cX2_keepPlace 15 = .ok (.iconst 1, 1) := by decide +kernel
theorem dX2_keepPlace_16 : decode cX2_keepPlace 16 = .ok (.bastore, 1) := by decide +kernel
theorem dX2_keepPlace_17 : decode cX2_keepPlace 17 = .ok (.aload_n 0, 1) := by decide +kernel
theorem dX2_keepPlace_18 : decode cX2_keepPlace 18 = .ok (.getfield 15, 3) := by decide +kernel
theorem dX2_keepPlace_21 : decode cX2_keepPlace 21 = .ok (.iload_n 1, 1) := by decide +kernel
theorem dX2_keepPlace_22 : decode cX2_keepPlace 22 = .ok (.aload_n 0, 1) := by decide +kernel
theorem dX2_keepPlace_23 : decode cX2_keepPlace 23 = .ok (.getfield 40, 3) := by decide +kernel
theorem dX2_keepPlace_26 : decode cX2_keepPlace 26 = .ok (.iload_n 1, 1) := by decide +kernel
theorem dX2_keepPlace_27 : decode cX2_keepPlace 27 = .ok (.invokevirtual 52, 3) := by decide +kernel
theorem dX2_keepPlace_30 : decode cX2_keepPlace 30 = .ok (.iastore, 1) := by decide +kernel
theorem dX2_keepPlace_31 : decode cX2_keepPlace 31 = .ok (.aload_n 0, 1) := by decide +kernel
theorem dX2_keepPlace_32 : decode cX2_keepPlace 32 = .ok (.getfield 19, 3) := by decide +kernel
theorem dX2_keepPlace_35 : decode cX2_keepPlace 35 = .ok (.iload_n 1, 1) := by decide +kernel
theorem dX2_keepPlace_36 : decode cX2_keepPlace 36 = .ok (.aload_n 0, 1) := by decide +kernel
theorem dX2_keepPlace_37 : decode cX2_keepPlace 37 = .ok (.getfield 40, 3) := by decide +kernel
theorem dX2_keepPlace_40 : decode cX2_keepPlace 40 = .ok (.iload_n 1, 1) := by decide +kernel
theorem dX2_keepPlace_41 : decode cX2_keepPlace 41 = .ok (.invokevirtual 58, 3) := by decide +kernel
theorem dX2_keepPlace_44 : decode cX2_keepPlace 44 = .ok (.castore, 1) := by decide +kernel
theorem dX2_keepPlace_45 : decode cX2_keepPlace 45 = .ok (.return_, 1) := by decide +kernel
theorem dX2_keepEdition_0 : decode cX2_keepEdition 0 = .ok (.iload_n 1, 1) := by decide +kernel
theorem dX2_keepEdition_1 : decode cX2_keepEdition 1 = .ok (.ifCond .lt 37, 3) := by decide +kernel
theorem dX2_keepEdition_4 : decode cX2_keepEdition 4 = .ok (.iload_n 1, 1) := by decide +kernel
theorem dX2_keepEdition_5 : decode cX2_keepEdition 5 = .ok (.bipush 60, 2) := by decide +kernel
theorem dX2_keepEdition_7 : decode cX2_keepEdition 7 = .ok (.if_icmp .ge 31, 3) := by decide +kernel
theorem dX2_keepEdition_10 : decode cX2_keepEdition 10 = .ok (.aload_n 0, 1) := by decide +kernel
theorem dX2_keepEdition_11 : decode cX2_keepEdition 11 = .ok (.getfield 23, 3) := by decide +kernel
theorem dX2_keepEdition_14 : decode cX2_keepEdition 14 = .ok (.iload_n 1, 1) := by decide +kernel
theorem dX2_keepEdition_15 : decode cX2_keepEdition 15 = .ok (.aload_n 0, 1) := by decide +kernel
theorem dX2_keepEdition_16 : decode cX2_keepEdition 16 = .ok (.getfield 40, 3) := by decide +kernel
theorem dX2_keepEdition_19 : decode cX2_keepEdition 19 = .ok (.iload_n 1, 1) := by decide +kernel
theorem dX2_keepEdition_20 : decode cX2_keepEdition 20 = .ok (.invokevirtual 65, 3) := by decide +kernel
theorem dX2_keepEdition_23 : decode cX2_keepEdition 23 = .ok (.iastore, 1) := by decide +kernel
theorem dX2_keepEdition_24 : decode cX2_keepEdition 24 = .ok (.aload_n 0, 1) := by decide +kernel
theorem dX2_keepEdition_25 : decode cX2_keepEdition 25 = .ok (.getfield 26, 3) := by decide +kernel
theorem dX2_keepEdition_28 : decode cX2_keepEdition 28 = .ok (.iload_n 1, 1) := by decide +kernel
theorem dX2_keepEdition_29 : decode cX2_keepEdition 29 = .ok (.iload_n 2, 1) := by decide +kernel
theorem dX2_keepEdition_30 : decode cX2_keepEdition 30 = .ok (.iastore, 1) := by decide +kernel
theorem dX2_keepEdition_31 : decode cX2_keepEdition 31 = .ok (.aload_n 0, 1) := by decide +kernel
theorem dX2_keepEdition_32 : decode cX2_keepEdition 32 = .ok (.getfield 34, 3) := by decide +kernel
theorem dX2_keepEdition_35 : decode cX2_keepEdition 35 = .ok (.iload_n 1, 1) := by decide +kernel
theorem dX2_keepEdition_36 : decode cX2_keepEdition 36 = .ok (.iconst 1, 1) := by decide +kernel
theorem dX2_keepEdition_37 : decode cX2_keepEdition 37 = .ok (.bastore, 1) := by decide +kernel
theorem dX2_keepEdition_38 : decode cX2_keepEdition 38 = .ok (.return_, 1) := by decide +kernel
theorem dX2_takeAway_0 : decode cX2_takeAway 0 = .ok (.aload_n 0, 1) := by decide +kernel
theorem dX2_takeAway_1 : decode cX2_takeAway 1 = .ok (.getfield 44, 3) := by decide +kernel
theorem dX2_takeAway_4 : decode cX2_takeAway 4 = .ok (.iload_n 1, 1) := by decide +kernel
theorem dX2_takeAway_5 : decode cX2_takeAway 5 = .ok (.invokevirtual 77, 3) := by decide +kernel
theorem dX2_takeAway_8 : decode cX2_takeAway 8 = .ok (.ifnull 7, 3) := by decide +kernel
theorem dX2_takeAway_11 : decode cX2_takeAway 11 = .ok (.iconst 1, 1) := by decide +kernel
theorem dX2_takeAway_12 : decode cX2_takeAway 12 = .ok (.goto 4, 3) := by decide +kernel
theorem dX2_takeAway_15 : decode cX2_takeAway 15 = .ok (.iconst 0, 1) := by decide +kernel
theorem dX2_takeAway_16 : decode cX2_takeAway 16 = .ok (.istore_n 2, 1) := by decide +kernel
theorem dX2_takeAway_17 : decode cX2_takeAway 17 = .ok (.iconst 0, 1) := by decide +kernel
theorem dX2_takeAway_18 : decode cX2_takeAway 18 = .ok (.istore_n 3, 1) := by decide +kernel
theorem dX2_takeAway_19 : decode cX2_takeAway 19 = .ok (.iload_n 3, 1) := by decide +kernel
theorem dX2_takeAway_20 : decode cX2_takeAway 20 = .ok (.bipush 60, 2) := by decide +kernel
theorem dX2_takeAway_22 : decode cX2_takeAway 22 = .ok (.if_icmp .ge 38, 3) := by decide +kernel
theorem dX2_takeAway_25 : decode cX2_takeAway 25 = .ok (.aload_n 0, 1) := by decide +kernel
theorem dX2_takeAway_26 : decode cX2_takeAway 26 = .ok (.getfield 37, 3) := by decide +kernel
theorem dX2_takeAway_29 : decode cX2_takeAway 29 = .ok (.iload_n 3, 1) := by decide +kernel
theorem dX2_takeAway_30 : decode cX2_takeAway 30 = .ok (.iload_n 3, 1) := by decide +kernel
theorem dX2_takeAway_31 : decode cX2_takeAway 31 = .ok (.iload_n 1, 1) := by decide +kernel
theorem dX2_takeAway_32 : decode cX2_takeAway 32 = .ok (.if_icmp .eq 16, 3) := by decide +kernel
theorem dX2_takeAway_35 : decode cX2_takeAway 35 = .ok (.iload_n 2, 1) := by decide +kernel
theorem dX2_takeAway_36 : decode cX2_takeAway 36 = .ok (.ifCond .ne 16, 3) := by decide +kernel
theorem dX2_takeAway_39 : decode cX2_takeAway 39 = .ok (.aload_n 0, 1) := by decide +kernel
theorem dX2_takeAway_40 : decode cX2_takeAway 40 = .ok (.iload_n 3, 1) := by decide +kernel
theorem dX2_takeAway_41 : decode cX2_takeAway 41 = .ok (.iload_n 1, 1) := by decide +kernel
theorem dX2_takeAway_42 : decode cX2_takeAway 42 = .ok (.invokevirtual 80, 3) := by decide +kernel
theorem dX2_takeAway_45 : decode cX2_takeAway 45 = .ok (.ifCond .eq 7, 3) := by decide +kernel
theorem dX2_takeAway_48 : decode cX2_takeAway 48 = .ok (.iconst 1, 1) := by decide +kernel
theorem dX2_takeAway_49 : decode cX2_takeAway 49 = .ok (.goto 4, 3) := by decide +kernel
theorem dX2_takeAway_52 : decode cX2_takeAway 52 = .ok (.iconst 0, 1) := by decide +kernel
theorem dX2_takeAway_53 : decode cX2_takeAway 53 = .ok (.bastore, 1) := by decide +kernel
theorem dX2_takeAway_54 : decode cX2_takeAway 54 = .ok (.iinc 3 1, 3) := by decide +kernel
theorem dX2_takeAway_57 : decode cX2_takeAway 57 = .ok (.goto (-38), 3) := by decide +kernel
theorem dX2_takeAway_60 : decode cX2_takeAway 60 = .ok (.iconst 0, 1) := by decide +kernel
theorem dX2_takeAway_61 : decode cX2_takeAway 61 = .ok (.istore_n 3, 1) := by decide +kernel
theorem dX2_takeAway_62 : decode cX2_takeAway 62 = .ok (.iload_n 3, 1) := by decide +kernel
theorem dX2_takeAway_63 : decode cX2_takeAway 63 = .ok (.bipush 60, 2) := by decide +kernel
theorem dX2_takeAway_65 : decode cX2_takeAway 65 = .ok (.if_icmp .ge 32, 3) := by decide +kernel
theorem dX2_takeAway_68 : decode cX2_takeAway 68 = .ok (.aload_n 0, 1) := by decide +kernel
theorem dX2_takeAway_69 : decode cX2_takeAway 69 = .ok (.getfield 37, 3) := by decide +kernel
theorem dX2_takeAway_72 : decode cX2_takeAway 72 = .ok (.iload_n 3, 1) := by decide +kernel
theorem dX2_takeAway_73 : decode cX2_takeAway 73 = .ok (.baload, 1) := by decide +kernel
theorem dX2_takeAway_74 : decode cX2_takeAway 74 = .ok (.ifCond .eq 17, 3) := by decide +kernel
theorem dX2_takeAway_77 : decode cX2_takeAway 77 = .ok (.aload_n 0, 1) := by decide +kernel
theorem dX2_takeAway_78 : decode cX2_takeAway 78 = .ok (.getfield 9, 3) := by decide +kernel
theorem dX2_takeAway_81 : decode cX2_takeAway 81 = .ok (.iload_n 3, 1) := by decide +kernel
theorem dX2_takeAway_82 : decode cX2_takeAway 82 = .ok (.iconst 0, 1) := by decide +kernel
theorem dX2_takeAway_83 : decode cX2_takeAway 83 = .ok (.bastore, 1) := by decide +kernel
theorem dX2_takeAway_84 : decode cX2_takeAway 84 = .ok (.aload_n 0, 1) := by decide +kernel
theorem dX2_takeAway_85 : decode cX2_takeAway 85 = .ok (.getfield 34, 3) := by decide +kernel
theorem dX2_takeAway_88 : decode cX2_takeAway 88 = .ok (.iload_n 3, 1) := by decide +kernel
theorem dX2_takeAway_89 : decode cX2_takeAway 89 = .ok (.iconst 0, 1) := by decide +kernel
theorem dX2_takeAway_90 : decode cX2_takeAway 90 = .ok (.bastore, 1) := by decide +kernel
theorem dX2_takeAway_91 : decode cX2_takeAway 91 = .ok (.iinc 3 1, 3) := by decide +kernel
theorem dX2_takeAway_94 : decode cX2_takeAway 94 = .ok (.goto (-32), 3) := by decide +kernel
theorem dX2_takeAway_97 : decode cX2_takeAway 97 = .ok (.return_, 1) := by decide +kernel
theorem dX2_hasGotEdition_0 : decode cX2_hasGotEdition 0 = .ok (.iload_n 1, 1) := by decide +kernel
theorem dX2_hasGotEdition_1 : decode cX2_hasGotEdition 1 = .ok (.ifCond .lt 22, 3) := by decide +kernel
theorem dX2_hasGotEdition_4 : decode cX2_hasGotEdition 4 = .ok (.iload_n 1, 1) := by decide +kernel
theorem dX2_hasGotEdition_5 : decode cX2_hasGotEdition 5 = .ok (.bipush 60, 2) := by decide +kernel
theorem dX2_hasGotEdition_7 : decode cX2_hasGotEdition 7 = .ok (.if_icmp .ge 16, 3) := by decide +kernel
theorem dX2_hasGotEdition_10 : decode cX2_hasGotEdition 10 = .ok (.aload_n 0, 1) := by decide +kernel
theorem dX2_hasGotEdition_11 : decode cX2_hasGotEdition 11 = .ok (.getfield 34, 3) := by decide +kernel
theorem dX2_hasGotEdition_14 : decode cX2_hasGotEdition 14 = .ok (.iload_n 1, 1) := by decide +kernel
theorem dX2_hasGotEdition_15 : decode cX2_hasGotEdition 15 = .ok (.baload, 1) := by decide +kernel
theorem dX2_hasGotEdition_16 : decode cX2_hasGotEdition 16 = .ok (.ifCond .eq 7, 3) := by decide +kernel
theorem dX2_hasGotEdition_19 : decode cX2_hasGotEdition 19 = .ok (.iconst 1, 1) := by decide +kernel
theorem dX2_hasGotEdition_20 : decode cX2_hasGotEdition 20 = .ok (.goto 4, 3) := by decide +kernel
theorem dX2_hasGotEdition_23 : decode cX2_hasGotEdition 23 = .ok (.iconst 0, 1) := by decide +kernel
theorem dX2_hasGotEdition_24 : decode cX2_hasGotEdition 24 = .ok (.ireturn, 1) := by decide +kernel
theorem dX2_endWork_0 : decode cX2_endWork 0 = .ok (.iconst 0, 1) := by decide +kernel
theorem dX2_endWork_1 : decode cX2_endWork 1 = .ok (.istore_n 1, 1) := by decide +kernel
theorem dX2_endWork_2 : decode cX2_endWork 2 = .ok (.iload_n 1, 1) := by decide +kernel
theorem dX2_endWork_3 : decode cX2_endWork 3 = .ok (.bipush 60, 2) := by decide +kernel
theorem dX2_endWork_5 : decode cX2_endWork 5 = .ok (.if_icmp .ge 16, 3) := by decide +kernel
theorem dX2_endWork_8 : decode cX2_endWork 8 = .ok (.aload_n 0, 1) := by decide +kernel
theorem dX2_endWork_9 : decode cX2_endWork 9 = .ok (.getfield 34, 3) := by decide +kernel
theorem dX2_endWork_12 : decode cX2_endWork 12 = .ok (.iload_n 1, 1) := by decide +kernel
theorem dX2_endWork_13 : decode cX2_endWork 13 = .ok (.iconst 0, 1) := by decide +kernel
theorem dX2_endWork_14 : decode cX2_endWork 14 = .ok (.bastore, 1) := by decide +kernel
theorem dX2_endWork_15 : decode cX2_endWork 15 = .ok (.iinc 1 1, 3) := by decide +kernel
theorem dX2_endWork_18 : decode cX2_endWork 18 = .ok (.goto (-16), 3) := by decide +kernel
theorem dX2_endWork_21 : decode cX2_endWork 21 = .ok (.return_, 1) := by decide +kernel
theorem dX3_count_0 : decode cX3_count 0 = .ok (.aload_n 0, 1) := by decide +kernel
theorem dX3_count_1 : decode cX3_count 1 = .ok (.getfield 21, 3) := by decide +kernel
theorem dX3_count_4 : decode cX3_count 4 = .ok (.ireturn, 1) := by decide +kernel
theorem dX3_countBuried_0 : decode cX3_countBuried 0 = .ok (.iconst 0, 1) := by decide +kernel
theorem dX3_countBuried_1 : decode cX3_countBuried 1 = .ok (.istore_n 1, 1) := by decide +kernel
theorem dX3_countBuried_2 : decode cX3_countBuried 2 = .ok (.iconst 0, 1) := by decide +kernel
theorem dX3_countBuried_3 : decode cX3_countBuried 3 = .ok (.istore_n 2, 1) := by decide +kernel
theorem dX3_countBuried_4 : decode cX3_countBuried 4 = .ok (.iload_n 2, 1) := by decide +kernel
theorem dX3_countBuried_5 : decode cX3_countBuried 5 = .ok (.aload_n 0, 1) := by decide +kernel
theorem dX3_countBuried_6 : decode cX3_countBuried 6 = .ok (.getfield 21, 3) := by decide +kernel
theorem dX3_countBuried_9 : decode cX3_countBuried 9 = .ok (.if_icmp .ge 23, 3) := by decide +kernel
theorem dX3_countBuried_12 : decode cX3_countBuried 12 = .ok (.iload_n 2, 1) := by decide +kernel
theorem dX3_countBuried_13 : decode cX3_countBuried 13 = .ok (.iconst 3, 1) := by decide +kernel
theorem dX3_countBuried_14 : decode cX3_countBuried 14 = .ok (.if_icmp .gt 18, 3) := by decide +kernel
theorem dX3_countBuried_17 : decode cX3_countBuried 17 = .ok (.iload_n 1, 1) := by decide +kernel
theorem dX3_countBuried_18 : decode cX3_countBuried 18 = .ok (.aload_n 0, 1) := by decide +kernel
theorem dX3_countBuried_19 : decode cX3_countBuried 19 = .ok (.getfield 18, 3) := by decide +kernel
theorem dX3_countBuried_22 : decode cX3_countBuried 22 = .ok (.iload_n 2, 1) := by decide +kernel
theorem dX3_countBuried_23 : decode cX3_countBuried 23 = .ok (.iaload, 1) := by decide +kernel
theorem dX3_countBuried_24 : decode cX3_countBuried 24 = .ok (.iadd, 1) := by decide +kernel
theorem dX3_countBuried_25 : decode cX3_countBuried 25 = .ok (.istore_n 1, 1) := by decide +kernel
theorem dX3_countBuried_26 : decode cX3_countBuried 26 = .ok (.iinc 2 1, 3) := by decide +kernel
theorem dX3_countBuried_29 : decode cX3_countBuried 29 = .ok (.goto (-25), 3) := by decide +kernel
theorem dX3_countBuried_32 : decode cX3_countBuried 32 = .ok (.iload_n 1, 1) := by decide +kernel
theorem dX3_countBuried_33 : decode cX3_countBuried 33 = .ok (.ireturn, 1) := by decide +kernel
theorem dX3_endWork_0 : decode cX3_endWork 0 = .ok (.iconst 0, 1) := by decide +kernel
theorem dX3_endWork_1 : decode cX3_endWork 1 = .ok (.istore_n 2, 1) := by decide +kernel
theorem dX3_endWork_2 : decode cX3_endWork 2 = .ok (.iload_n 2, 1) := by decide +kernel
theorem dX3_endWork_3 : decode cX3_endWork 3 = .ok (.bipush 60, 2) := by decide +kernel
theorem dX3_endWork_5 : decode cX3_endWork 5 = .ok (.if_icmp .ge 30, 3) := by decide +kernel
theorem dX3_endWork_8 : decode cX3_endWork 8 = .ok (.aload_n 1, 1) := by decide +kernel
theorem dX3_endWork_9 : decode cX3_endWork 9 = .ok (.iload_n 2, 1) := by decide +kernel
theorem dX3_endWork_10 : decode cX3_endWork 10 = .ok (.invokevirtual 25, 3) := by decide +kernel
theorem dX3_endWork_13 : decode cX3_endWork 13 = .ok (.ifCond .ne 11, 3) := by decide +kernel
theorem dX3_endWork_16 : decode cX3_endWork 16 = .ok (.aload_n 1, 1) := by decide +kernel
theorem dX3_endWork_17 : decode cX3_endWork 17 = .ok (.iload_n 2, 1) := by decide +kernel
theorem dX3_endWork_18 : decode cX3_endWork 18 = .ok (.invokevirtual 31, 3) := by decide +kernel
theorem dX3_endWork_21 : decode cX3_endWork 21 = .ok (.ifCond .ne 8, 3) := by decide +kernel
theorem dX3_endWork_24 : decode cX3_endWork 24 = .ok (.aload_n 0, 1) := by decide +kernel
theorem dX3_endWork_25 : decode cX3_endWork 25 = .ok (.iload_n 2, 1) := by decide +kernel
theorem dX3_endWork_26 : decode cX3_endWork 26 = .ok (.invokevirtual 34, 3) := by decide +kernel
theorem dX3_endWork_29 : decode cX3_endWork 29 = .ok (.iinc 2 1, 3) := by decide +kernel
theorem dX3_endWork_32 : decode cX3_endWork 32 = .ok (.goto (-30), 3) := by decide +kernel
theorem dX3_endWork_35 : decode cX3_endWork 35 = .ok (.aload_n 0, 1) := by decide +kernel
theorem dX3_endWork_36 : decode cX3_endWork 36 = .ok (.aload_n 1, 1) := by decide +kernel
theorem dX3_endWork_37 : decode cX3_endWork 37 = .ok (.invokevirtual 38, 3) := by decide +kernel
theorem dX3_endWork_40 : decode cX3_endWork 40 = .ok (.iconst 3, 1) := by decide +kernel
theorem dX3_endWork_41 : decode cX3_endWork 41 = .ok (.istore_n 2, 1) := by decide +kernel
theorem dX3_endWork_42 : decode cX3_endWork 42 = .ok (.iload_n 2, 1) := by decide +kernel
theorem dX3_endWork_43 : decode cX3_endWork 43 = .ok (.ifCond .lt 31, 3) := by decide +kernel
theorem dX3_endWork_46 : decode cX3_endWork 46 = .ok (.iload_n 2, 1) := by decide +kernel
theorem dX3_endWork_47 : decode cX3_endWork 47 = .ok (.aload_n 0, 1) := by decide +kernel
theorem dX3_endWork_48 : decode cX3_endWork 48 = .ok (.getfield 21, 3) := by decide +kernel
theorem dX3_endWork_51 : decode cX3_endWork 51 = .ok (.if_icmp .ge 17, 3) := by decide +kernel
theorem dX3_endWork_54 : decode cX3_endWork 54 = .ok (.aload_n 0, 1) := by decide +kernel
theorem dX3_endWork_55 : decode cX3_endWork 55 = .ok (.getfield 15, 3) := by decide +kernel
theorem dX3_endWork_58 : decode cX3_endWork 58 = .ok (.iload_n 2, 1) := by decide +kernel
theorem dX3_endWork_59 : decode cX3_endWork 59 = .ok (.iaload, 1) := by decide +kernel
theorem dX3_endWork_60 : decode cX3_endWork 60 = .ok (.ifCond .ne 8, 3) := by decide +kernel
theorem dX3_endWork_63 : decode cX3_endWork 63 = .ok (.aload_n 0, 1) := by decide +kernel
theorem dX3_endWork_64 : decode cX3_endWork 64 = .ok (.iload_n 2, 1) := by decide +kernel
theorem dX3_endWork_65 : decode cX3_endWork 65 = .ok (.invokevirtual 42, 3) := by decide +kernel
theorem dX3_endWork_68 : decode cX3_endWork 68 = .ok (.iinc 2 (-1), 3) := by decide +kernel
theorem dX3_endWork_71 : decode cX3_endWork 71 = .ok (.goto (-29), 3) := by decide +kernel
theorem dX3_endWork_74 : decode cX3_endWork 74 = .ok (.iconst 0, 1) := by decide +kernel
theorem dX3_endWork_75 : decode cX3_endWork 75 = .ok (.istore_n 2, 1) := by decide +kernel
theorem dX3_endWork_76 : decode cX3_endWork 76 = .ok (.iload_n 2, 1) := by decide +kernel
theorem dX3_endWork_77 : decode cX3_endWork 77 = .ok (.iconst 3, 1) := by decide +kernel
theorem dX3_endWork_78 : decode cX3_endWork 78 = .ok (.if_icmp .ge 25, 3) := by decide +kernel
theorem dX3_endWork_81 : decode cX3_endWork 81 = .ok (.aload_n 0, 1) := by decide +kernel
theorem dX3_endWork_82 : decode cX3_endWork 82 = .ok (.getfield 21, 3) := by decide +kernel
theorem dX3_endWork_85 : decode cX3_endWork 85 = .ok (.iconst 3, 1) := by decide +kernel
theorem dX3_endWork_86 : decode cX3_endWork 86 = .ok (.if_icmp .le 17, 3) := by decide +kernel
theorem dX3_endWork_89 : decode cX3_endWork 89 = .ok (.aload_n 0, 1) := by decide +kernel
theorem dX3_endWork_90 : decode cX3_endWork 90 = .ok (.aload_n 0, 1) := by decide +kernel
theorem dX3_endWork_91 : decode cX3_endWork 91 = .ok (.invokevirtual 45, 3) := by decide +kernel
theorem dX3_endWork_94 : decode cX3_endWork 94 = .ok (.invokevirtual 49, 3) := by decide +kernel
theorem dX3_endWork_97 : decode cX3_endWork 97 = .ok (.iinc 2 1, 3) := by decide +kernel
theorem dX3_endWork_100 : decode cX3_endWork 100 = .ok (.goto (-24), 3) := by decide +kernel
theorem dX3_endWork_103 : decode cX3_endWork 103 = .ok (.return_, 1) := by decide +kernel
theorem dX3_bury_0 : decode cX3_bury 0 = .ok (.iload_n 1, 1) := by decide +kernel
theorem dX3_bury_1 : decode cX3_bury 1 = .ok (.ifCond .lt 9, 3) := by decide +kernel
theorem dX3_bury_4 : decode cX3_bury 4 = .ok (.iload_n 1, 1) := by decide +kernel
theorem dX3_bury_5 : decode cX3_bury 5 = .ok (.bipush 60, 2) := by decide +kernel
theorem dX3_bury_7 : decode cX3_bury 7 = .ok (.if_icmp .lt 4, 3) := by decide +kernel
theorem dX3_bury_10 : decode cX3_bury 10 = .ok (.return_, 1) := by decide +kernel
theorem dX3_bury_11 : decode cX3_bury 11 = .ok (.aload_n 0, 1) := by decide +kernel
theorem dX3_bury_12 : decode cX3_bury 12 = .ok (.getfield 9, 3) := by decide +kernel
theorem dX3_bury_15 : decode cX3_bury 15 = .ok (.iload_n 1, 1) := by decide +kernel
theorem dX3_bury_16 : decode cX3_bury 16 = .ok (.iaload, 1) := by decide +kernel
theorem dX3_bury_17 : decode cX3_bury 17 = .ok (.istore_n 2, 1) := by decide +kernel
theorem dX3_bury_18 : decode cX3_bury 18 = .ok (.iload_n 2, 1) := by decide +kernel
theorem dX3_bury_19 : decode cX3_bury 19 = .ok (.ifCond .lt 28, 3) := by decide +kernel
theorem dX3_bury_22 : decode cX3_bury 22 = .ok (.iload_n 2, 1) := by decide +kernel
theorem dX3_bury_23 : decode cX3_bury 23 = .ok (.iconst 3, 1) := by decide +kernel
theorem dX3_bury_24 : decode cX3_bury 24 = .ok (.if_icmp .gt 23, 3) := by decide +kernel
theorem dX3_bury_27 : decode cX3_bury 27 = .ok (.aload_n 0, 1) := by decide +kernel
theorem dX3_bury_28 : decode cX3_bury 28 = .ok (.getfield 15, 3) := by decide +kernel
theorem dX3_bury_31 : decode cX3_bury 31 = .ok (.iload_n 2, 1) := by decide +kernel
theorem dX3_bury_32 : decode cX3_bury 32 = .ok (.dup2, 1) := by decide +kernel
theorem dX3_bury_33 : decode cX3_bury 33 = .ok (.iaload, 1) := by decide +kernel
theorem dX3_bury_34 : decode cX3_bury 34 = .ok (.iconst 1, 1) := by decide +kernel
theorem dX3_bury_35 : decode cX3_bury 35 = .ok (.isub, 1) := by decide +kernel
theorem dX3_bury_36 : decode cX3_bury 36 = .ok (.iastore, 1) := by decide +kernel
theorem dX3_bury_37 : decode cX3_bury 37 = .ok (.aload_n 0, 1) := by decide +kernel
theorem dX3_bury_38 : decode cX3_bury 38 = .ok (.getfield 18, 3) := by decide +kernel
theorem dX3_bury_41 : decode cX3_bury 41 = .ok (.iload_n 2, 1) := by decide +kernel
theorem dX3_bury_42 : decode cX3_bury 42 = .ok (.dup2, 1) := by decide +kernel
theorem dX3_bury_43 : decode cX3_bury 43 = .ok (.iaload, 1) := by decide +kernel
theorem dX3_bury_44 : decode cX3_bury 44 = .ok (.iconst 1, 1) := by decide +kernel
theorem dX3_bury_45 : decode cX3_bury 45 = .ok (.iadd, 1) := by decide +kernel
theorem dX3_bury_46 : decode cX3_bury 46 = .ok (.iastore, 1) := by decide +kernel
theorem dX3_bury_47 : decode cX3_bury 47 = .ok (.aload_n 0, 1) := by decide +kernel
theorem dX3_bury_48 : decode cX3_bury 48 = .ok (.getfield 9, 3) := by decide +kernel
theorem dX3_bury_51 : decode cX3_bury 51 = .ok (.iload_n 1, 1) := by decide +kernel
theorem dX3_bury_52 : decode cX3_bury 52 = .ok (.iconst (-1), 1) := by decide +kernel
theorem dX3_bury_53 : decode cX3_bury 53 = .ok (.iastore, 1) := by decide +kernel
theorem dX3_bury_54 : decode cX3_bury 54 = .ok (.return_, 1) := by decide +kernel
theorem dX3_addSegment_0 : decode cX3_addSegment 0 = .ok (.aload_n 0, 1) := by decide +kernel
theorem dX3_addSegment_1 : decode cX3_addSegment 1 = .ok (.getfield 21, 3) := by decide +kernel
theorem dX3_addSegment_4 : decode cX3_addSegment 4 = .ok (.ifCond .lt 11, 3) := by decide +kernel
theorem dX3_addSegment_7 : decode cX3_addSegment 7 = .ok (.aload_n 0, 1) := by decide +kernel
theorem dX3_addSegment_8 : decode cX3_addSegment 8 = .ok (.getfield 21, 3) := by decide +kernel
theorem dX3_addSegment_11 : decode cX3_addSegment 11 = .ok (.iconst 3, 1) := by decide +kernel
theorem dX3_addSegment_12 : decode cX3_addSegment 12 = .ok (.if_icmp .le 4, 3) := by decide +kernel
theorem dX3_addSegment_15 : decode cX3_addSegment 15 = .ok (.return_, 1) := by decide +kernel
theorem dX3_addSegment_16 : decode cX3_addSegment 16 = .ok (.aload_n 0, 1) := by decide +kernel
theorem dX3_addSegment_17 : decode cX3_addSegment 17 = .ok (.getfield 15, 3) := by decide +kernel
theorem dX3_addSegment_20 : decode cX3_addSegment 20 = .ok (.aload_n 0, 1) := by decide +kernel
theorem dX3_addSegment_21 : decode cX3_addSegment 21 = .ok (.getfield 21, 3) := by decide +kernel
theorem dX3_addSegment_24 : decode cX3_addSegment 24 = .ok (.iconst 0, 1) := by decide +kernel
theorem dX3_addSegment_25 : decode cX3_addSegment 25 = .ok (.iastore, 1) := by decide +kernel
theorem dX3_addSegment_26 : decode cX3_addSegment 26 = .ok (.aload_n 0, 1) := by decide +kernel
theorem dX3_addSegment_27 : decode cX3_addSegment 27 = .ok (.getfield 18, 3) := by decide +kernel
theorem dX3_addSegment_30 : decode cX3_addSegment 30 = .ok (.aload_n 0, 1) := by decide +kernel
theorem dX3_addSegment_31 : decode cX3_addSegment 31 = .ok (.getfield 21, 3) := by decide +kernel
theorem dX3_addSegment_34 : decode cX3_addSegment 34 = .ok (.iconst 0, 1) := by decide +kernel
theorem dX3_addSegment_35 : decode cX3_addSegment 35 = .ok (.iastore, 1) := by decide +kernel
theorem dX3_addSegment_36 : decode cX3_addSegment 36 = .ok (.iconst 0, 1) := by decide +kernel
theorem dX3_addSegment_37 : decode cX3_addSegment 37 = .ok (.istore_n 2, 1) := by decide +kernel
theorem dX3_addSegment_38 : decode cX3_addSegment 38 = .ok (.iload_n 2, 1) := by decide +kernel
theorem dX3_addSegment_39 : decode cX3_addSegment 39 = .ok (.bipush 60, 2) := by decide +kernel
theorem dX3_addSegment_41 : decode cX3_addSegment 41 = .ok (.if_icmp .ge 40, 3) := by decide +kernel
theorem dX3_addSegment_44 : decode cX3_addSegment 44 = .ok (.aload_n 1, 1) := by decide +kernel
theorem dX3_addSegment_45 : decode cX3_addSegment 45 = .ok (.iload_n 2, 1) := by decide +kernel
theorem dX3_addSegment_46 : decode cX3_addSegment 46 = .ok (.invokevirtual 25, 3) := by decide +kernel
theorem dX3_addSegment_49 : decode cX3_addSegment 49 = .ok (.ifCond .eq 26, 3) := by decide +kernel
theorem dX3_addSegment_52 : decode cX3_addSegment 52 = .ok (.aload_n 0, 1) := by decide +kernel
theorem dX3_addSegment_53 : decode cX3_addSegment 53 = .ok (.getfield 9, 3) := by decide +kernel
theorem dX3_addSegment_56 : decode cX3_addSegment 56 = .ok (.iload_n 2, 1) := by decide +kernel
theorem dX3_addSegment_57 : decode cX3_addSegment 57 = .ok (.aload_n 0, 1) := by decide +kernel
theorem dX3_addSegment_58 : decode cX3_addSegment 58 = .ok (.getfield 21, 3) := by decide +kernel
theorem dX3_addSegment_61 : decode cX3_addSegment 61 = .ok (.iastore, 1) := by decide +kernel
theorem dX3_addSegment_62 : decode cX3_addSegment 62 = .ok (.aload_n 0, 1) := by decide +kernel
theorem dX3_addSegment_63 : decode cX3_addSegment 63 = .ok (.getfield 15, 3) := by decide +kernel
theorem dX3_addSegment_66 : decode cX3_addSegment 66 = .ok (.aload_n 0, 1) := by decide +kernel
theorem dX3_addSegment_67 : decode cX3_addSegment 67 = .ok (.getfield 21, 3) := by decide +kernel
theorem dX3_addSegment_70 : decode cX3_addSegment 70 = .ok (.dup2, 1) := by decide +kernel
theorem dX3_addSegment_71 : decode cX3_addSegment 71 = .ok (.iaload, 1) := by decide +kernel
theorem dX3_addSegment_72 : decode cX3_addSegment 72 = .ok (.iconst 1, 1) := by decide +kernel
theorem dX3_addSegment_73 : decode cX3_addSegment 73 = .ok (.iadd, 1) := by decide +kernel
theorem dX3_addSegment_74 : decode cX3_addSegment 74 = .ok (.iastore, 1) := by decide +kernel
theorem dX3_addSegment_75 : decode cX3_addSegment 75 = .ok (.iinc 2 1, 3) := by decide +kernel
theorem dX3_addSegment_78 : decode cX3_addSegment 78 = .ok (.goto (-40), 3) := by decide +kernel
theorem dX3_addSegment_81 : decode cX3_addSegment 81 = .ok (.aload_n 0, 1) := by decide +kernel
theorem dX3_addSegment_82 : decode cX3_addSegment 82 = .ok (.dup, 1) := by decide +kernel
theorem dX3_addSegment_83 : decode cX3_addSegment 83 = .ok (.getfield 21, 3) := by decide +kernel
theorem dX3_addSegment_86 : decode cX3_addSegment 86 = .ok (.iconst 1, 1) := by decide +kernel
theorem dX3_addSegment_87 : decode cX3_addSegment 87 = .ok (.iadd, 1) := by decide +kernel
theorem dX3_addSegment_88 : decode cX3_addSegment 88 = .ok (.putfield 21, 3) := by decide +kernel
theorem dX3_addSegment_91 : decode cX3_addSegment 91 = .ok (.return_, 1) := by decide +kernel
theorem dX3_close_0 : decode cX3_close 0 = .ok (.iload_n 1, 1) := by decide +kernel
theorem dX3_close_1 : decode cX3_close 1 = .ok (.ifCond .lt 11, 3) := by decide +kernel
theorem dX3_close_4 : decode cX3_close 4 = .ok (.iload_n 1, 1) := by decide +kernel
theorem dX3_close_5 : decode cX3_close 5 = .ok (.aload_n 0, 1) := by decide +kernel
theorem dX3_close_6 : decode cX3_close 6 = .ok (.getfield 21, 3) := by decide +kernel
theorem dX3_close_9 : decode cX3_close 9 = .ok (.if_icmp .lt 4, 3) := by decide +kernel
theorem dX3_close_12 : decode cX3_close 12 = .ok (.return_, 1) := by decide +kernel
theorem dX3_close_13 : decode cX3_close 13 = .ok (.iload_n 1, 1) := by decide +kernel
theorem dX3_close_14 : decode cX3_close 14 = .ok (.istore_n 2, 1) := by decide +kernel
theorem dX3_close_15 : decode cX3_close 15 = .ok (.iload_n 2, 1) := by decide +kernel
theorem dX3_close_16 : decode cX3_close 16 = .ok (.iconst 1, 1) := by decide +kernel
theorem dX3_close_17 : decode cX3_close 17 = .ok (.iadd, 1) := by decide +kernel
theorem dX3_close_18 : decode cX3_close 18 = .ok (.aload_n 0, 1) := by decide +kernel
theorem dX3_close_19 : decode cX3_close 19 = .ok (.getfield 21, 3) := by decide +kernel
theorem dX3_close_22 : decode cX3_close 22 = .ok (.if_icmp .ge 42, 3) := by decide +kernel
theorem dX3_close_25 : decode cX3_close 25 = .ok (.iload_n 2, 1) := by decide +kernel
theorem dX3_close_26 : decode cX3_close 26 = .ok (.iconst 3, 1) := by decide +kernel
theorem dX3_close_27 : decode cX3_close 27 = .ok (.if_icmp .ge 37, 3) := by decide +kernel
theorem dX3_close_30 : decode cX3_close 30 = .ok (.aload_n 0, 1) := by decide +kernel
theorem dX3_close_31 : decode cX3_close 31 = .ok (.getfield 15, 3) := by decide +kernel
theorem dX3_close_34 : decode cX3_close 34 = .ok (.iload_n 2, 1) := by decide +kernel
theorem dX3_close_35 : decode cX3_close 35 = .ok (.aload_n 0, 1) := by decide +kernel
theorem dX3_close_36 : decode cX3_close 36 = .ok (.getfield 15, 3) := by decide +kernel
theorem dX3_close_39 : decode cX3_close 39 = .ok (.iload_n 2, 1) := by decide +kernel
theorem dX3_close_40 : decode cX3_close 40 = .ok (.iconst 1, 1) := by decide +kernel
theorem dX3_close_41 : decode cX3_close 41 = .ok (.iadd, 1) := by decide +kernel
theorem dX3_close_42 : decode cX3_close 42 = .ok (.iaload, 1) := by decide +kernel
theorem dX3_close_43 : decode cX3_close 43 = .ok (.iastore, 1) := by decide +kernel
theorem dX3_close_44 : decode cX3_close 44 = .ok (.aload_n 0, 1) := by decide +kernel
theorem dX3_close_45 : decode cX3_close 45 = .ok (.getfield 18, 3) := by decide +kernel
theorem dX3_close_48 : decode cX3_close 48 = .ok (.iload_n 2, 1) := by decide +kernel
theorem dX3_close_49 : decode cX3_close 49 = .ok (.aload_n 0, 1) := by decide +kernel
theorem dX3_close_50 : decode cX3_close 50 = .ok (.getfield 18, 3) := by decide +kernel
theorem dX3_close_53 : decode cX3_close 53 = .ok (.iload_n 2, 1) := by decide +kernel
theorem dX3_close_54 : decode cX3_close 54 = .ok (.iconst 1, 1) := by decide +kernel
theorem dX3_close_55 : decode cX3_close 55 = .ok (.iadd, 1) := by decide +kernel
theorem dX3_close_56 : decode cX3_close 56 = .ok (.iaload, 1) := by decide +kernel
theorem dX3_close_57 : decode cX3_close 57 = .ok (.iastore, 1) := by decide +kernel
theorem dX3_close_58 : decode cX3_close 58 = .ok (.iinc 2 1, 3) := by decide +kernel
theorem dX3_close_61 : decode cX3_close 61 = .ok (.goto (-46), 3) := by decide +kernel
theorem dX3_close_64 : decode cX3_close 64 = .ok (.iconst 0, 1) := by decide +kernel
theorem dX3_close_65 : decode cX3_close 65 = .ok (.istore_n 2, 1) := by decide +kernel
theorem dX3_close_66 : decode cX3_close 66 = .ok (.iload_n 2, 1) := by decide +kernel
theorem dX3_close_67 : decode cX3_close 67 = .ok (.bipush 60, 2) := by decide +kernel
theorem dX3_close_69 : decode cX3_close 69 = .ok (.if_icmp .ge 29, 3) := by decide +kernel
theorem dX3_close_72 : decode cX3_close 72 = .ok (.aload_n 0, 1) := by decide +kernel
theorem dX3_close_73 : decode cX3_close 73 = .ok (.getfield 9, 3) := by decide +kernel
theorem dX3_close_76 : decode cX3_close 76 = .ok (.iload_n 2, 1) := by decide +kernel
theorem dX3_close_77 : decode cX3_close 77 = .ok (.iaload, 1) := by decide +kernel
theorem dX3_close_78 : decode cX3_close 78 = .ok (.iload_n 1, 1) := by decide +kernel
theorem dX3_close_79 : decode cX3_close 79 = .ok (.if_icmp .le 13, 3) := by decide +kernel
theorem dX3_close_82 : decode cX3_close 82 = .ok (.aload_n 0, 1) := by decide +kernel
theorem dX3_close_83 : decode cX3_close 83 = .ok (.getfield 9, 3) := by decide +kernel
theorem dX3_close_86 : decode cX3_close 86 = .ok (.iload_n 2, 1) := by decide +kernel
theorem dX3_close_87 : decode cX3_close 87 = .ok (.dup2, 1) := by decide +kernel
theorem dX3_close_88 : decode cX3_close 88 = .ok (.iaload, 1) := by decide +kernel
theorem dX3_close_89 : decode cX3_close 89 = .ok (.iconst 1, 1) := by decide +kernel
theorem dX3_close_90 : decode cX3_close 90 = .ok (.isub, 1) := by decide +kernel
theorem dX3_close_91 : decode cX3_close 91 = .ok (.iastore, 1) := by decide +kernel
theorem dX3_close_92 : decode cX3_close 92 = .ok (.iinc 2 1, 3) := by decide +kernel
theorem dX3_close_95 : decode cX3_close 95 = .ok (.goto (-29), 3) := by decide +kernel
theorem dX3_close_98 : decode cX3_close 98 = .ok (.aload_n 0, 1) := by decide +kernel
theorem dX3_close_99 : decode cX3_close 99 = .ok (.dup, 1) := by decide +kernel
theorem dX3_close_100 : decode cX3_close 100 = .ok (.getfield 21, 3) := by decide +kernel
theorem dX3_close_103 : decode cX3_close 103 = .ok (.iconst 1, 1) := by decide +kernel
theorem dX3_close_104 : decode cX3_close 104 = .ok (.isub, 1) := by decide +kernel
theorem dX3_close_105 : decode cX3_close 105 = .ok (.putfield 21, 3) := by decide +kernel
theorem dX3_close_108 : decode cX3_close 108 = .ok (.return_, 1) := by decide +kernel
theorem dX3_smallestPair_0 : decode cX3_smallestPair 0 = .ok (.iconst (-1), 1) := by decide +kernel
theorem dX3_smallestPair_1 : decode cX3_smallestPair 1 = .ok (.istore_n 1, 1) := by decide +kernel
theorem dX3_smallestPair_2 : decode cX3_smallestPair 2 = .ok (.iconst 0, 1) := by decide +kernel
theorem dX3_smallestPair_3 : decode cX3_smallestPair 3 = .ok (.istore_n 2, 1) := by decide +kernel
theorem dX3_smallestPair_4 : decode cX3_smallestPair 4 = .ok (.iconst 0, 1) := by decide +kernel
theorem dX3_smallestPair_5 : decode cX3_smallestPair 5 = .ok (.istore_n 3, 1) := by decide +kernel
theorem dX3_smallestPair_6 : decode cX3_smallestPair 6 = .ok (.iload_n 3, 1) := by decide +kernel
theorem dX3_smallestPair_7 : decode cX3_smallestPair 7 = .ok (.iconst 1, 1) := by decide +kernel
theorem dX3_smallestPair_8 : decode cX3_smallestPair 8 = .ok (.iadd, 1) := by decide +kernel
theorem dX3_smallestPair_9 : decode cX3_smallestPair 9 = .ok (.aload_n 0, 1) := by decide +kernel
theorem dX3_smallestPair_10 : decode cX3_smallestPair 10 = .ok (.getfield 21, 3) := by decide +kernel
theorem dX3_smallestPair_13 : decode cX3_smallestPair 13 = .ok (.if_icmp .ge 63, 3) := by decide +kernel
theorem dX3_smallestPair_16 : decode cX3_smallestPair 16 = .ok (.iload_n 3, 1) := by decide +kernel
theorem dX3_smallestPair_17 : decode cX3_smallestPair 17 = .ok (.iconst 3, 1) := by decide +kernel
theorem dX3_smallestPair_18 : decode cX3_smallestPair 18 = .ok (.if_icmp .ge 58, 3) := by decide +kernel
theorem dX3_smallestPair_21 : decode cX3_smallestPair 21 = .ok (.aload_n 0, 1) := by decide +kernel
theorem dX3_smallestPair_22 : decode cX3_smallestPair 22 = .ok (.getfield 15, 3) := by decide +kernel
theorem dX3_smallestPair_25 : decode cX3_smallestPair 25 = .ok (.iload_n 3, 1) := by decide +kernel
theorem dX3_smallestPair_26 : decode cX3_smallestPair 26 = .ok (.iaload, 1) := by decide +kernel
theorem dX3_smallestPair_27 : decode cX3_smallestPair 27 = .ok (.aload_n 0, 1) := by decide +kernel
theorem dX3_smallestPair_28 : decode cX3_smallestPair 28 = .ok (.getfield 18, 3) := by decide +kernel
theorem dX3_smallestPair_31 : decode cX3_smallestPair 31 = .ok (.iload_n 3, 1) := by decide +kernel
theorem dX3_smallestPair_32 : decode cX3_smallestPair 32 = .ok (.iaload, 1) := by decide +kernel
theorem dX3_smallestPair_33 : decode cX3_smallestPair 33 = .ok (.iadd, 1) := by decide +kernel
theorem dX3_smallestPair_34 : decode cX3_smallestPair 34 = .ok (.aload_n 0, 1) := by decide +kernel
theorem dX3_smallestPair_35 : decode cX3_smallestPair 35 = .ok (.getfield 15, 3) := by decide +kernel
theorem dX3_smallestPair_38 : decode cX3_smallestPair 38 = .ok (.iload_n 3, 1) := by decide +kernel
theorem dX3_smallestPair_39 : decode cX3_smallestPair 39 = .ok (.iconst 1, 1) := by decide +kernel
theorem dX3_smallestPair_40 : decode cX3_smallestPair 40 = .ok (.iadd, 1) := by decide +kernel
theorem dX3_smallestPair_41 : decode cX3_smallestPair 41 = .ok (.iaload, 1) := by decide +kernel
theorem dX3_smallestPair_42 : decode cX3_smallestPair 42 = .ok (.iadd, 1) := by decide +kernel
theorem dX3_smallestPair_43 : decode cX3_smallestPair 43 = .ok (.aload_n 0, 1) := by decide +kernel
theorem dX3_smallestPair_44 : decode cX3_smallestPair 44 = .ok (.getfield 18, 3) := by decide +kernel
theorem dX3_smallestPair_47 : decode cX3_smallestPair 47 = .ok (.iload_n 3, 1) := by decide +kernel
theorem dX3_smallestPair_48 : decode cX3_smallestPair 48 = .ok (.iconst 1, 1) := by decide +kernel
theorem dX3_smallestPair_49 : decode cX3_smallestPair 49 = .ok (.iadd, 1) := by decide +kernel
theorem dX3_smallestPair_50 : decode cX3_smallestPair 50 = .ok (.iaload, 1) := by decide +kernel
theorem dX3_smallestPair_51 : decode cX3_smallestPair 51 = .ok (.iadd, 1) := by decide +kernel
theorem dX3_smallestPair_52 : decode cX3_smallestPair 52 = .ok (.istore 4, 2) := by decide +kernel
theorem dX3_smallestPair_54 : decode cX3_smallestPair 54 = .ok (.iload_n 1, 1) := by decide +kernel
theorem dX3_smallestPair_55 : decode cX3_smallestPair 55 = .ok (.iconst (-1), 1) := by decide +kernel
theorem dX3_smallestPair_56 : decode cX3_smallestPair 56 = .ok (.if_icmp .eq 9, 3) := by decide +kernel
theorem dX3_smallestPair_59 : decode cX3_smallestPair 59 = .ok (.iload 4, 2) := by decide +kernel
theorem dX3_smallestPair_61 : decode cX3_smallestPair 61 = .ok (.iload_n 2, 1) := by decide +kernel
theorem dX3_smallestPair_62 : decode cX3_smallestPair 62 = .ok (.if_icmp .ge 8, 3) := by decide +kernel
theorem dX3_smallestPair_65 : decode cX3_smallestPair 65 = .ok (.iload 4, 2) := by decide +kernel
theorem dX3_smallestPair_67 : decode cX3_smallestPair 67 = .ok (.istore_n 2, 1) := by decide +kernel
theorem dX3_smallestPair_68 : decode cX3_smallestPair 68 = .ok (.iload_n 3, 1) := by decide +kernel
theorem dX3_smallestPair_69 : decode cX3_smallestPair 69 = .ok (.istore_n 1, 1) := by decide +kernel
theorem dX3_smallestPair_70 : decode cX3_smallestPair 70 = .ok (.iinc 3 1, 3) := by decide +kernel
theorem dX3_smallestPair_73 : decode cX3_smallestPair 73 = .ok (.goto (-67), 3) := by decide +kernel
theorem dX3_smallestPair_76 : decode cX3_smallestPair 76 = .ok (.iload_n 1, 1) := by decide +kernel
theorem dX3_smallestPair_77 : decode cX3_smallestPair 77 = .ok (.ireturn, 1) := by decide +kernel
theorem dX3_joinWithNext_0 : decode cX3_joinWithNext 0 = .ok (.iload_n 1, 1) := by decide +kernel
theorem dX3_joinWithNext_1 : decode cX3_joinWithNext 1 = .ok (.ifCond .lt 18, 3) := by decide +kernel
theorem dX3_joinWithNext_4 : decode cX3_joinWithNext 4 = .ok (.iload_n 1, 1) := by decide +kernel
theorem dX3_joinWithNext_5 : decode cX3_joinWithNext 5 = .ok (.iconst 3, 1) := by decide +kernel
theorem dX3_joinWithNext_6 : decode cX3_joinWithNext 6 = .ok (.if_icmp .ge 13, 3) := by decide +kernel
theorem dX3_joinWithNext_9 : decode cX3_joinWithNext 9 = .ok (.iload_n 1, 1) := by decide +kernel
theorem dX3_joinWithNext_10 : decode cX3_joinWithNext 10 = .ok (.iconst 1, 1) := by decide +kernel
theorem dX3_joinWithNext_11 : decode cX3_joinWithNext 11 = .ok (.iadd, 1) := by decide +kernel
theorem dX3_joinWithNext_12 : decode cX3_joinWithNext 12 = .ok (.aload_n 0, 1) := by decide +kernel
theorem dX3_joinWithNext_13 : decode cX3_joinWithNext 13 = .ok (.getfield 21, 3) := by decide +kernel
theorem dX3_joinWithNext_16 : decode cX3_joinWithNext 16 = .ok (.if_icmp .lt 4, 3) := by decide +kernel
theorem dX3_joinWithNext_19 : decode cX3_joinWithNext 19 = .ok (.return_, 1) := by decide +kernel
theorem dX3_joinWithNext_20 : decode cX3_joinWithNext 20 = .ok (.aload_n 0, 1) := by decide +kernel
theorem dX3_joinWithNext_21 : decode cX3_joinWithNext 21 = .ok (.getfield 15, 3) := by decide +kernel
theorem dX3_joinWithNext_24 : decode cX3_joinWithNext 24 = .ok (.iload_n 1, 1) := by decide +kernel
theorem dX3_joinWithNext_25 : decode cX3_joinWithNext 25 = .ok (.dup2, 1) := by decide +kernel
theorem dX3_joinWithNext_26 : decode cX3_joinWithNext 26 = .ok (.iaload, 1) := by decide +kernel
theorem dX3_joinWithNext_27 : decode cX3_joinWithNext 27 = .ok (.aload_n 0, 1) := by decide +kernel
theorem dX3_joinWithNext_28 : decode cX3_joinWithNext 28 = .ok (.getfield 15, 3) := by decide +kernel
theorem dX3_joinWithNext_31 : decode cX3_joinWithNext 31 = .ok (.iload_n 1, 1) := by decide +kernel
theorem dX3_joinWithNext_32 : decode cX3_joinWithNext 32 = .ok (.iconst 1, 1) := by decide +kernel
theorem dX3_joinWithNext_33 : decode cX3_joinWithNext 33 = .ok (.iadd, 1) := by decide +kernel
theorem dX3_joinWithNext_34 : decode cX3_joinWithNext 34 = .ok (.iaload, 1) := by decide +kernel
theorem dX3_joinWithNext_35 : decode cX3_joinWithNext 35 = .ok (.iadd, 1) := by decide +kernel
theorem dX3_joinWithNext_36 : decode cX3_joinWithNext 36 = .ok (.iastore, 1) := by decide +kernel
theorem dX3_joinWithNext_37 : decode cX3_joinWithNext 37 = .ok (.aload_n 0, 1) := by decide +kernel
theorem dX3_joinWithNext_38 : decode cX3_joinWithNext 38 = .ok (.getfield 18, 3) := by decide +kernel
theorem dX3_joinWithNext_41 : decode cX3_joinWithNext 41 = .ok (.iload_n 1, 1) := by decide +kernel
theorem dX3_joinWithNext_42 : decode cX3_joinWithNext 42 = .ok (.iconst 0, 1) := by decide +kernel
theorem dX3_joinWithNext_43 : decode cX3_joinWithNext 43 = .ok (.iastore, 1) := by decide +kernel
theorem dX3_joinWithNext_44 : decode cX3_joinWithNext 44 = .ok (.iconst 0, 1) := by decide +kernel
theorem dX3_joinWithNext_45 : decode cX3_joinWithNext 45 = .ok (.istore_n 2, 1) := by decide +kernel
theorem dX3_joinWithNext_46 : decode cX3_joinWithNext 46 = .ok (.iload_n 2, 1) := by decide +kernel
theorem dX3_joinWithNext_47 : decode cX3_joinWithNext 47 = .ok (.bipush 60, 2) := by decide +kernel
theorem dX3_joinWithNext_49 : decode cX3_joinWithNext 49 = .ok (.if_icmp .ge 28, 3) := by decide +kernel
theorem dX3_joinWithNext_52 : decode cX3_joinWithNext 52 = .ok (.aload_n 0, 1) := by decide +kernel
theorem dX3_joinWithNext_53 : decode cX3_joinWithNext 53 = .ok (.getfield 9, 3) := by decide +kernel
theorem dX3_joinWithNext_56 : decode cX3_joinWithNext 56 = .ok (.iload_n 2, 1) := by decide +kernel
theorem dX3_joinWithNext_57 : decode cX3_joinWithNext 57 = .ok (.iaload, 1) := by decide +kernel
theorem dX3_joinWithNext_58 : decode cX3_joinWithNext 58 = .ok (.iload_n 1, 1) := by decide +kernel
theorem dX3_joinWithNext_59 : decode cX3_joinWithNext 59 = .ok (.iconst 1, 1) := by decide +kernel
theorem dX3_joinWithNext_60 : decode cX3_joinWithNext 60 = .ok (.iadd, 1) := by decide +kernel
theorem dX3_joinWithNext_61 : decode cX3_joinWithNext 61 = .ok (.if_icmp .ne 10, 3) := by decide +kernel
theorem dX3_joinWithNext_64 : decode cX3_joinWithNext 64 = .ok (.aload_n 0, 1) := by decide +kernel
theorem dX3_joinWithNext_65 : decode cX3_joinWithNext 65 = .ok (.getfield 9, 3) := by decide +kernel
theorem dX3_joinWithNext_68 : decode cX3_joinWithNext 68 = .ok (.iload_n 2, 1) := by decide +kernel
theorem dX3_joinWithNext_69 : decode cX3_joinWithNext 69 = .ok (.iload_n 1, 1) := by decide +kernel
theorem dX3_joinWithNext_70 : decode cX3_joinWithNext 70 = .ok (.iastore, 1) := by decide +kernel
theorem dX3_joinWithNext_71 : decode cX3_joinWithNext 71 = .ok (.iinc 2 1, 3) := by decide +kernel
theorem dX3_joinWithNext_74 : decode cX3_joinWithNext 74 = .ok (.goto (-28), 3) := by decide +kernel
theorem dX3_joinWithNext_77 : decode cX3_joinWithNext 77 = .ok (.aload_n 0, 1) := by decide +kernel
theorem dX3_joinWithNext_78 : decode cX3_joinWithNext 78 = .ok (.iload_n 1, 1) := by decide +kernel
theorem dX3_joinWithNext_79 : decode cX3_joinWithNext 79 = .ok (.iconst 1, 1) := by decide +kernel
theorem dX3_joinWithNext_80 : decode cX3_joinWithNext 80 = .ok (.iadd, 1) := by decide +kernel
theorem dX3_joinWithNext_81 : decode cX3_joinWithNext 81 = .ok (.invokevirtual 42, 3) := by decide +kernel
theorem dX3_joinWithNext_84 : decode cX3_joinWithNext 84 = .ok (.return_, 1) := by decide +kernel
theorem dX4_countActs_0 : decode cX4_countActs 0 = .ok (.aload_n 0, 1) := by decide +kernel
theorem dX4_countActs_1 : decode cX4_countActs 1 = .ok (.getfield 12, 3) := by decide +kernel
theorem dX4_countActs_4 : decode cX4_countActs 4 = .ok (.invokevirtual 41, 3) := by decide +kernel
theorem dX4_countActs_7 : decode cX4_countActs 7 = .ok (.ireturn, 1) := by decide +kernel
theorem dX4_countSegments_0 : decode cX4_countSegments 0 = .ok (.aload_n 0, 1) := by decide +kernel
theorem dX4_countSegments_1 : decode cX4_countSegments 1 = .ok (.getfield 21, 3) := by decide +kernel
theorem dX4_countSegments_4 : decode cX4_countSegments 4 = .ok (.invokevirtual 45, 3) := by decide +kernel
theorem dX4_countSegments_7 : decode cX4_countSegments 7 = .ok (.ireturn, 1) := by decide +kernel
theorem dX4_countDead_0 : decode cX4_countDead 0 = .ok (.aload_n 0, 1) := by decide +kernel
theorem dX4_countDead_1 : decode cX4_countDead 1 = .ok (.getfield 21, 3) := by decide +kernel
theorem dX4_countDead_4 : decode cX4_countDead 4 = .ok (.invokevirtual 46, 3) := by decide +kernel
theorem dX4_countDead_7 : decode cX4_countDead 7 = .ok (.ireturn, 1) := by decide +kernel
theorem dX4_lookAtAllEntries_0 : decode cX4_lookAtAllEntries 0 = .ok (.iconst 0, 1) := by decide +kernel
theorem dX4_lookAtAllEntries_1 : decode cX4_lookAtAllEntries 1 = .ok (.istore_n 1, 1) := by decide +kernel
theorem dX4_lookAtAllEntries_2 : decode cX4_lookAtAllEntries 2 = .ok (.iload_n 1, 1) := by decide +kernel
theorem dX4_lookAtAllEntries_3 : decode cX4_lookAtAllEntries 3 = .ok (.bipush 60, 2) := by decide +kernel
theorem dX4_lookAtAllEntries_5 : decode cX4_lookAtAllEntries 5 = .ok (.if_icmp .ge 29, 3) := by decide +kernel
theorem dX4_lookAtAllEntries_8 : decode cX4_lookAtAllEntries 8 = .ok (.aload_n 0, 1) := by decide +kernel
theorem dX4_lookAtAllEntries_9 : decode cX4_lookAtAllEntries 9 = .ok (.getfield 37, 3) := by decide +kernel
theorem dX4_lookAtAllEntries_12 : decode cX4_lookAtAllEntries 12 = .ok (.iload_n 1, 1) := by decide +kernel
theorem dX4_lookAtAllEntries_13 : decode cX4_lookAtAllEntries 13 = .ok (.invokevirtual 49, 3) := by decide +kernel
theorem dX4_lookAtAllEntries_16 : decode cX4_lookAtAllEntries 16 = .ok (.ifCond .eq 12, 3) := by decide +kernel
theorem dX4_lookAtAllEntries_19 : decode cX4_lookAtAllEntries 19 = .ok (.aload_n 0, 1) := by decide +kernel
theorem dX4_lookAtAllEntries_20 : decode cX4_lookAtAllEntries 20 = .ok (.getfield 12, 3) := by decide +kernel
theorem dX4_lookAtAllEntries_23 : decode cX4_lookAtAllEntries 23 = .ok (.iload_n 1, 1) := by decide +kernel
theorem dX4_lookAtAllEntries_24 : decode cX4_lookAtAllEntries 24 = .ok (.iconst 1, 1) := by decide +kernel
theorem dX4_lookAtAllEntries_25 : decode cX4_lookAtAllEntries 25 = .ok (.invokevirtual 55, 3) := by decide +kernel
theorem dX4_lookAtAllEntries_28 : decode cX4_lookAtAllEntries 28 = .ok (.iinc 1 1, 3) := by decide +kernel
theorem dX4_lookAtAllEntries_31 : decode cX4_lookAtAllEntries 31 = .ok (.goto (-29), 3) := by decide +kernel
theorem dX4_lookAtAllEntries_34 : decode cX4_lookAtAllEntries 34 = .ok (.return_, 1) := by decide +kernel
theorem dX4_doSteps_0 : decode cX4_doSteps 0 = .ok (.iconst 0, 1) := by decide +kernel
theorem dX4_doSteps_1 : decode cX4_doSteps 1 = .ok (.istore_n 2, 1) := by decide +kernel
theorem dX4_doSteps_2 : decode cX4_doSteps 2 = .ok (.iconst 0, 1) := by decide +kernel
theorem dX4_doSteps_3 : decode cX4_doSteps 3 = .ok (.istore_n 3, 1) := by decide +kernel
theorem dX4_doSteps_4 : decode cX4_doSteps 4 = .ok (.iload_n 3, 1) := by decide +kernel
theorem dX4_doSteps_5 : decode cX4_doSteps 5 = .ok (.iload_n 1, 1) := by decide +kernel
theorem dX4_doSteps_6 : decode cX4_doSteps 6 = .ok (.if_icmp .ge 36, 3) := by decide +kernel
theorem dX4_doSteps_9 : decode cX4_doSteps 9 = .ok (.iload_n 2, 1) := by decide +kernel
theorem dX4_doSteps_10 : decode cX4_doSteps 10 = .ok (.iload_n 1, 1) := by decide +kernel
theorem dX4_doSteps_11 : decode cX4_doSteps 11 = .ok (.if_icmp .ge 31, 3) := by decide +kernel
theorem dX4_doSteps_14 : decode cX4_doSteps 14 = .ok (.aload_n 0, 1) := by decide +kernel
theorem dX4_doSteps_15 : decode cX4_doSteps 15 = .ok (.iload_n 1, 1) := by decide +kernel
theorem dX4_doSteps_16 : decode cX4_doSteps 16 = .ok (.iload_n 2, 1) := by decide +kernel
theorem dX4_doSteps_17 : decode cX4_doSteps 17 = .ok (.isub, 1) := by decide +kernel
theorem dX4_doSteps_18 : decode cX4_doSteps 18 = .ok (.invokevirtual 59, 3) := by decide +kernel
theorem dX4_doSteps_21 : decode cX4_doSteps 21 = .ok (.istore 4, 2) := by decide +kernel
theorem dX4_doSteps_23 : decode cX4_doSteps 23 = .ok (.iload 4, 2) := by decide +kernel
theorem dX4_doSteps_25 : decode cX4_doSteps 25 = .ok (.ifCond .ne 6, 3) := by decide +kernel
theorem dX4_doSteps_28 : decode cX4_doSteps 28 = .ok (.goto 14, 3) := by decide +kernel
theorem dX4_doSteps_31 : decode cX4_doSteps 31 = .ok (.iload_n 2, 1) := by decide +kernel
theorem dX4_doSteps_32 : decode cX4_doSteps 32 = .ok (.iload 4, 2) := by decide +kernel
theorem dX4_doSteps_34 : decode cX4_doSteps 34 = .ok (.iadd, 1) := by decide +kernel
theorem dX4_doSteps_35 : decode cX4_doSteps 35 = .ok (.istore_n 2, 1) := by decide +kernel
theorem dX4_doSteps_36 : decode cX4_doSteps 36 = .ok (.iinc 3 1, 3) := by decide +kernel
theorem dX4_doSteps_39 : decode cX4_doSteps 39 = .ok (.goto (-35), 3) := by decide +kernel
theorem dX4_doSteps_42 : decode cX4_doSteps 42 = .ok (.aload_n 0, 1) := by decide +kernel
theorem dX4_doSteps_43 : decode cX4_doSteps 43 = .ok (.getfield 12, 3) := by decide +kernel
theorem dX4_doSteps_46 : decode cX4_doSteps 46 = .ok (.invokevirtual 63, 3) := by decide +kernel
theorem dX4_doSteps_49 : decode cX4_doSteps 49 = .ok (.aload_n 0, 1) := by decide +kernel
theorem dX4_doSteps_50 : decode cX4_doSteps 50 = .ok (.getfield 21, 3) := by decide +kernel
theorem dX4_doSteps_53 : decode cX4_doSteps 53 = .ok (.aload_n 0, 1) := by decide +kernel
theorem dX4_doSteps_54 : decode cX4_doSteps 54 = .ok (.getfield 37, 3) := by decide +kernel
theorem dX4_doSteps_57 : decode cX4_doSteps 57 = .ok (.invokevirtual 66, 3) := by decide +kernel
theorem dX4_doSteps_60 : decode cX4_doSteps 60 = .ok (.aload_n 0, 1) := by decide +kernel
theorem dX4_doSteps_61 : decode cX4_doSteps 61 = .ok (.getfield 37, 3) := by decide +kernel
theorem dX4_doSteps_64 : decode cX4_doSteps 64 = .ok (.invokevirtual 69, 3) := by decide +kernel
theorem dX4_doSteps_67 : decode cX4_doSteps 67 = .ok (.iload_n 2, 1) := by decide +kernel
theorem dX4_doSteps_68 : decode cX4_doSteps 68 = .ok (.ireturn, 1) := by decide +kernel
theorem dX4_doNext_0 : decode cX4_doNext 0 = .ok (.aload_n 0, 1) := by decide +kernel
theorem dX4_doNext_1 : decode cX4_doNext 1 = .ok (.getfield 29, 3) := by decide +kernel
theorem dX4_doNext_4 : decode cX4_doNext 4 = .ok (.invokevirtual 70, 3) := by decide +kernel
theorem dX4_doNext_7 : decode cX4_doNext 7 = .ok (.astore_n 2, 1) := by decide +kernel
theorem dX4_doNext_8 : decode cX4_doNext 8 = .ok (.aload_n 2, 1) := by decide +kernel
theorem dX4_doNext_9 : decode cX4_doNext 9 = .ok (.ifnull 10, 3) := by decide +kernel
theorem dX4_doNext_12 : decode cX4_doNext 12 = .ok (.aload_n 0, 1) := by decide +kernel
theorem dX4_doNext_13 : decode cX4_doNext 13 = .ok (.aload_n 2, 1) := by decide +kernel
theorem dX4_doNext_14 : decode cX4_doNext 14 = .ok (.invokevirtual 76, 3) := by decide +kernel
theorem dX4_doNext_17 : decode cX4_doNext 17 = .ok (.iconst 1, 1) := by decide +kernel
theorem dX4_doNext_18 : decode cX4_doNext 18 = .ok (.ireturn, 1) := by decide +kernel
theorem dX4_doNext_19 : decode cX4_doNext 19 = .ok (.aload_n 0, 1) := by decide +kernel
theorem dX4_doNext_20 : decode cX4_doNext 20 = .ok (.getfield 12, 3) := by decide +kernel
theorem dX4_doNext_23 : decode cX4_doNext 23 = .ok (.invokevirtual 80, 3) := by decide +kernel
theorem dX4_doNext_26 : decode cX4_doNext 26 = .ok (.istore_n 3, 1) := by decide +kernel
theorem dX4_doNext_27 : decode cX4_doNext 27 = .ok (.iload_n 3, 1) := by decide +kernel
theorem dX4_doNext_28 : decode cX4_doNext 28 = .ok (.iconst (-1), 1) := by decide +kernel
theorem dX4_doNext_29 : decode cX4_doNext 29 = .ok (.if_icmp .eq 10, 3) := by decide +kernel
theorem dX4_doNext_32 : decode cX4_doNext 32 = .ok (.aload_n 0, 1) := by decide +kernel
theorem dX4_doNext_33 : decode cX4_doNext 33 = .ok (.iload_n 3, 1) := by decide +kernel
theorem dX4_doNext_34 : decode cX4_doNext 34 = .ok (.iload_n 1, 1) := by decide +kernel
theorem dX4_doNext_35 : decode cX4_doNext 35 = .ok (.invokevirtual 83, 3) := by decide +kernel
theorem dX4_doNext_38 : decode cX4_doNext 38 = .ok (.ireturn, 1) := by decide +kernel
theorem dX4_doNext_39 : decode cX4_doNext 39 = .ok (.aload_n 0, 1) := by decide +kernel
theorem dX4_doNext_40 : decode cX4_doNext 40 = .ok (.getfield 29, 3) := by decide +kernel
theorem dX4_doNext_43 : decode cX4_doNext 43 = .ok (.invokevirtual 87, 3) := by decide +kernel
theorem dX4_doNext_46 : decode cX4_doNext 46 = .ok (.astore 4, 2) := by decide +kernel
theorem dX4_doNext_48 : decode cX4_doNext 48 = .ok (.aload 4, 2) := by decide +kernel
theorem dX4_doNext_50 : decode cX4_doNext 50 = .ok (.ifnull 11, 3) := by decide +kernel
theorem dX4_doNext_53 : decode cX4_doNext 53 = .ok (.aload_n 0, 1) := by decide +kernel
theorem dX4_doNext_54 : decode cX4_doNext 54 = .ok (.aload 4, 2) := by decide +kernel
theorem dX4_doNext_56 : decode cX4_doNext 56 = .ok (.invokevirtual 90, 3) := by decide +kernel
theorem dX4_doNext_59 : decode cX4_doNext 59 = .ok (.iconst 1, 1) := by decide +kernel
theorem dX4_doNext_60 : decode cX4_doNext 60 = .ok (.ireturn, 1) := by decide +kernel
theorem dX4_doNext_61 : decode cX4_doNext 61 = .ok (.iconst 0, 1) := by decide +kernel
theorem dX4_doNext_62 : decode cX4_doNext 62 = .ok (.ireturn, 1) := by decide +kernel
theorem dX4_hear_0 : decode cX4_hear 0 = .ok (.aload_n 1, 1) := by decide +kernel
theorem dX4_hear_1 : decode cX4_hear 1 = .ok (.getfield 93, 3) := by decide +kernel
theorem dX4_hear_4 : decode cX4_hear 4 = .ok (.ifCond .eq 13, 3) := by decide +kernel
theorem dX4_hear_7 : decode cX4_hear 7 = .ok (.aload_n 1, 1) := by decide +kernel
theorem dX4_hear_8 : decode cX4_hear 8 = .ok (.iconst 0, 1) := by decide +kernel
theorem dX4_hear_9 : decode cX4_hear 9 = .ok (.putfield 93, 3) := by decide +kernel
theorem dX4_hear_12 : decode cX4_hear 12 = .ok (.aload_n 1, 1) := by decide +kernel
theorem dX4_hear_13 : decode cX4_hear 13 = .ok (.invokevirtual 99, 3) := by decide +kernel
theorem dX4_hear_16 : decode cX4_hear 16 = .ok (.return_, 1) := by decide +kernel
theorem dX4_hear_17 : decode cX4_hear 17 = .ok (.aload_n 0, 1) := by decide +kernel
theorem dX4_hear_18 : decode cX4_hear 18 = .ok (.getfield 12, 3) := by decide +kernel
theorem dX4_hear_21 : decode cX4_hear 21 = .ok (.aload_n 1, 1) := by decide +kernel
theorem dX4_hear_22 : decode cX4_hear 22 = .ok (.getfield 102, 3) := by decide +kernel
theorem dX4_hear_25 : decode cX4_hear 25 = .ok (.iconst 0, 1) := by decide +kernel
theorem dX4_hear_26 : decode cX4_hear 26 = .ok (.iaload, 1) := by decide +kernel
theorem dX4_hear_27 : decode cX4_hear 27 = .ok (.aload_n 1, 1) := by decide +kernel
theorem dX4_hear_28 : decode cX4_hear 28 = .ok (.getfield 106, 3) := by decide +kernel
theorem dX4_hear_31 : decode cX4_hear 31 = .ok (.iconst 0, 1) := by decide +kernel
theorem dX4_hear_32 : decode cX4_hear 32 = .ok (.iaload, 1) := by decide +kernel
theorem dX4_hear_33 : decode cX4_hear 33 = .ok (.iconst 3, 1) := by decide +kernel
theorem dX4_hear_34 : decode cX4_hear 34 = .ok (.if_icmp .ne 7, 3) := by decide +kernel
theorem dX4_hear_37 : decode cX4_hear 37 = .ok (.iconst 2, 1) := by decide +kernel
theorem dX4_hear_38 : decode cX4_hear 38 = .ok (.goto 4, 3) := by decide +kernel
theorem dX4_hear_41 : decode cX4_hear 41 = .ok (.iconst 1, 1) := by decide +kernel
theorem dX4_hear_42 : decode cX4_hear 42 = .ok (.invokevirtual 55, 3) := by decide +kernel
theorem dX4_hear_45 : decode cX4_hear 45 = .ok (.aload_n 1, 1) := by decide +kernel
theorem dX4_hear_46 : decode cX4_hear 46 = .ok (.invokevirtual 109, 3) := by decide +kernel
theorem dX4_hear_49 : decode cX4_hear 49 = .ok (.return_, 1) := by decide +kernel
theorem dX4_act_0 : decode cX4_act 0 = .ok (.aload_n 0, 1) := by decide +kernel
theorem dX4_act_1 : decode cX4_act 1 = .ok (.getfield 12, 3) := by decide +kernel
theorem dX4_act_4 : decode cX4_act 4 = .ok (.iload_n 1, 1) := by decide +kernel
theorem dX4_act_5 : decode cX4_act 5 = .ok (.invokevirtual 112, 3) := by decide +kernel
theorem dX4_act_8 : decode cX4_act 8 = .ok (.iconst 1, 1) := by decide +kernel
theorem dX4_act_9 : decode cX4_act 9 = .ok (.if_icmp .ne 7, 3) := by decide +kernel
theorem dX4_act_12 : decode cX4_act 12 = .ok (.iconst 1, 1) := by decide +kernel
theorem dX4_act_13 : decode cX4_act 13 = .ok (.goto 4, 3) := by decide +kernel
theorem dX4_act_16 : decode cX4_act 16 = .ok (.iconst 0, 1) := by decide +kernel
theorem dX4_act_17 : decode cX4_act 17 = .ok (.istore_n 3, 1) := by decide +kernel
theorem dX4_act_18 : decode cX4_act 18 = .ok (.aload_n 0, 1) := by decide +kernel
theorem dX4_act_19 : decode cX4_act 19 = .ok (.getfield 29, 3) := by decide +kernel
theorem dX4_act_22 : decode cX4_act 22 = .ok (.iload_n 1, 1) := by decide +kernel
theorem dX4_act_23 : decode cX4_act 23 = .ok (.invokevirtual 115, 3) := by decide +kernel
theorem dX4_act_26 : decode cX4_act 26 = .ok (.ifnull 7, 3) := by decide +kernel
theorem dX4_act_29 : decode cX4_act 29 = .ok (.iconst 1, 1) := by decide +kernel
theorem dX4_act_30 : decode cX4_act 30 = .ok (.goto 4, 3) := by decide +kernel
theorem dX4_act_33 : decode cX4_act 33 = .ok (.iconst 0, 1) := by decide +kernel
theorem dX4_act_34 : decode cX4_act 34 = .ok (.istore 4, 2) := by decide +kernel
theorem dX4_act_36 : decode cX4_act 36 = .ok (.iload_n 3, 1) := by decide +kernel
theorem dX4_act_37 : decode cX4_act 37 = .ok (.ifCond .eq 26, 3) := by decide +kernel
theorem dX4_act_40 : decode cX4_act 40 = .ok (.iload 4, 2) := by decide +kernel
theorem dX4_act_42 : decode cX4_act 42 = .ok (.ifCond .eq 21, 3) := by decide +kernel
theorem dX4_act_45 : decode cX4_act 45 = .ok (.aload_n 0, 1) := by decide +kernel
theorem dX4_act_46 : decode cX4_act 46 = .ok (.getfield 25, 3) := by decide +kernel
theorem dX4_act_49 : decode cX4_act 49 = .ok (.iload_n 1, 1) := by decide +kernel
theorem dX4_act_50 : decode cX4_act 50 = .ok (.invokevirtual 119, 3) := by decide +kernel
theorem dX4_act_53 : decode cX4_act 53 = .ok (.ifCond .eq 10, 3) := by decide +kernel
theorem dX4_act_56 : decode cX4_act 56 = .ok (.aload_n 0, 1) := by decide +kernel
theorem dX4_act_57 : decode cX4_act 57 = .ok (.iload_n 1, 1) := by decide +kernel
theorem dX4_act_58 : decode cX4_act 58 = .ok (.iload_n 2, 1) := by decide +kernel
theorem dX4_act_59 : decode cX4_act 59 = .ok (.invokevirtual 124, 3) := by decide +kernel
theorem dX4_act_62 : decode cX4_act 62 = .ok (.ireturn, 1) := by decide +kernel
theorem dX4_act_63 : decode cX4_act 63 = .ok (.aload_n 0, 1) := by decide +kernel
theorem dX4_act_64 : decode cX4_act 64 = .ok (.getfield 12, 3) := by decide +kernel
theorem dX4_act_67 : decode cX4_act 67 = .ok (.iload_n 1, 1) := by decide +kernel
theorem dX4_act_68 : decode cX4_act 68 = .ok (.invokevirtual 127, 3) := by decide +kernel
theorem dX4_act_71 : decode cX4_act 71 = .ok (.iload 4, 2) := by decide +kernel
theorem dX4_act_73 : decode cX4_act 73 = .ok (.ifCond .ne 14, 3) := by decide +kernel
theorem dX4_act_76 : decode cX4_act 76 = .ok (.aload_n 0, 1) := by decide +kernel
theorem dX4_act_77 : decode cX4_act 77 = .ok (.getfield 37, 3) := by decide +kernel
theorem dX4_act_80 : decode cX4_act 80 = .ok (.iload_n 1, 1) := by decide +kernel
theorem dX4_act_81 : decode cX4_act 81 = .ok (.invokevirtual 131, 3) := by decide +kernel
theorem dX4_act_84 : decode cX4_act 84 = .ok (.goto 24, 3) := by decide +kernel
theorem dX4_act_87 : decode cX4_act 87 = .ok (.iload_n 3, 1) := by decide +kernel
theorem dX4_act_88 : decode cX4_act 88 = .ok (.ifCond .eq 11, 3) := by decide +kernel
theorem dX4_act_91 : decode cX4_act 91 = .ok (.aload_n 0, 1) := by decide +kernel
theorem dX4_act_92 : decode cX4_act 92 = .ok (.iload_n 1, 1) := by decide +kernel
theorem dX4_act_93 : decode cX4_act 93 = .ok (.invokevirtual 132, 3) := by decide +kernel
theorem dX4_act_96 : decode cX4_act 96 = .ok (.goto 12, 3) := by decide +kernel
theorem dX4_act_99 : decode cX4_act 99 = .ok (.aload_n 0, 1) := by decide +kernel
theorem dX4_act_100 : decode cX4_act 100 = .ok (.getfield 12, 3) := by decide +kernel
theorem dX4_act_103 : decode cX4_act 103 = .ok (.iload_n 1, 1) := by decide +kernel
theorem dX4_act_104 : decode cX4_act 104 = .ok (.iconst 1, 1) := by decide +kernel
theorem dX4_act_105 : decode cX4_act 105 = .ok (.invokevirtual 55, 3) := by decide +kernel
theorem dX4_act_108 : decode cX4_act 108 = .ok (.iconst 1, 1) := by decide +kernel
theorem dX4_act_109 : decode cX4_act 109 = .ok (.ireturn, 1) := by decide +kernel
theorem dX4_lookAtFile_0 : decode cX4_lookAtFile 0 = .ok (.aload_n 0, 1) := by decide +kernel
theorem dX4_lookAtFile_1 : decode cX4_lookAtFile 1 = .ok (.getfield 25, 3) := by decide +kernel
theorem dX4_lookAtFile_4 : decode cX4_lookAtFile 4 = .ok (.iload_n 1, 1) := by decide +kernel
theorem dX4_lookAtFile_5 : decode cX4_lookAtFile 5 = .ok (.invokevirtual 135, 3) := by decide +kernel
theorem dX4_lookAtFile_8 : decode cX4_lookAtFile 8 = .ok (.ifCond .eq 13, 3) := by decide +kernel
theorem dX4_lookAtFile_11 : decode cX4_lookAtFile 11 = .ok (.aload_n 0, 1) := by decide +kernel
theorem dX4_lookAtFile_12 : decode cX4_lookAtFile 12 = .ok (.getfield 12, 3) := by decide +kernel
theorem dX4_lookAtFile_15 : decode cX4_lookAtFile 15 = .ok (.iload_n 1, 1) := by decide +kernel
theorem dX4_lookAtFile_16 : decode cX4_lookAtFile 16 = .ok (.invokevirtual 138, 3) := by decide +kernel
theorem dX4_lookAtFile_19 : decode cX4_lookAtFile 19 = .ok (.iconst 1, 1) := by decide +kernel
theorem dX4_lookAtFile_20 : decode cX4_lookAtFile 20 = .ok (.ireturn, 1) := by decide +kernel
theorem dX4_lookAtFile_21 : decode cX4_lookAtFile 21 = .ok (.iconst 1, 1) := by decide +kernel
theorem dX4_lookAtFile_22 : decode cX4_lookAtFile 22 = .ok (.istore_n 3, 1) := by decide +kernel
theorem dX4_lookAtFile_23 : decode cX4_lookAtFile 23 = .ok (.aload_n 0, 1) := by decide +kernel
theorem dX4_lookAtFile_24 : decode cX4_lookAtFile 24 = .ok (.getfield 37, 3) := by decide +kernel
theorem dX4_lookAtFile_27 : decode cX4_lookAtFile 27 = .ok (.iload_n 1, 1) := by decide +kernel
theorem dX4_lookAtFile_28 : decode cX4_lookAtFile 28 = .ok (.invokevirtual 141, 3) := by decide +kernel
theorem dX4_lookAtFile_31 : decode cX4_lookAtFile 31 = .ok (.aload_n 0, 1) := by decide +kernel
theorem dX4_lookAtFile_32 : decode cX4_lookAtFile 32 = .ok (.getfield 25, 3) := by decide +kernel
theorem dX4_lookAtFile_35 : decode cX4_lookAtFile 35 = .ok (.iload_n 1, 1) := by decide +kernel
theorem dX4_lookAtFile_36 : decode cX4_lookAtFile 36 = .ok (.invokevirtual 144, 3) := by decide +kernel
theorem dX4_lookAtFile_39 : decode cX4_lookAtFile 39 = .ok (.if_icmp .eq 62, 3) := by decide +kernel
theorem dX4_lookAtFile_42 : decode cX4_lookAtFile 42 = .ok (.aload_n 0, 1) := by decide +kernel
theorem dX4_lookAtFile_43 : decode cX4_lookAtFile 43 = .ok (.getfield 25, 3) := by decide +kernel
theorem dX4_lookAtFile_46 : decode cX4_lookAtFile 46 = .ok (.iload_n 1, 1) := by decide +kernel
theorem dX4_lookAtFile_47 : decode cX4_lookAtFile 47 = .ok (.invokevirtual 145, 3) := by decide +kernel
theorem dX4_lookAtFile_50 : decode cX4_lookAtFile 50 = .ok (.istore 4, 2) := by decide +kernel
theorem dX4_lookAtFile_52 : decode cX4_lookAtFile 52 = .ok (.iload_n 3, 1) := by decide +kernel
theorem dX4_lookAtFile_53 : decode cX4_lookAtFile 53 = .ok (.iload 4, 2) := by decide +kernel
theorem dX4_lookAtFile_55 : decode cX4_lookAtFile 55 = .ok (.iadd, 1) := by decide +kernel
theorem dX4_lookAtFile_56 : decode cX4_lookAtFile 56 = .ok (.istore_n 3, 1) := by decide +kernel
theorem dX4_lookAtFile_57 : decode cX4_lookAtFile 57 = .ok (.iload_n 3, 1) := by decide +kernel
theorem dX4_lookAtFile_58 : decode cX4_lookAtFile 58 = .ok (.iload_n 2, 1) := by decide +kernel
theorem dX4_lookAtFile_59 : decode cX4_lookAtFile 59 = .ok (.if_icmp .le 5, 3) := by decide +kernel
theorem dX4_lookAtFile_62 : decode cX4_lookAtFile 62 = .ok (.iconst 0, 1) := by decide +kernel
theorem dX4_lookAtFile_63 : decode cX4_lookAtFile 63 = .ok (.ireturn, 1) := by decide +kernel
theorem dX4_lookAtFile_64 : decode cX4_lookAtFile 64 = .ok (.aload_n 0, 1) := by decide +kernel
theorem dX4_lookAtFile_65 : decode cX4_lookAtFile 65 = .ok (.getfield 33, 3) := by decide +kernel
theorem dX4_lookAtFile_68 : decode cX4_lookAtFile 68 = .ok (.aload_n 0, 1) := by decide +kernel
theorem dX4_lookAtFile_69 : decode cX4_lookAtFile 69 = .ok (.getfield 25, 3) := by decide +kernel
theorem dX4_lookAtFile_72 : decode cX4_lookAtFile 72 = .ok (.iload_n 1, 1) := by decide +kernel
theorem dX4_lookAtFile_73 : decode cX4_lookAtFile 73 = .ok (.invokevirtual 148, 3) := by decide +kernel
theorem dX4_lookAtFile_76 : decode cX4_lookAtFile 76 = .ok (.iload 4, 2) := by decide +kernel
theorem dX4_lookAtFile_78 : decode cX4_lookAtFile 78 = .ok (.aload_n 0, 1) := by decide +kernel
theorem dX4_lookAtFile_79 : decode cX4_lookAtFile 79 = .ok (.getfield 37, 3) := by decide +kernel
theorem dX4_lookAtFile_82 : decode cX4_lookAtFile 82 = .ok (.iload_n 1, 1) := by decide +kernel
theorem dX4_lookAtFile_83 : decode cX4_lookAtFile 83 = .ok (.invokevirtual 152, 3) := by decide +kernel
theorem dX4_lookAtFile_86 : decode cX4_lookAtFile 86 = .ok (.invokevirtual 155, 3) := by decide +kernel
theorem dX4_lookAtFile_89 : decode cX4_lookAtFile 89 = .ok (.istore 5, 2) := by decide +kernel
theorem dX4_lookAtFile_91 : decode cX4_lookAtFile 91 = .ok (.aload_n 0, 1) := by decide +kernel
theorem dX4_lookAtFile_92 : decode cX4_lookAtFile 92 = .ok (.getfield 37, 3) := by decide +kernel
theorem dX4_lookAtFile_95 : decode cX4_lookAtFile 95 = .ok (.iload_n 1, 1) := by decide +kernel
theorem dX4_lookAtFile_96 : decode cX4_lookAtFile 96 = .ok (.iload 5, 2) := by decide +kernel
theorem dX4_lookAtFile_98 : decode cX4_lookAtFile 98 = .ok (.invokevirtual 161, 3) := by decide +kernel
theorem dX4_lookAtFile_101 : decode cX4_lookAtFile 101 = .ok (.aload_n 0, 1) := by decide +kernel
theorem dX4_lookAtFile_102 : decode cX4_lookAtFile 102 = .ok (.getfield 37, 3) := by decide +kernel
theorem dX4_lookAtFile_105 : decode cX4_lookAtFile 105 = .ok (.iload_n 1, 1) := by decide +kernel
theorem dX4_lookAtFile_106 : decode cX4_lookAtFile 106 = .ok (.invokevirtual 164, 3) := by decide +kernel
theorem dX4_lookAtFile_109 : decode cX4_lookAtFile 109 = .ok (.aload_n 0, 1) := by decide +kernel
theorem dX4_lookAtFile_110 : decode cX4_lookAtFile 110 = .ok (.getfield 12, 3) := by decide +kernel
theorem dX4_lookAtFile_113 : decode cX4_lookAtFile 113 = .ok (.iload_n 1, 1) := by decide +kernel
theorem dX4_lookAtFile_114 : decode cX4_lookAtFile 114 = .ok (.invokevirtual 127, 3) := by decide +kernel
theorem dX4_lookAtFile_117 : decode cX4_lookAtFile 117 = .ok (.iload_n 3, 1) := by decide +kernel
theorem dX4_lookAtFile_118 : decode cX4_lookAtFile 118 = .ok (.ireturn, 1) := by decide +kernel
theorem dX4_lookAtFolder_0 : decode cX4_lookAtFolder 0 = .ok (.aload_n 0, 1) := by decide +kernel
theorem dX4_lookAtFolder_1 : decode cX4_lookAtFolder 1 = .ok (.getfield 37, 3) := by decide +kernel
theorem dX4_lookAtFolder_4 : decode cX4_lookAtFolder 4 = .ok (.iload_n 1, 1) := by decide +kernel
theorem dX4_lookAtFolder_5 : decode cX4_lookAtFolder 5 = .ok (.invokevirtual 164, 3) := by decide +kernel
theorem dX4_lookAtFolder_8 : decode cX4_lookAtFolder 8 = .ok (.iconst 0, 1) := by decide +kernel
theorem dX4_lookAtFolder_9 : decode cX4_lookAtFolder 9 = .ok (.istore_n 2, 1) := by decide +kernel
theorem dX4_lookAtFolder_10 : decode cX4_lookAtFolder 10 = .ok (.iload_n 2, 1) := by decide +kernel
theorem dX4_lookAtFolder_11 : decode cX4_lookAtFolder 11 = .ok (.bipush 60, 2) := by decide +kernel
theorem dX4_lookAtFolder_13 : decode cX4_lookAtFolder 13 = .ok (.if_icmp .ge 30, 3) := by decide +kernel
theorem dX4_lookAtFolder_16 : decode cX4_lookAtFolder 16 = .ok (.aload_n 0, 1) := by decide +kernel
theorem dX4_lookAtFolder_17 : decode cX4_lookAtFolder 17 = .ok (.getfield 25, 3) := by decide +kernel
theorem dX4_lookAtFolder_20 : decode cX4_lookAtFolder 20 = .ok (.iload_n 2, 1) := by decide +kernel
theorem dX4_lookAtFolder_21 : decode cX4_lookAtFolder 21 = .ok (.invokevirtual 167, 3) := by decide +kernel
theorem dX4_lookAtFolder_24 : decode cX4_lookAtFolder 24 = .ok (.iload_n 1, 1) := by decide +kernel
theorem dX4_lookAtFolder_25 : decode cX4_lookAtFolder 25 = .ok (.if_icmp .ne 12, 3) := by decide +kernel
theorem dX4_lookAtFolder_28 : decode cX4_lookAtFolder 28 = .ok (.aload_n 0, 1) := by decide +kernel
theorem dX4_lookAtFolder_29 : decode cX4_lookAtFolder 29 = .ok (.getfield 12, 3) := by decide +kernel
theorem dX4_lookAtFolder_32 : decode cX4_lookAtFolder 32 = .ok (.iload_n 2, 1) := by decide +kernel
theorem dX4_lookAtFolder_33 : decode cX4_lookAtFolder 33 = .ok (.iconst 1, 1) := by decide +kernel
theorem dX4_lookAtFolder_34 : decode cX4_lookAtFolder 34 = .ok (.invokevirtual 55, 3) := by decide +kernel
theorem dX4_lookAtFolder_37 : decode cX4_lookAtFolder 37 = .ok (.iinc 2 1, 3) := by decide +kernel
theorem dX4_lookAtFolder_40 : decode cX4_lookAtFolder 40 = .ok (.goto (-30), 3) := by decide +kernel
theorem dX4_lookAtFolder_43 : decode cX4_lookAtFolder 43 = .ok (.return_, 1) := by decide +kernel
theorem dX4_crawlOn_0 : decode cX4_crawlOn 0 = .ok (.aload_n 1, 1) := by decide +kernel
theorem dX4_crawlOn_1 : decode cX4_crawlOn 1 = .ok (.getfield 170, 3) := by decide +kernel
theorem dX4_crawlOn_4 : decode cX4_crawlOn 4 = .ok (.astore_n 2, 1) := by decide +kernel
theorem dX4_crawlOn_5 : decode cX4_crawlOn 5 = .ok (.aload_n 2, 1) := by decide +kernel
theorem dX4_crawlOn_6 : decode cX4_crawlOn 6 = .ok (.invokevirtual 174, 3) := by decide +kernel
theorem dX4_crawlOn_9 : decode cX4_crawlOn 9 = .ok (.istore_n 3, 1) := by decide +kernel
theorem dX4_crawlOn_10 : decode cX4_crawlOn 10 = .ok (.iload_n 3, 1) := by decide +kernel
theorem dX4_crawlOn_11 : decode cX4_crawlOn 11 = .ok (.aload_n 1, 1) := by decide +kernel
theorem dX4_crawlOn_12 : decode cX4_crawlOn 12 = .ok (.getfield 178, 3) := by decide +kernel
theorem dX4_crawlOn_15 : decode cX4_crawlOn 15 = .ok (.if_icmp .eq 18, 3) := by decide +kernel
theorem dX4_crawlOn_18 : decode cX4_crawlOn 18 = .ok (.aload_n 0, 1) := by decide +kernel
theorem dX4_crawlOn_19 : decode cX4_crawlOn 19 = .ok (.getfield 25, 3) := by decide +kernel
theorem dX4_crawlOn_22 : decode cX4_crawlOn 22 = .ok (.iload_n 3, 1) := by decide +kernel
theorem dX4_crawlOn_23 : decode cX4_crawlOn 23 = .ok (.aload_n 1, 1) := by decide +kernel
theorem dX4_crawlOn_24 : decode cX4_crawlOn 24 = .ok (.getfield 178, 3) := by decide +kernel
theorem dX4_crawlOn_27 : decode cX4_crawlOn 27 = .ok (.invokevirtual 182, 3) := by decide +kernel
theorem dX4_crawlOn_30 : decode cX4_crawlOn 30 = .ok (.ifCond .eq 9, 3) := by decide +kernel
theorem dX4_crawlOn_33 : decode cX4_crawlOn 33 = .ok (.aload_n 0, 1) := by decide +kernel
theorem dX4_crawlOn_34 : decode cX4_crawlOn 34 = .ok (.iload_n 3, 1) := by decide +kernel
theorem dX4_crawlOn_35 : decode cX4_crawlOn 35 = .ok (.aload_n 2, 1) := by decide +kernel
theorem dX4_crawlOn_36 : decode cX4_crawlOn 36 = .ok (.invokevirtual 186, 3) := by decide +kernel
theorem dX4_crawlOn_39 : decode cX4_crawlOn 39 = .ok (.aload_n 2, 1) := by decide +kernel
theorem dX4_crawlOn_40 : decode cX4_crawlOn 40 = .ok (.getfield 190, 3) := by decide +kernel
theorem dX4_crawlOn_43 : decode cX4_crawlOn 43 = .ok (.ifCond .ne 13, 3) := by decide +kernel
theorem dX4_crawlOn_46 : decode cX4_crawlOn 46 = .ok (.aload_n 2, 1) := by decide +kernel
theorem dX4_crawlOn_47 : decode cX4_crawlOn 47 = .ok (.iconst 0, 1) := by decide +kernel
theorem dX4_crawlOn_48 : decode cX4_crawlOn 48 = .ok (.putfield 193, 3) := by decide +kernel
theorem dX4_crawlOn_51 : decode cX4_crawlOn 51 = .ok (.aload_n 0, 1) := by decide +kernel
theorem dX4_crawlOn_52 : decode cX4_crawlOn 52 = .ok (.aload_n 2, 1) := by decide +kernel
theorem dX4_crawlOn_53 : decode cX4_crawlOn 53 = .ok (.invokevirtual 196, 3) := by decide +kernel
theorem dX4_crawlOn_56 : decode cX4_crawlOn 56 = .ok (.return_, 1) := by decide +kernel
theorem dX4_meetAllIn_0 : decode cX4_meetAllIn 0 = .ok (.iconst 0, 1) := by decide +kernel
theorem dX4_meetAllIn_1 : decode cX4_meetAllIn 1 = .ok (.istore_n 3, 1) := by decide +kernel
theorem dX4_meetAllIn_2 : decode cX4_meetAllIn 2 = .ok (.iload_n 3, 1) := by decide +kernel
theorem dX4_meetAllIn_3 : decode cX4_meetAllIn 3 = .ok (.bipush 60, 2) := by decide +kernel
theorem dX4_meetAllIn_5 : decode cX4_meetAllIn 5 = .ok (.if_icmp .ge 67, 3) := by decide +kernel
theorem dX4_meetAllIn_8 : decode cX4_meetAllIn 8 = .ok (.iload_n 1, 1) := by decide +kernel
theorem dX4_meetAllIn_9 : decode cX4_meetAllIn 9 = .ok (.iconst (-1), 1) := by decide +kernel
theorem dX4_meetAllIn_10 : decode cX4_meetAllIn 10 = .ok (.if_icmp .eq 56, 3) := by decide +kernel
theorem dX4_meetAllIn_13 : decode cX4_meetAllIn 13 = .ok (.aload_n 0, 1) := by decide +kernel
theorem dX4_meetAllIn_14 : decode cX4_meetAllIn 14 = .ok (.getfield 25, 3) := by decide +kernel
theorem dX4_meetAllIn_17 : decode cX4_meetAllIn 17 = .ok (.iload_n 3, 1) := by decide +kernel
theorem dX4_meetAllIn_18 : decode cX4_meetAllIn 18 = .ok (.invokevirtual 167, 3) := by decide +kernel
theorem dX4_meetAllIn_21 : decode cX4_meetAllIn 21 = .ok (.iload_n 1, 1) := by decide +kernel
theorem dX4_meetAllIn_22 : decode cX4_meetAllIn 22 = .ok (.if_icmp .ne 44, 3) := by decide +kernel
theorem dX4_meetAllIn_25 : decode cX4_meetAllIn 25 = .ok (.aload_n 2, 1) := by decide +kernel
theorem dX4_meetAllIn_26 : decode cX4_meetAllIn 26 = .ok (.iload_n 3, 1) := by decide +kernel
theorem dX4_meetAllIn_27 : decode cX4_meetAllIn 27 = .ok (.invokevirtual 200, 3) := by decide +kernel
theorem dX4_meetAllIn_30 : decode cX4_meetAllIn 30 = .ok (.aload_n 0, 1) := by decide +kernel
theorem dX4_meetAllIn_31 : decode cX4_meetAllIn 31 = .ok (.getfield 37, 3) := by decide +kernel
theorem dX4_meetAllIn_34 : decode cX4_meetAllIn 34 = .ok (.iload_n 3, 1) := by decide +kernel
theorem dX4_meetAllIn_35 : decode cX4_meetAllIn 35 = .ok (.invokevirtual 203, 3) := by decide +kernel
theorem dX4_meetAllIn_38 : decode cX4_meetAllIn 38 = .ok (.ifCond .eq 12, 3) := by decide +kernel
theorem dX4_meetAllIn_41 : decode cX4_meetAllIn 41 = .ok (.aload_n 0, 1) := by decide +kernel
theorem dX4_meetAllIn_42 : decode cX4_meetAllIn 42 = .ok (.getfield 12, 3) := by decide +kernel
theorem dX4_meetAllIn_45 : decode cX4_meetAllIn 45 = .ok (.iload_n 3, 1) := by decide +kernel
theorem dX4_meetAllIn_46 : decode cX4_meetAllIn 46 = .ok (.iconst 1, 1) := by decide +kernel
theorem dX4_meetAllIn_47 : decode cX4_meetAllIn 47 = .ok (.invokevirtual 55, 3) := by decide +kernel
theorem dX4_meetAllIn_50 : decode cX4_meetAllIn 50 = .ok (.aload_n 0, 1) := by decide +kernel
theorem dX4_meetAllIn_51 : decode cX4_meetAllIn 51 = .ok (.getfield 25, 3) := by decide +kernel
theorem dX4_meetAllIn_54 : decode cX4_meetAllIn 54 = .ok (.iload_n 3, 1) := by decide +kernel
theorem dX4_meetAllIn_55 : decode cX4_meetAllIn 55 = .ok (.invokevirtual 206, 3) := by decide +kernel
theorem dX4_meetAllIn_58 : decode cX4_meetAllIn 58 = .ok (.ifCond .eq 8, 3) := by decide +kernel
theorem dX4_meetAllIn_61 : decode cX4_meetAllIn 61 = .ok (.aload_n 2, 1) := by decide +kernel
theorem dX4_meetAllIn_62 : decode cX4_meetAllIn 62 = .ok (.iload_n 3, 1) := by decide +kernel
theorem dX4_meetAllIn_63 : decode cX4_meetAllIn 63 = .ok (.invokevirtual 209, 3) := by decide +kernel
theorem dX4_meetAllIn_66 : decode cX4_meetAllIn 66 = .ok (.iinc 3 1, 3) := by decide +kernel
theorem dX4_meetAllIn_69 : decode cX4_meetAllIn 69 = .ok (.goto (-67), 3) := by decide +kernel
theorem dX4_meetAllIn_72 : decode cX4_meetAllIn 72 = .ok (.return_, 1) := by decide +kernel
theorem dX4_lookAtUnmet_0 : decode cX4_lookAtUnmet 0 = .ok (.iconst 0, 1) := by decide +kernel
theorem dX4_lookAtUnmet_1 : decode cX4_lookAtUnmet 1 = .ok (.istore_n 2, 1) := by decide +kernel
theorem dX4_lookAtUnmet_2 : decode cX4_lookAtUnmet 2 = .ok (.iload_n 2, 1) := by decide +kernel
theorem dX4_lookAtUnmet_3 : decode cX4_lookAtUnmet 3 = .ok (.bipush 60, 2) := by decide +kernel
theorem dX4_lookAtUnmet_5 : decode cX4_lookAtUnmet 5 = .ok (.if_icmp .ge 37, 3) := by decide +kernel
theorem dX4_lookAtUnmet_8 : decode cX4_lookAtUnmet 8 = .ok (.aload_n 0, 1) := by decide +kernel
theorem dX4_lookAtUnmet_9 : decode cX4_lookAtUnmet 9 = .ok (.getfield 37, 3) := by decide +kernel
theorem dX4_lookAtUnmet_12 : decode cX4_lookAtUnmet 12 = .ok (.iload_n 2, 1) := by decide +kernel
theorem dX4_lookAtUnmet_13 : decode cX4_lookAtUnmet 13 = .ok (.invokevirtual 49, 3) := by decide +kernel
theorem dX4_lookAtUnmet_16 : decode cX4_lookAtUnmet 16 = .ok (.ifCond .eq 20, 3) := by decide +kernel
theorem dX4_lookAtUnmet_19 : decode cX4_lookAtUnmet 19 = .ok (.aload_n 1, 1) := by decide +kernel
theorem dX4_lookAtUnmet_20 : decode cX4_lookAtUnmet 20 = .ok (.iload_n 2, 1) := by decide +kernel
theorem dX4_lookAtUnmet_21 : decode cX4_lookAtUnmet 21 = .ok (.invokevirtual 212, 3) := by decide +kernel
theorem dX4_lookAtUnmet_24 : decode cX4_lookAtUnmet 24 = .ok (.ifCond .ne 12, 3) := by decide +kernel
theorem dX4_lookAtUnmet_27 : decode cX4_lookAtUnmet 27 = .ok (.aload_n 0, 1) := by decide +kernel
theorem dX4_lookAtUnmet_28 : decode cX4_lookAtUnmet 28 = .ok (.getfield 12, 3) := by decide +kernel
theorem dX4_lookAtUnmet_31 : decode cX4_lookAtUnmet 31 = .ok (.iload_n 2, 1) := by decide +kernel
theorem dX4_lookAtUnmet_32 : decode cX4_lookAtUnmet 32 = .ok (.iconst 1, 1) := by decide +kernel
theorem dX4_lookAtUnmet_33 : decode cX4_lookAtUnmet 33 = .ok (.invokevirtual 55, 3) := by decide +kernel
theorem dX4_lookAtUnmet_36 : decode cX4_lookAtUnmet 36 = .ok (.iinc 2 1, 3) := by decide +kernel
theorem dX4_lookAtUnmet_39 : decode cX4_lookAtUnmet 39 = .ok (.goto (-37), 3) := by decide +kernel
theorem dX4_lookAtUnmet_42 : decode cX4_lookAtUnmet 42 = .ok (.return_, 1) := by decide +kernel
theorem dX5_count_0 : decode cX5_count 0 = .ok (.iconst 0, 1) := by decide +kernel
theorem dX5_count_1 : decode cX5_count 1 = .ok (.istore 5, 2) := by decide +kernel
theorem dX5_count_3 : decode cX5_count 3 = .ok (.iconst 0, 1) := by decide +kernel
theorem dX5_count_4 : decode cX5_count 4 = .ok (.istore 6, 2) := by decide +kernel
theorem dX5_count_6 : decode cX5_count 6 = .ok (.iload 6, 2) := by decide +kernel
theorem dX5_count_8 : decode cX5_count 8 = .ok (.bipush 60, 2) := by decide +kernel
theorem dX5_count_10 : decode cX5_count 10 = .ok (.if_icmp .ge 56, 3) := by decide +kernel
theorem dX5_count_13 : decode cX5_count 13 = .ok (.iload 4, 2) := by decide +kernel
theorem dX5_count_15 : decode cX5_count 15 = .ok (.iconst (-1), 1) := by decide +kernel
theorem dX5_count_16 : decode cX5_count 16 = .ok (.if_icmp .eq 17, 3) := by decide +kernel
theorem dX5_count_19 : decode cX5_count 19 = .ok (.aload_n 0, 1) := by decide +kernel
theorem dX5_count_20 : decode cX5_count 20 = .ok (.getfield 30, 3) := by decide +kernel
theorem dX5_count_23 : decode cX5_count 23 = .ok (.iload 6, 2) := by decide +kernel
theorem dX5_count_25 : decode cX5_count 25 = .ok (.iload 4, 2) := by decide +kernel
theorem dX5_count_27 : decode cX5_count 27 = .ok (.invokevirtual 34, 3) := by decide +kernel
theorem dX5_count_30 : decode cX5_count 30 = .ok (.ifCond .eq 7, 3) := by decide +kernel
theorem dX5_count_33 : decode cX5_count 33 = .ok (.iconst 1, 1) := by decide +kernel
theorem dX5_count_34 : decode cX5_count 34 = .ok (.goto 4, 3) := by decide +kernel
theorem dX5_count_37 : decode cX5_count 37 = .ok (.iconst 0, 1) := by decide +kernel
theorem dX5_count_38 : decode cX5_count 38 = .ok (.istore 7, 2) := by decide +kernel
theorem dX5_count_40 : decode cX5_count 40 = .ok (.iload 7, 2) := by decide +kernel
theorem dX5_count_42 : decode cX5_count 42 = .ok (.ifCond .eq 18, 3) := by decide +kernel
theorem dX5_count_45 : decode cX5_count 45 = .ok (.aload_n 0, 1) := by decide +kernel
theorem dX5_count_46 : decode cX5_count 46 = .ok (.iload_n 1, 1) := by decide +kernel
theorem dX5_count_47 : decode cX5_count 47 = .ok (.iload 6, 2) := by decide +kernel
theorem dX5_count_49 : decode cX5_count 49 = .ok (.iload_n 2, 1) := by decide +kernel
theorem dX5_count_50 : decode cX5_count 50 = .ok (.iload_n 3, 1) := by decide +kernel
theorem dX5_count_51 : decode cX5_count 51 = .ok (.invokevirtual 40, 3) := by decide +kernel
theorem dX5_count_54 : decode cX5_count 54 = .ok (.ifCond .le 6, 3) := by decide +kernel
theorem dX5_count_57 : decode cX5_count 57 = .ok (.iinc 5 1, 3) := by decide +kernel
theorem dX5_count_60 : decode cX5_count 60 = .ok (.iinc 6 1, 3) := by decide +kernel
theorem dX5_count_63 : decode cX5_count 63 = .ok (.goto (-57), 3) := by decide +kernel
theorem dX5_count_66 : decode cX5_count 66 = .ok (.iload 5, 2) := by decide +kernel
theorem dX5_count_68 : decode cX5_count 68 = .ok (.ireturn, 1) := by decide +kernel
theorem dX5_countAnew_0 : decode cX5_countAnew 0 = .ok (.iconst 0, 1) := by decide +kernel
theorem dX5_countAnew_1 : decode cX5_countAnew 1 = .ok (.istore 5, 2) := by decide +kernel
theorem dX5_countAnew_3 : decode cX5_countAnew 3 = .ok (.iconst 0, 1) := by decide +kernel
theorem dX5_countAnew_4 : decode cX5_countAnew 4 = .ok (.istore 6, 2) := by decide +kernel
theorem dX5_countAnew_6 : decode cX5_countAnew 6 = .ok (.iload 6, 2) := by decide +kernel
theorem dX5_countAnew_8 : decode cX5_countAnew 8 = .ok (.bipush 60, 2) := by decide +kernel
theorem dX5_countAnew_10 : decode cX5_countAnew 10 = .ok (.if_icmp .ge 93, 3) := by decide +kernel
theorem dX5_countAnew_13 : decode cX5_countAnew 13 = .ok (.aload_n 0, 1) := by decide +kernel
theorem dX5_countAnew_14 : decode cX5_countAnew 14 = .ok (.getfield 18, 3) := by decide +kernel
theorem dX5_countAnew_17 : decode cX5_countAnew 17 = .ok (.iload 6, 2) := by decide +kernel
theorem dX5_countAnew_19 : decode cX5_countAnew 19 = .ok (.invokevirtual 44, 3) := by decide +kernel
theorem dX5_countAnew_22 : decode cX5_countAnew 22 = .ok (.ifCond .eq 75, 3) := by decide +kernel
theorem dX5_countAnew_25 : decode cX5_countAnew 25 = .ok (.aload_n 0, 1) := by decide +kernel
theorem dX5_countAnew_26 : decode cX5_countAnew 26 = .ok (.getfield 18, 3) := by decide +kernel
theorem dX5_countAnew_29 : decode cX5_countAnew 29 = .ok (.iload_n 1, 1) := by decide +kernel
theorem dX5_countAnew_30 : decode cX5_countAnew 30 = .ok (.iload 6, 2) := by decide +kernel
theorem dX5_countAnew_32 : decode cX5_countAnew 32 = .ok (.invokevirtual 50, 3) := by decide +kernel
theorem dX5_countAnew_35 : decode cX5_countAnew 35 = .ok (.ifCond .eq 62, 3) := by decide +kernel
theorem dX5_countAnew_38 : decode cX5_countAnew 38 = .ok (.aload_n 0, 1) := by decide +kernel
theorem dX5_countAnew_39 : decode cX5_countAnew 39 = .ok (.iload 6, 2) := by decide +kernel
theorem dX5_countAnew_41 : decode cX5_countAnew 41 = .ok (.iload 4, 2) := by decide +kernel
theorem dX5_countAnew_43 : decode cX5_countAnew 43 = .ok (.invokevirtual 53, 3) := by decide +kernel
theorem dX5_countAnew_46 : decode cX5_countAnew 46 = .ok (.ifCond .eq 51, 3) := by decide +kernel
theorem dX5_countAnew_49 : decode cX5_countAnew 49 = .ok (.aload_n 0, 1) := by decide +kernel
theorem dX5_countAnew_50 : decode cX5_countAnew 50 = .ok (.getfield 26, 3) := by decide +kernel
theorem dX5_countAnew_53 : decode cX5_countAnew 53 = .ok (.aload_n 0, 1) := by decide +kernel
theorem dX5_countAnew_54 : decode cX5_countAnew 54 = .ok (.getfield 18, 3) := by decide +kernel
theorem dX5_countAnew_57 : decode cX5_countAnew 57 = .ok (.iload 6, 2) := by decide +kernel
theorem dX5_countAnew_59 : decode cX5_countAnew 59 = .ok (.invokevirtual 56, 3) := by decide +kernel
theorem dX5_countAnew_62 : decode cX5_countAnew 62 = .ok (.aload_n 0, 1) := by decide +kernel
theorem dX5_countAnew_63 : decode cX5_countAnew 63 = .ok (.getfield 18, 3) := by decide +kernel
theorem dX5_countAnew_66 : decode cX5_countAnew 66 = .ok (.iload 6, 2) := by decide +kernel
theorem dX5_countAnew_68 : decode cX5_countAnew 68 = .ok (.invokevirtual 60, 3) := by decide +kernel
theorem dX5_countAnew_71 : decode cX5_countAnew 71 = .ok (.aload_n 0, 1) := by decide +kernel
theorem dX5_countAnew_72 : decode cX5_countAnew 72 = .ok (.getfield 15, 3) := by decide +kernel
theorem dX5_countAnew_75 : decode cX5_countAnew 75 = .ok (.invokevirtual 64, 3) := by decide +kernel
theorem dX5_countAnew_78 : decode cX5_countAnew 78 = .ok (.istore 7, 2) := by decide +kernel
theorem dX5_countAnew_80 : decode cX5_countAnew 80 = .ok (.aload_n 0, 1) := by decide +kernel
theorem dX5_countAnew_81 : decode cX5_countAnew 81 = .ok (.getfield 15, 3) := by decide +kernel
theorem dX5_countAnew_84 : decode cX5_countAnew 84 = .ok (.iload 7, 2) := by decide +kernel
theorem dX5_countAnew_86 : decode cX5_countAnew 86 = .ok (.iload_n 2, 1) := by decide +kernel
theorem dX5_countAnew_87 : decode cX5_countAnew 87 = .ok (.iload_n 3, 1) := by decide +kernel
theorem dX5_countAnew_88 : decode cX5_countAnew 88 = .ok (.invokestatic 70, 3) := by decide +kernel
theorem dX5_countAnew_91 : decode cX5_countAnew 91 = .ok (.ifCond .le 6, 3) := by decide +kernel
theorem dX5_countAnew_94 : decode cX5_countAnew 94 = .ok (.iinc 5 1, 3) := by decide +kernel
theorem dX5_countAnew_97 : decode cX5_countAnew 97 = .ok (.iinc 6 1, 3) := by decide +kernel
theorem dX5_countAnew_100 : decode cX5_countAnew 100 = .ok (.goto (-94), 3) := by decide +kernel
theorem dX5_countAnew_103 : decode cX5_countAnew 103 = .ok (.iload 5, 2) := by decide +kernel
theorem dX5_countAnew_105 : decode cX5_countAnew 105 = .ok (.ireturn, 1) := by decide +kernel
theorem dX5_fileAt_0 : decode cX5_fileAt 0 = .ok (.iconst 0, 1) := by decide +kernel
theorem dX5_fileAt_1 : decode cX5_fileAt 1 = .ok (.istore 5, 2) := by decide +kernel
theorem dX5_fileAt_3 : decode cX5_fileAt 3 = .ok (.iload 5, 2) := by decide +kernel
theorem dX5_fileAt_5 : decode cX5_fileAt 5 = .ok (.bipush 60, 2) := by decide +kernel
theorem dX5_fileAt_7 : decode cX5_fileAt 7 = .ok (.if_icmp .ge 25, 3) := by decide +kernel
theorem dX5_fileAt_10 : decode cX5_fileAt 10 = .ok (.aload_n 0, 1) := by decide +kernel
theorem dX5_fileAt_11 : decode cX5_fileAt 11 = .ok (.getfield 9, 3) := by decide +kernel
theorem dX5_fileAt_14 : decode cX5_fileAt 14 = .ok (.iload 5, 2) := by decide +kernel
theorem dX5_fileAt_16 : decode cX5_fileAt 16 = .ok (.aload_n 0, 1) := by decide +kernel
theorem dX5_fileAt_17 : decode cX5_fileAt 17 = .ok (.iload_n 1, 1) := by decide +kernel
theorem dX5_fileAt_18 : decode cX5_fileAt 18 = .ok (.iload 5, 2) := by decide +kernel
theorem dX5_fileAt_20 : decode cX5_fileAt 20 = .ok (.iload_n 2, 1) := by decide +kernel
theorem dX5_fileAt_21 : decode cX5_fileAt 21 = .ok (.iload_n 3, 1) := by decide +kernel
theorem dX5_fileAt_22 : decode cX5_fileAt 22 = .ok (.invokevirtual 40, 3) := by decide +kernel
theorem dX5_fileAt_25 : decode cX5_fileAt 25 = .ok (.iastore, 1) := by decide +kernel
theorem dX5_fileAt_26 : decode cX5_fileAt 26 = .ok (.iinc 5 1, 3) := by decide +kernel
theorem dX5_fileAt_29 : decode cX5_fileAt 29 = .ok (.goto (-26), 3) := by decide +kernel
theorem dX5_fileAt_32 : decode cX5_fileAt 32 = .ok (.iconst 0, 1) := by decide +kernel
theorem dX5_fileAt_33 : decode cX5_fileAt 33 = .ok (.istore 5, 2) := by decide +kernel
theorem dX5_fileAt_35 : decode cX5_fileAt 35 = .ok (.iload 5, 2) := by decide +kernel
theorem dX5_fileAt_37 : decode cX5_fileAt 37 = .ok (.bipush 60, 2) := by decide +kernel
theorem dX5_fileAt_39 : decode cX5_fileAt 39 = .ok (.if_icmp .ge 45, 3) := by decide +kernel
theorem dX5_fileAt_42 : decode cX5_fileAt 42 = .ok (.aload_n 0, 1) := by decide +kernel
theorem dX5_fileAt_43 : decode cX5_fileAt 43 = .ok (.getfield 9, 3) := by decide +kernel
theorem dX5_fileAt_46 : decode cX5_fileAt 46 = .ok (.iload 5, 2) := by decide +kernel
theorem dX5_fileAt_48 : decode cX5_fileAt 48 = .ok (.iaload, 1) := by decide +kernel
theorem dX5_fileAt_49 : decode cX5_fileAt 49 = .ok (.istore 6, 2) := by decide +kernel
theorem dX5_fileAt_51 : decode cX5_fileAt 51 = .ok (.iload 6, 2) := by decide +kernel
theorem dX5_fileAt_53 : decode cX5_fileAt 53 = .ok (.ifCond .le 25, 3) := by decide +kernel
theorem dX5_fileAt_56 : decode cX5_fileAt 56 = .ok (.aload_n 0, 1) := by decide +kernel
theorem dX5_fileAt_57 : decode cX5_fileAt 57 = .ok (.iload 5, 2) := by decide +kernel
theorem dX5_fileAt_59 : decode cX5_fileAt 59 = .ok (.iload 6, 2) := by decide +kernel
theorem dX5_fileAt_61 : decode cX5_fileAt 61 = .ok (.invokevirtual 74, 3) := by decide +kernel
theorem dX5_fileAt_64 : decode cX5_fileAt 64 = .ok (.iload 4, 2) := by decide +kernel
theorem dX5_fileAt_66 : decode cX5_fileAt 66 = .ok (.if_icmp .ne 12, 3) := by decide +kernel
theorem dX5_fileAt_69 : decode cX5_fileAt 69 = .ok (.bipush 100, 2) := by decide +kernel
theorem dX5_fileAt_71 : decode cX5_fileAt 71 = .ok (.iload 6, 2) := by decide +kernel
theorem dX5_fileAt_73 : decode cX5_fileAt 73 = .ok (.imul, 1) := by decide +kernel
theorem dX5_fileAt_74 : decode cX5_fileAt 74 = .ok (.iload 5, 2) := by decide +kernel
theorem dX5_fileAt_76 : decode cX5_fileAt 76 = .ok (.iadd, 1) := by decide +kernel
theorem dX5_fileAt_77 : decode cX5_fileAt 77 = .ok (.ireturn, 1) := by decide +kernel
theorem dX5_fileAt_78 : decode cX5_fileAt 78 = .ok (.iinc 5 1, 3) := by decide +kernel
theorem dX5_fileAt_81 : decode cX5_fileAt 81 = .ok (.goto (-46), 3) := by decide +kernel
theorem dX5_fileAt_84 : decode cX5_fileAt 84 = .ok (.iconst (-1), 1) := by decide +kernel
theorem dX5_fileAt_85 : decode cX5_fileAt 85 = .ok (.ireturn, 1) := by decide +kernel
theorem dX5_countAhead_0 : decode cX5_countAhead 0 = .ok (.iconst 0, 1) := by decide +kernel
theorem dX5_countAhead_1 : decode cX5_countAhead 1 = .ok (.istore_n 3, 1) := by decide +kernel
theorem dX5_countAhead_2 : decode cX5_countAhead 2 = .ok (.iconst 0, 1) := by decide +kernel
theorem dX5_countAhead_3 : decode cX5_countAhead 3 = .ok (.istore 4, 2) := by decide +kernel
theorem dX5_countAhead_5 : decode cX5_countAhead 5 = .ok (.iload 4, 2) := by decide +kernel
theorem dX5_countAhead_7 : decode cX5_countAhead 7 = .ok (.bipush 60, 2) := by decide +kernel
theorem dX5_countAhead_9 : decode cX5_countAhead 9 = .ok (.if_icmp .ge 52, 3) := by decide +kernel
theorem dX5_countAhead_12 : decode cX5_countAhead 12 = .ok (.aload_n 0, 1) := by decide +kernel
theorem dX5_countAhead_13 : decode cX5_countAhead 13 = .ok (.getfield 9, 3) := by decide +kernel
theorem dX5_countAhead_16 : decode cX5_countAhead 16 = .ok (.iload 4, 2) := by decide +kernel
theorem dX5_countAhead_18 : decode cX5_countAhead 18 = .ok (.iaload, 1) := by decide +kernel
theorem dX5_countAhead_19 : decode cX5_countAhead 19 = .ok (.iload_n 2, 1) := by decide +kernel
theorem dX5_countAhead_20 : decode cX5_countAhead 20 = .ok (.if_icmp .le 7, 3) := by decide +kernel
theorem dX5_countAhead_23 : decode cX5_countAhead 23 = .ok (.iconst 1, 1) := by decide +kernel
theorem dX5_countAhead_24 : decode cX5_countAhead 24 = .ok (.goto 4, 3) := by decide +kernel
theorem dX5_countAhead_27 : decode cX5_countAhead 27 = .ok (.iconst 0, 1) := by decide +kernel
theorem dX5_countAhead_28 : decode cX5_countAhead 28 = .ok (.istore 5, 2) := by decide +kernel
theorem dX5_countAhead_30 : decode cX5_countAhead 30 = .ok (.iload 5, 2) := by decide +kernel
theorem dX5_countAhead_32 : decode cX5_countAhead 32 = .ok (.ifCond .ne 20, 3) := by decide +kernel
theorem dX5_countAhead_35 : decode cX5_countAhead 35 = .ok (.aload_n 0, 1) := by decide +kernel
theorem dX5_countAhead_36 : decode cX5_countAhead 36 = .ok (.getfield 9, 3) := by decide +kernel
theorem dX5_countAhead_39 : decode cX5_countAhead 39 = .ok (.iload 4, 2) := by decide +kernel
theorem dX5_countAhead_41 : decode cX5_countAhead 41 = .ok (.iaload, 1) := by decide +kernel
theorem dX5_countAhead_42 : decode cX5_countAhead 42 = .ok (.iload_n 2, 1) := by decide +kernel
theorem dX5_countAhead_43 : decode cX5_countAhead 43 = .ok (.if_icmp .ne 12, 3) := by decide +kernel
theorem dX5_countAhead_46 : decode cX5_countAhead 46 = .ok (.iload 4, 2) := by decide +kernel
theorem dX5_countAhead_48 : decode cX5_countAhead 48 = .ok (.iload_n 1, 1) := by decide +kernel
theorem dX5_countAhead_49 : decode cX5_countAhead 49 = .ok (.if_icmp .ge 6, 3) := by decide +kernel
theorem dX5_countAhead_52 : decode cX5_countAhead 52 = .ok (.iinc 3 1, 3) := by decide +kernel
theorem dX5_countAhead_55 : decode cX5_countAhead 55 = .ok (.iinc 4 1, 3) := by decide +kernel
theorem dX5_countAhead_58 : decode cX5_countAhead 58 = .ok (.goto (-53), 3) := by decide +kernel
theorem dX5_countAhead_61 : decode cX5_countAhead 61 = .ok (.iload_n 3, 1) := by decide +kernel
theorem dX5_countAhead_62 : decode cX5_countAhead 62 = .ok (.ireturn, 1) := by decide +kernel
theorem dX5_isWithinNow_0 : decode cX5_isWithinNow 0 = .ok (.aload_n 0, 1) := by decide +kernel
theorem dX5_isWithinNow_1 : decode cX5_isWithinNow 1 = .ok (.getfield 22, 3) := by decide +kernel
theorem dX5_isWithinNow_4 : decode cX5_isWithinNow 4 = .ok (.iload_n 1, 1) := by decide +kernel
theorem dX5_isWithinNow_5 : decode cX5_isWithinNow 5 = .ok (.invokevirtual 90, 3) := by decide +kernel
theorem dX5_isWithinNow_8 : decode cX5_isWithinNow 8 = .ok (.astore_n 3, 1) := by decide +kernel
theorem dX5_isWithinNow_9 : decode cX5_isWithinNow 9 = .ok (.aload_n 3, 1) := by decide +kernel
theorem dX5_isWithinNow_10 : decode cX5_isWithinNow 10 = .ok (.ifnonnull 5, 3) := by decide +kernel
theorem dX5_isWithinNow_13 : decode cX5_isWithinNow 13 = .ok (.iconst 0, 1) := by decide +kernel
theorem dX5_isWithinNow_14 : decode cX5_isWithinNow 14 = .ok (.ireturn, 1) := by decide +kernel
theorem dX5_isWithinNow_15 : decode cX5_isWithinNow 15 = .ok (.iload_n 2, 1) := by decide +kernel
theorem dX5_isWithinNow_16 : decode cX5_isWithinNow 16 = .ok (.iconst (-1), 1) := by decide +kernel
theorem dX5_isWithinNow_17 : decode cX5_isWithinNow 17 = .ok (.if_icmp .eq 11, 3) := by decide +kernel
theorem dX5_isWithinNow_20 : decode cX5_isWithinNow 20 = .ok (.iload_n 2, 1) := by decide +kernel
theorem dX5_isWithinNow_21 : decode cX5_isWithinNow 21 = .ok (.aload_n 3, 1) := by decide +kernel
theorem dX5_isWithinNow_22 : decode cX5_isWithinNow 22 = .ok (.getfield 96, 3) := by decide +kernel
theorem dX5_isWithinNow_25 : decode cX5_isWithinNow 25 = .ok (.if_icmp .ne 5, 3) := by decide +kernel
theorem dX5_isWithinNow_28 : decode cX5_isWithinNow 28 = .ok (.iconst 1, 1) := by decide +kernel
theorem dX5_isWithinNow_29 : decode cX5_isWithinNow 29 = .ok (.ireturn, 1) := by decide +kernel
theorem dX5_isWithinNow_30 : decode cX5_isWithinNow 30 = .ok (.aload_n 0, 1) := by decide +kernel
theorem dX5_isWithinNow_31 : decode cX5_isWithinNow 31 = .ok (.getfield 18, 3) := by decide +kernel
theorem dX5_isWithinNow_34 : decode cX5_isWithinNow 34 = .ok (.iload_n 2, 1) := by decide +kernel
theorem dX5_isWithinNow_35 : decode cX5_isWithinNow 35 = .ok (.aload_n 3, 1) := by decide +kernel
theorem dX5_isWithinNow_36 : decode cX5_isWithinNow 36 = .ok (.getfield 96, 3) := by decide +kernel
theorem dX5_isWithinNow_39 : decode cX5_isWithinNow 39 = .ok (.invokevirtual 102, 3) := by decide +kernel
theorem dX5_isWithinNow_42 : decode cX5_isWithinNow 42 = .ok (.ifCond .eq 19, 3) := by decide +kernel
theorem dX5_isWithinNow_45 : decode cX5_isWithinNow 45 = .ok (.aload_n 0, 1) := by decide +kernel
theorem dX5_isWithinNow_46 : decode cX5_isWithinNow 46 = .ok (.getfield 18, 3) := by decide +kernel
theorem dX5_isWithinNow_49 : decode cX5_isWithinNow 49 = .ok (.iload_n 1, 1) := by decide +kernel
theorem dX5_isWithinNow_50 : decode cX5_isWithinNow 50 = .ok (.iload_n 2, 1) := by decide +kernel
theorem dX5_isWithinNow_51 : decode cX5_isWithinNow 51 = .ok (.invokevirtual 102, 3) := by decide +kernel
theorem dX5_isWithinNow_54 : decode cX5_isWithinNow 54 = .ok (.ifCond .eq 7, 3) := by decide +kernel
theorem dX5_isWithinNow_57 : decode cX5_isWithinNow 57 = .ok (.iconst 1, 1) := by decide +kernel
theorem dX5_isWithinNow_58 : decode cX5_isWithinNow 58 = .ok (.goto 4, 3) := by decide +kernel
theorem dX5_isWithinNow_61 : decode cX5_isWithinNow 61 = .ok (.iconst 0, 1) := by decide +kernel
theorem dX5_isWithinNow_62 : decode cX5_isWithinNow 62 = .ok (.ireturn, 1) := by decide +kernel
theorem dX5_scoreOf_0 : decode cX5_scoreOf 0 = .ok (.aload_n 0, 1) := by decide +kernel
theorem dX5_scoreOf_1 : decode cX5_scoreOf 1 = .ok (.getfield 18, 3) := by decide +kernel
theorem dX5_scoreOf_4 : decode cX5_scoreOf 4 = .ok (.iload_n 2, 1) := by decide +kernel
theorem dX5_scoreOf_5 : decode cX5_scoreOf 5 = .ok (.invokevirtual 44, 3) := by decide +kernel
theorem dX5_scoreOf_8 : decode cX5_scoreOf 8 = .ok (.ifCond .eq 26, 3) := by decide +kernel
theorem dX5_scoreOf_11 : decode cX5_scoreOf 11 = .ok (.aload_n 0, 1) := by decide +kernel
theorem dX5_scoreOf_12 : decode cX5_scoreOf 12 = .ok (.getfield 30, 3) := by decide +kernel
theorem dX5_scoreOf_15 : decode cX5_scoreOf 15 = .ok (.iload_n 2, 1) := by decide +kernel
theorem dX5_scoreOf_16 : decode cX5_scoreOf 16 = .ok (.invokevirtual 103, 3) := by decide +kernel
theorem dX5_scoreOf_19 : decode cX5_scoreOf 19 = .ok (.ifCond .eq 15, 3) := by decide +kernel
theorem dX5_scoreOf_22 : decode cX5_scoreOf 22 = .ok (.aload_n 0, 1) := by decide +kernel
theorem dX5_scoreOf_23 : decode cX5_scoreOf 23 = .ok (.getfield 18, 3) := by decide +kernel
theorem dX5_scoreOf_26 : decode cX5_scoreOf 26 = .ok (.iload_n 1, 1) := by decide +kernel
theorem dX5_scoreOf_27 : decode cX5_scoreOf 27 = .ok (.iload_n 2, 1) := by decide +kernel
theorem dX5_scoreOf_28 : decode cX5_scoreOf 28 = .ok (.invokevirtual 50, 3) := by decide +kernel
theorem dX5_scoreOf_31 : decode cX5_scoreOf 31 = .ok (.ifCond .ne 5, 3) := by decide +kernel
theorem dX5_scoreOf_34 : decode cX5_scoreOf 34 = .ok (.iconst 0, 1) := by decide +kernel
theorem dX5_scoreOf_35 : decode cX5_scoreOf 35 = .ok (.ireturn, 1) := by decide +kernel
theorem dX5_scoreOf_36 : decode cX5_scoreOf 36 = .ok (.aload_n 0, 1) := by decide +kernel
theorem dX5_scoreOf_37 : decode cX5_scoreOf 37 = .ok (.getfield 30, 3) := by decide +kernel
theorem dX5_scoreOf_40 : decode cX5_scoreOf 40 = .ok (.iload_n 2, 1) := by decide +kernel
theorem dX5_scoreOf_41 : decode cX5_scoreOf 41 = .ok (.invokevirtual 78, 3) := by decide +kernel
theorem dX5_scoreOf_44 : decode cX5_scoreOf 44 = .ok (.aload_n 0, 1) := by decide +kernel
theorem dX5_scoreOf_45 : decode cX5_scoreOf 45 = .ok (.getfield 30, 3) := by decide +kernel
theorem dX5_scoreOf_48 : decode cX5_scoreOf 48 = .ok (.iload_n 2, 1) := by decide +kernel
theorem dX5_scoreOf_49 : decode cX5_scoreOf 49 = .ok (.invokevirtual 81, 3) := by decide +kernel
theorem dX5_scoreOf_52 : decode cX5_scoreOf 52 = .ok (.iload_n 3, 1) := by decide +kernel
theorem dX5_scoreOf_53 : decode cX5_scoreOf 53 = .ok (.iload 4, 2) := by decide +kernel
theorem dX5_scoreOf_55 : decode cX5_scoreOf 55 = .ok (.invokestatic 70, 3) := by decide +kernel
theorem dX5_scoreOf_58 : decode cX5_scoreOf 58 = .ok (.ireturn, 1) := by decide +kernel
theorem dX5_score_0 : decode cX5_score 0 = .ok (.iconst 0, 1) := by decide +kernel
theorem dX5_score_1 : decode cX5_score 1 = .ok (.istore 4, 2) := by decide +kernel
theorem dX5_score_3 : decode cX5_score 3 = .ok (.iconst 0, 1) := by decide +kernel
theorem dX5_score_4 : decode cX5_score 4 = .ok (.istore 5, 2) := by decide +kernel
theorem dX5_score_6 : decode cX5_score 6 = .ok (.iconst 0, 1) := by decide +kernel
theorem dX5_score_7 : decode cX5_score 7 = .ok (.istore 6, 2) := by decide +kernel
theorem dX5_score_9 : decode cX5_score 9 = .ok (.iconst 0, 1) := by decide +kernel
theorem dX5_score_10 : decode cX5_score 10 = .ok (.istore 7, 2) := by decide +kernel
theorem dX5_score_12 : decode cX5_score 12 = .ok (.iload 7, 2) := by decide +kernel
theorem dX5_score_14 : decode cX5_score 14 = .ok (.iload_n 1, 1) := by decide +kernel
theorem dX5_score_15 : decode cX5_score 15 = .ok (.if_icmp .ge 65, 3) := by decide +kernel
theorem dX5_score_18 : decode cX5_score 18 = .ok (.iload 7, 2) := by decide +kernel
theorem dX5_score_20 : decode cX5_score 20 = .ok (.aload_n 0, 1) := by decide +kernel
theorem dX5_score_21 : decode cX5_score 21 = .ok (.arraylength, 1) := by decide +kernel
theorem dX5_score_22 : decode cX5_score 22 = .ok (.if_icmp .ge 58, 3) := by decide +kernel
theorem dX5_score_25 : decode cX5_score 25 = .ok (.aload_n 0, 1) := by decide +kernel
theorem dX5_score_26 : decode cX5_score 26 = .ok (.iload 7, 2) := by decide +kernel
theorem dX5_score_28 : decode cX5_score 28 = .ok (.iaload, 1) := by decide +kernel
theorem dX5_score_29 : decode cX5_score 29 = .ok (.iload_n 2, 1) := by decide +kernel
theorem dX5_score_30 : decode cX5_score 30 = .ok (.if_icmp .ne 6, 3) := by decide +kernel
theorem dX5_score_33 : decode cX5_score 33 = .ok (.iinc 4 1, 3) := by decide +kernel
theorem dX5_score_36 : decode cX5_score 36 = .ok (.aload_n 0, 1) := by decide +kernel
theorem dX5_score_37 : decode cX5_score 37 = .ok (.iload 7, 2) := by decide +kernel
theorem dX5_score_39 : decode cX5_score 39 = .ok (.iaload, 1) := by decide +kernel
theorem dX5_score_40 : decode cX5_score 40 = .ok (.iload_n 3, 1) := by decide +kernel
theorem dX5_score_41 : decode cX5_score 41 = .ok (.if_icmp .ne 33, 3) := by decide +kernel
theorem dX5_score_44 : decode cX5_score 44 = .ok (.iinc 5 1, 3) := by decide +kernel
theorem dX5_score_47 : decode cX5_score 47 = .ok (.iload 6, 2) := by decide +kernel
theorem dX5_score_49 : decode cX5_score 49 = .ok (.ifCond .ne 18, 3) := by decide +kernel
theorem dX5_score_52 : decode cX5_score 52 = .ok (.iload 7, 2) := by decide +kernel
theorem dX5_score_54 : decode cX5_score 54 = .ok (.ifCond .le 17, 3) := by decide +kernel
theorem dX5_score_57 : decode cX5_score 57 = .ok (.aload_n 0, 1) := by decide +kernel
theorem dX5_score_58 : decode cX5_score 58 = .ok (.iload 7, 2) := by decide +kernel
theorem dX5_score_60 : decode cX5_score 60 = .ok (.iconst 1, 1) := by decide +kernel
theorem dX5_score_61 : decode cX5_score 61 = .ok (.isub, 1) := by decide +kernel
theorem dX5_score_62 : decode cX5_score 62 = .ok (.iaload, 1) := by decide +kernel
theorem dX5_score_63 : decode cX5_score 63 = .ok (.iload_n 2, 1) := by decide +kernel
theorem dX5_score_64 : decode cX5_score 64 = .ok (.if_icmp .ne 7, 3) := by decide +kernel
theorem dX5_score_67 : decode cX5_score 67 = .ok (.iconst 1, 1) := by decide +kernel
theorem dX5_score_68 : decode cX5_score 68 = .ok (.goto 4, 3) := by decide +kernel
theorem dX5_score_71 : decode cX5_score 71 = .ok (.iconst 0, 1) := by decide +kernel
theorem dX5_score_72 : decode cX5_score 72 = .ok (.istore 6, 2) := by decide +kernel
theorem dX5_score_74 : decode cX5_score 74 = .ok (.iinc 7 1, 3) := by decide +kernel
theorem dX5_score_77 : decode cX5_score 77 = .ok (.goto (-65), 3) := by decide +kernel
theorem dX5_score_80 : decode cX5_score 80 = .ok (.iload_n 3, 1) := by decide +kernel
theorem dX5_score_81 : decode cX5_score 81 = .ok (.iconst (-1), 1) := by decide +kernel
theorem dX5_score_82 : decode cX5_score 82 = .ok (.if_icmp .ne 6, 3) := by decide +kernel
theorem dX5_score_85 : decode cX5_score 85 = .ok (.iload 4, 2) := by decide +kernel
theorem dX5_score_87 : decode cX5_score 87 = .ok (.ireturn, 1) := by decide +kernel
theorem dX5_score_88 : decode cX5_score 88 = .ok (.iload 4, 2) := by decide +kernel
theorem dX5_score_90 : decode cX5_score 90 = .ok (.ifCond .eq 8, 3) := by decide +kernel
theorem dX5_score_93 : decode cX5_score 93 = .ok (.iload 5, 2) := by decide +kernel
theorem dX5_score_95 : decode cX5_score 95 = .ok (.ifCond .ne 5, 3) := by decide +kernel
theorem dX5_score_98 : decode cX5_score 98 = .ok (.iconst 0, 1) := by decide +kernel
theorem dX5_score_99 : decode cX5_score 99 = .ok (.ireturn, 1) := by decide +kernel
theorem dX5_score_100 : decode cX5_score 100 = .ok (.iload 4, 2) := by decide +kernel
theorem dX5_score_102 : decode cX5_score 102 = .ok (.iload 5, 2) := by decide +kernel
theorem dX5_score_104 : decode cX5_score 104 = .ok (.iadd, 1) := by decide +kernel
theorem dX5_score_105 : decode cX5_score 105 = .ok (.iload 6, 2) := by decide +kernel
theorem dX5_score_107 : decode cX5_score 107 = .ok (.ifCond .eq 8, 3) := by decide +kernel
theorem dX5_score_110 : decode cX5_score 110 = .ok (.bipush 10, 2) := by decide +kernel
theorem dX5_score_112 : decode cX5_score 112 = .ok (.goto 4, 3) := by decide +kernel
theorem dX5_score_115 : decode cX5_score 115 = .ok (.iconst 0, 1) := by decide +kernel
theorem dX5_score_116 : decode cX5_score 116 = .ok (.iadd, 1) := by decide +kernel
theorem dX5_score_117 : decode cX5_score 117 = .ok (.ireturn, 1) := by decide +kernel
theorem dX6_takeWords_0 : decode cX6_takeWords 0 = .ok (.aload_n 1, 1) := by decide +kernel
theorem dX6_takeWords_1 : decode cX6_takeWords 1 = .ok (.iload_n 2, 1) := by decide +kernel
theorem dX6_takeWords_2 : decode cX6_takeWords 2 = .ok (.invokestatic 18, 3) := by decide +kernel
theorem dX6_takeWords_5 : decode cX6_takeWords 5 = .ok (.istore 4, 2) := by decide +kernel
theorem dX6_takeWords_7 : decode cX6_takeWords 7 = .ok (.iconst 0, 1) := by decide +kernel
theorem dX6_takeWords_8 : decode cX6_takeWords 8 = .ok (.istore 5, 2) := by decide +kernel
theorem dX6_takeWords_10 : decode cX6_takeWords 10 = .ok (.iconst 0, 1) := by decide +kernel
theorem dX6_takeWords_11 : decode cX6_takeWords 11 = .ok (.istore 6, 2) := by decide +kernel
theorem dX6_takeWords_13 : decode cX6_takeWords 13 = .ok (.iconst 0, 1) := by decide +kernel
theorem dX6_takeWords_14 : decode cX6_takeWords 14 = .ok (.istore 7, 2) := by decide +kernel
theorem dX6_takeWords_16 : decode cX6_takeWords 16 = .ok (.iload 7, 2) := by decide +kernel
theorem dX6_takeWords_18 : decode cX6_takeWords 18 = .ok (.iload 4, 2) := by decide +kernel
theorem dX6_takeWords_20 : decode cX6_takeWords 20 = .ok (.if_icmp .ge 89, 3) := by decide +kernel
theorem dX6_takeWords_23 : decode cX6_takeWords 23 = .ok (.iload 7, 2) := by decide +kernel
theorem dX6_takeWords_25 : decode cX6_takeWords 25 = .ok (.aload_n 1, 1) := by decide +kernel
theorem dX6_takeWords_26 : decode cX6_takeWords 26 = .ok (.arraylength, 1) := by decide +kernel
theorem dX6_takeWords_27 : decode cX6_takeWords 27 = .ok (.if_icmp .ge 82, 3) := by decide +kernel
theorem dX6_takeWords_30 : decode cX6_takeWords 30 = .ok (.aload_n 1, 1) := by decide +kernel
theorem dX6_takeWords_31 : decode cX6_takeWords 31 = .ok (.iload 7, 2) := by decide +kernel
theorem dX6_takeWords_33 : decode cX6_takeWords 33 = .ok (.iaload, 1) := by decide +kernel
theorem dX6_takeWords_34 : decode cX6_takeWords 34 = .ok (.istore 8, 2) := by decide +kernel
theorem dX6_takeWords_36 : decode cX6_takeWords 36 = .ok (.iload 8, 2) := by decide +kernel
theorem dX6_takeWords_38 : decode cX6_takeWords 38 = .ok (.bipush (-2), 2) := by decide +kernel
theorem dX6_takeWords_40 : decode cX6_takeWords 40 = .ok (.if_icmp .ne 9, 3) := by decide +kernel
theorem dX6_takeWords_43 : decode cX6_takeWords 43 = .ok (.iinc 6 1, 3) := by decide +kernel
theorem dX6_takeWords_46 : decode cX6_takeWords 46 = .ok (.goto 57, 3) := by decide +kernel
theorem dX6_takeWords_49 : decode cX6_takeWords 49 = .ok (.iload 8, 2) := by decide +kernel
theorem dX6_takeWords_51 : decode cX6_takeWords 51 = .ok (.bipush (-3), 2) := by decide +kernel
theorem dX6_takeWords_53 : decode cX6_takeWords 53 = .ok (.if_icmp .ne 16, 3) := by decide +kernel
theorem dX6_takeWords_56 : decode cX6_takeWords 56 = .ok (.iconst 0, 1) := by decide +kernel
theorem dX6_takeWords_57 : decode cX6_takeWords 57 = .ok (.iload 6, 2) := by decide +kernel
theorem dX6_takeWords_59 : decode cX6_takeWords 59 = .ok (.iconst 1, 1) := by decide +kernel
theorem dX6_takeWords_60 : decode cX6_takeWords 60 = .ok (.isub, 1) := by decide +kernel
theorem dX6_takeWords_61 : decode cX6_takeWords 61 = .ok (.invokestatic 22, 3) := by decide +kernel
theorem dX6_takeWords_64 : decode cX6_takeWords 64 = .ok (.istore 6, 2) := by decide +kernel
theorem dX6_takeWords_66 : decode cX6_takeWords 66 = .ok (.goto 37, 3) := by decide +kernel
theorem dX6_takeWords_69 : decode cX6_takeWords 69 = .ok (.iload 6, 2) := by decide +kernel
theorem dX6_takeWords_71 : decode cX6_takeWords 71 = .ok (.aload_n 0, 1) := by decide +kernel
theorem dX6_takeWords_72 : decode cX6_takeWords 72 = .ok (.getfield 9, 3) := by decide +kernel
theorem dX6_takeWords_75 : decode cX6_takeWords 75 = .ok (.if_icmp .gt 28, 3) := by decide +kernel
theorem dX6_takeWords_78 : decode cX6_takeWords 78 = .ok (.iload 5, 2) := by decide +kernel
theorem dX6_takeWords_80 : decode cX6_takeWords 80 = .ok (.aload_n 0, 1) := by decide +kernel
theorem dX6_takeWords_81 : decode cX6_takeWords 81 = .ok (.getfield 15, 3) := by decide +kernel
theorem dX6_takeWords_84 : decode cX6_takeWords 84 = .ok (.if_icmp .ge 19, 3) := by decide +kernel
theorem dX6_takeWords_87 : decode cX6_takeWords 87 = .ok (.iload 5, 2) := by decide +kernel
theorem dX6_takeWords_89 : decode cX6_takeWords 89 = .ok (.aload_n 3, 1) := by decide +kernel
theorem dX6_takeWords_90 : decode cX6_takeWords 90 = .ok (.arraylength, 1) := by decide +kernel
theorem dX6_takeWords_91 : decode cX6_takeWords 91 = .ok (.if_icmp .ge 12, 3) := by decide +kernel
theorem dX6_takeWords_94 : decode cX6_takeWords 94 = .ok (.aload_n 3, 1) := by decide +kernel
theorem dX6_takeWords_95 : decode cX6_takeWords 95 = .ok (.iload 5, 2) := by decide +kernel
theorem dX6_takeWords_97 : decode cX6_takeWords 97 = .ok (.iload 8, 2) := by decide +kernel
theorem dX6_takeWords_99 : decode cX6_takeWords 99 = .ok (.iastore, 1) := by decide +kernel
theorem dX6_takeWords_100 : decode cX6_takeWords 100 = .ok (.iinc 5 1, 3) := by decide +kernel
theorem dX6_takeWords_103 : decode cX6_takeWords 103 = .ok (.iinc 7 1, 3) := by decide +kernel
theorem dX6_takeWords_106 : decode cX6_takeWords 106 = .ok (.goto (-90), 3) := by decide +kernel
theorem dX6_takeWords_109 : decode cX6_takeWords 109 = .ok (.iload 5, 2) := by decide +kernel
theorem dX6_takeWords_111 : decode cX6_takeWords 111 = .ok (.ireturn, 1) := by decide +kernel
theorem dX6_endOfWhole_0 : decode cX6_endOfWhole 0 = .ok (.iload_n 1, 1) := by decide +kernel
theorem dX6_endOfWhole_1 : decode cX6_endOfWhole 1 = .ok (.aload_n 0, 1) := by decide +kernel
theorem dX6_endOfWhole_2 : decode cX6_endOfWhole 2 = .ok (.arraylength, 1) := by decide +kernel
theorem dX6_endOfWhole_3 : decode cX6_endOfWhole 3 = .ok (.invokestatic 28, 3) := by decide +kernel
theorem dX6_endOfWhole_6 : decode cX6_endOfWhole 6 = .ok (.istore_n 2, 1) := by decide +kernel
theorem dX6_endOfWhole_7 : decode cX6_endOfWhole 7 = .ok (.iconst 0, 1) := by decide +kernel
theorem dX6_endOfWhole_8 : decode cX6_endOfWhole 8 = .ok (.istore_n 3, 1) := by decide +kernel
theorem dX6_endOfWhole_9 : decode cX6_endOfWhole 9 = .ok (.iload_n 2, 1) := by decide +kernel
theorem dX6_endOfWhole_10 : decode cX6_endOfWhole 10 = .ok (.iconst 1, 1) := by decide +kernel
theorem dX6_endOfWhole_11 : decode cX6_endOfWhole 11 = .ok (.isub, 1) := by decide +kernel
theorem dX6_endOfWhole_12 : decode cX6_endOfWhole 12 = .ok (.istore 4, 2) := by decide +kernel
theorem dX6_endOfWhole_14 : decode cX6_endOfWhole 14 = .ok (.iload 4, 2) := by decide +kernel
theorem dX6_endOfWhole_16 : decode cX6_endOfWhole 16 = .ok (.ifCond .lt 55, 3) := by decide +kernel
theorem dX6_endOfWhole_19 : decode cX6_endOfWhole 19 = .ok (.aload_n 0, 1) := by decide +kernel
theorem dX6_endOfWhole_20 : decode cX6_endOfWhole 20 = .ok (.iload 4, 2) := by decide +kernel
theorem dX6_endOfWhole_22 : decode cX6_endOfWhole 22 = .ok (.iaload, 1) := by decide +kernel
theorem dX6_endOfWhole_23 : decode cX6_endOfWhole 23 = .ok (.istore 5, 2) := by decide +kernel
theorem dX6_endOfWhole_25 : decode cX6_endOfWhole 25 = .ok (.iload 5, 2) := by decide +kernel
theorem dX6_endOfWhole_27 : decode cX6_endOfWhole 27 = .ok (.bipush (-3), 2) := by decide +kernel
theorem dX6_endOfWhole_29 : decode cX6_endOfWhole 29 = .ok (.if_icmp .ne 9, 3) := by decide +kernel
theorem dX6_endOfWhole_32 : decode cX6_endOfWhole 32 = .ok (.iinc 3 1, 3) := by decide +kernel
theorem dX6_endOfWhole_35 : decode cX6_endOfWhole 35 = .ok (.goto 30, 3) := by decide +kernel
theorem dX6_endOfWhole_38 : decode cX6_endOfWhole 38 = .ok (.iload 5, 2) := by decide +kernel
theorem dX6_endOfWhole_40 : decode cX6_endOfWhole 40 = .ok (.bipush (-2), 2) := by decide +kernel
theorem dX6_endOfWhole_42 : decode cX6_endOfWhole 42 = .ok (.if_icmp .ne 13, 3) := by decide +kernel
theorem dX6_endOfWhole_45 : decode cX6_endOfWhole 45 = .ok (.iload_n 3, 1) := by decide +kernel
theorem dX6_endOfWhole_46 : decode cX6_endOfWhole 46 = .ok (.ifCond .le 9, 3) := by decide +kernel
theorem dX6_endOfWhole_49 : decode cX6_endOfWhole 49 = .ok (.iinc 3 (-1), 3) := by decide +kernel
theorem dX6_endOfWhole_52 : decode cX6_endOfWhole 52 = .ok (.goto 13, 3) := by decide +kernel
theorem dX6_endOfWhole_55 : decode cX6_endOfWhole 55 = .ok (.iload 5, 2) := by decide +kernel
theorem dX6_endOfWhole_57 : decode cX6_endOfWhole 57 = .ok (.bipush (-2), 2) := by decide +kernel
theorem dX6_endOfWhole_59 : decode cX6_endOfWhole 59 = .ok (.if_icmp .ne 6, 3) := by decide +kernel
theorem dX6_endOfWhole_62 : decode cX6_endOfWhole 62 = .ok (.iload 4, 2) := by decide +kernel
theorem dX6_endOfWhole_64 : decode cX6_endOfWhole 64 = .ok (.istore_n 2, 1) := by decide +kernel
theorem dX6_endOfWhole_65 : decode cX6_endOfWhole 65 = .ok (.iinc 4 (-1), 3) := by decide +kernel
theorem dX6_endOfWhole_68 : decode cX6_endOfWhole 68 = .ok (.goto (-54), 3) := by decide +kernel
theorem dX6_endOfWhole_71 : decode cX6_endOfWhole 71 = .ok (.iload_n 2, 1) := by decide +kernel
theorem dX6_endOfWhole_72 : decode cX6_endOfWhole 72 = .ok (.ireturn, 1) := by decide +kernel
theorem dX7_startAt_0 : decode cX7_startAt 0 = .ok (.aload_n 0, 1) := by decide +kernel
theorem dX7_startAt_1 : decode cX7_startAt 1 = .ok (.iload_n 1, 1) := by decide +kernel
theorem dX7_startAt_2 : decode cX7_startAt 2 = .ok (.putfield 25, 3) := by decide +kernel
theorem dX7_startAt_5 : decode cX7_startAt 5 = .ok (.aload_n 0, 1) := by decide +kernel
theorem dX7_startAt_6 : decode cX7_startAt 6 = .ok (.iconst 0, 1) := by decide +kernel
theorem dX7_startAt_7 : decode cX7_startAt 7 = .ok (.putfield 29, 3) := by decide +kernel
theorem dX7_startAt_10 : decode cX7_startAt 10 = .ok (.aload_n 0, 1) := by decide +kernel
theorem dX7_startAt_11 : decode cX7_startAt 11 = .ok (.iconst 0, 1) := by decide +kernel
theorem dX7_startAt_12 : decode cX7_startAt 12 = .ok (.putfield 32, 3) := by decide +kernel
theorem dX7_startAt_15 : decode cX7_startAt 15 = .ok (.aload_n 0, 1) := by decide +kernel
theorem dX7_startAt_16 : decode cX7_startAt 16 = .ok (.invokevirtual 36, 3) := by decide +kernel
theorem dX7_startAt_19 : decode cX7_startAt 19 = .ok (.return_, 1) := by decide +kernel
theorem dX7_beginCrawl_0 : decode cX7_beginCrawl 0 = .ok (.aload_n 0, 1) := by decide +kernel
theorem dX7_beginCrawl_1 : decode cX7_beginCrawl 1 = .ok (.getfield 21, 3) := by decide +kernel
theorem dX7_beginCrawl_4 : decode cX7_beginCrawl 4 = .ok (.aload_n 0, 1) := by decide +kernel
theorem dX7_beginCrawl_5 : decode cX7_beginCrawl 5 = .ok (.getfield 25, 3) := by decide +kernel
theorem dX7_beginCrawl_8 : decode cX7_beginCrawl 8 = .ok (.invokevirtual 39, 3) := by decide +kernel
theorem dX7_beginCrawl_11 : decode cX7_beginCrawl 11 = .ok (.return_, 1) := by decide +kernel
theorem dX7_tell_0 : decode cX7_tell 0 = .ok (.aload_n 0, 1) := by decide +kernel
theorem dX7_tell_1 : decode cX7_tell 1 = .ok (.getfield 32, 3) := by decide +kernel
theorem dX7_tell_4 : decode cX7_tell 4 = .ok (.ifCond .eq 4, 3) := by decide +kernel
theorem dX7_tell_7 : decode cX7_tell 7 = .ok (.return_, 1) := by decide +kernel
theorem dX7_tell_8 : decode cX7_tell 8 = .ok (.aload_n 0, 1) := by decide +kernel
theorem dX7_tell_9 : decode cX7_tell 9 = .ok (.getfield 29, 3) := by decide +kernel
theorem dX7_tell_12 : decode cX7_tell 12 = .ok (.ifCond .lt 12, 3) := by decide +kernel
theorem dX7_tell_15 : decode cX7_tell 15 = .ok (.aload_n 0, 1) := by decide +kernel
theorem dX7_tell_16 : decode cX7_tell 16 = .ok (.getfield 29, 3) := by decide +kernel
theorem dX7_tell_19 : decode cX7_tell 19 = .ok (.bipush 8, 2) := by decide +kernel
theorem dX7_tell_21 : decode cX7_tell 21 = .ok (.if_icmp .lt 14, 3) := by decide +kernel
theorem dX7_tell_24 : decode cX7_tell 24 = .ok (.aload_n 0, 1) := by decide +kernel
theorem dX7_tell_25 : decode cX7_tell 25 = .ok (.iconst 1, 1) := by decide +kernel
theorem dX7_tell_26 : decode cX7_tell 26 = .ok (.putfield 32, 3) := by decide +kernel
theorem dX7_tell_29 : decode cX7_tell 29 = .ok (.aload_n 0, 1) := by decide +kernel
theorem dX7_tell_30 : decode cX7_tell 30 = .ok (.iconst 0, 1) := by decide +kernel
theorem dX7_tell_31 : decode cX7_tell 31 = .ok (.putfield 29, 3) := by decide +kernel
theorem dX7_tell_34 : decode cX7_tell 34 = .ok (.return_, 1) := by decide +kernel
theorem dX7_tell_35 : decode cX7_tell 35 = .ok (.aload_n 0, 1) := by decide +kernel
theorem dX7_tell_36 : decode cX7_tell 36 = .ok (.getfield 9, 3) := by decide +kernel
theorem dX7_tell_39 : decode cX7_tell 39 = .ok (.aload_n 0, 1) := by decide +kernel
theorem dX7_tell_40 : decode cX7_tell 40 = .ok (.getfield 29, 3) := by decide +kernel
theorem dX7_tell_43 : decode cX7_tell 43 = .ok (.iload_n 1, 1) := by decide +kernel
theorem dX7_tell_44 : decode cX7_tell 44 = .ok (.iastore, 1) := by decide +kernel
theorem dX7_tell_45 : decode cX7_tell 45 = .ok (.aload_n 0, 1) := by decide +kernel
theorem dX7_tell_46 : decode cX7_tell 46 = .ok (.getfield 15, 3) := by decide +kernel
theorem dX7_tell_49 : decode cX7_tell 49 = .ok (.aload_n 0, 1) := by decide +kernel
theorem dX7_tell_50 : decode cX7_tell 50 = .ok (.getfield 29, 3) := by decide +kernel
theorem dX7_tell_53 : decode cX7_tell 53 = .ok (.iload_n 2, 1) := by decide +kernel
theorem dX7_tell_54 : decode cX7_tell 54 = .ok (.iastore, 1) := by decide +kernel
theorem dX7_tell_55 : decode cX7_tell 55 = .ok (.aload_n 0, 1) := by decide +kernel
theorem dX7_tell_56 : decode cX7_tell 56 = .ok (.dup, 1) := by decide +kernel
theorem dX7_tell_57 : decode cX7_tell 57 = .ok (.getfield 29, 3) := by decide +kernel
theorem dX7_tell_60 : decode cX7_tell 60 = .ok (.iconst 1, 1) := by decide +kernel
theorem dX7_tell_61 : decode cX7_tell 61 = .ok (.iadd, 1) := by decide +kernel
theorem dX7_tell_62 : decode cX7_tell 62 = .ok (.putfield 29, 3) := by decide +kernel
theorem dX7_tell_65 : decode cX7_tell 65 = .ok (.return_, 1) := by decide +kernel
theorem dX7_tellLastAgain_0 : decode cX7_tellLastAgain 0 = .ok (.aload_n 0, 1) := by decide +kernel
theorem dX7_tellLastAgain_1 : decode cX7_tellLastAgain 1 = .ok (.getfield 29, 3) := by decide +kernel
theorem dX7_tellLastAgain_4 : decode cX7_tellLastAgain 4 = .ok (.iconst 1, 1) := by decide +kernel
theorem dX7_tellLastAgain_5 : decode cX7_tellLastAgain 5 = .ok (.isub, 1) := by decide +kernel
theorem dX7_tellLastAgain_6 : decode cX7_tellLastAgain 6 = .ok (.istore_n 1, 1) := by decide +kernel
theorem dX7_tellLastAgain_7 : decode cX7_tellLastAgain 7 = .ok (.iload_n 1, 1) := by decide +kernel
theorem dX7_tellLastAgain_8 : decode cX7_tellLastAgain 8 = .ok (.ifCond .lt 25, 3) := by decide +kernel
theorem dX7_tellLastAgain_11 : decode cX7_tellLastAgain 11 = .ok (.iload_n 1, 1) := by decide +kernel
theorem dX7_tellLastAgain_12 : decode cX7_tellLastAgain 12 = .ok (.bipush 8, 2) := by decide +kernel
theorem dX7_tellLastAgain_14 : decode cX7_tellLastAgain 14 = .ok (.if_icmp .ge 19, 3) := by decide +kernel
theorem dX7_tellLastAgain_17 : decode cX7_tellLastAgain 17 = .ok (.aload_n 0, 1) := by decide +kernel
theorem dX7_tellLastAgain_18 : decode cX7_tellLastAgain 18 = .ok (.aload_n 0, 1) := by decide +kernel
theorem dX7_tellLastAgain_19 : decode cX7_tellLastAgain 19 = .ok (.getfield 9, 3) := by decide +kernel
theorem dX7_tellLastAgain_22 : decode cX7_tellLastAgain 22 = .ok (.iload_n 1, 1) := by decide +kernel
theorem dX7_tellLastAgain_23 : decode cX7_tellLastAgain 23 = .ok (.iaload, 1) := by decide +kernel
theorem dX7_tellLastAgain_24 : decode cX7_tellLastAgain 24 = .ok (.aload_n 0, 1) := by decide +kernel
theorem dX7_tellLastAgain_25 : decode cX7_tellLastAgain 25 = .ok (.getfield 15, 3) := by decide +kernel
theorem dX7_tellLastAgain_28 : decode cX7_tellLastAgain 28 = .ok (.iload_n 1, 1) := by decide +kernel
theorem dX7_tellLastAgain_29 : decode cX7_tellLastAgain 29 = .ok (.iaload, 1) := by decide +kernel
theorem dX7_tellLastAgain_30 : decode cX7_tellLastAgain 30 = .ok (.invokevirtual 43, 3) := by decide +kernel
theorem dX7_tellLastAgain_33 : decode cX7_tellLastAgain 33 = .ok (.return_, 1) := by decide +kernel
theorem dX7_hasNotices_0 : decode cX7_hasNotices 0 = .ok (.aload_n 0, 1) := by decide +kernel
theorem dX7_hasNotices_1 : decode cX7_hasNotices 1 = .ok (.getfield 29, 3) := by decide +kernel
theorem dX7_hasNotices_4 : decode cX7_hasNotices 4 = .ok (.ifCond .le 7, 3) := by decide +kernel
theorem dX7_hasNotices_7 : decode cX7_hasNotices 7 = .ok (.iconst 1, 1) := by decide +kernel
theorem dX7_hasNotices_8 : decode cX7_hasNotices 8 = .ok (.goto 4, 3) := by decide +kernel
theorem dX7_hasNotices_11 : decode cX7_hasNotices 11 = .ok (.iconst 0, 1) := by decide +kernel
theorem dX7_hasNotices_12 : decode cX7_hasNotices 12 = .ok (.ireturn, 1) := by decide +kernel
theorem dX7_countOrFlood_0 : decode cX7_countOrFlood 0 = .ok (.aload_n 0, 1) := by decide +kernel
theorem dX7_countOrFlood_1 : decode cX7_countOrFlood 1 = .ok (.getfield 32, 3) := by decide +kernel
theorem dX7_countOrFlood_4 : decode cX7_countOrFlood 4 = .ok (.ifCond .eq 7, 3) := by decide +kernel
theorem dX7_countOrFlood_7 : decode cX7_countOrFlood 7 = .ok (.iconst (-1), 1) := by decide +kernel
theorem dX7_countOrFlood_8 : decode cX7_countOrFlood 8 = .ok (.goto 7, 3) := by decide +kernel
theorem dX7_countOrFlood_11 : decode cX7_countOrFlood 11 = .ok (.aload_n 0, 1) := by decide +kernel
theorem dX7_countOrFlood_12 : decode cX7_countOrFlood 12 = .ok (.getfield 29, 3) := by decide +kernel
theorem dX7_countOrFlood_15 : decode cX7_countOrFlood 15 = .ok (.ireturn, 1) := by decide +kernel
theorem dX7_forgetLast_0 : decode cX7_forgetLast 0 = .ok (.aload_n 0, 1) := by decide +kernel
theorem dX7_forgetLast_1 : decode cX7_forgetLast 1 = .ok (.iconst 0, 1) := by decide +kernel
theorem dX7_forgetLast_2 : decode cX7_forgetLast 2 = .ok (.aload_n 0, 1) := by decide +kernel
theorem dX7_forgetLast_3 : decode cX7_forgetLast 3 = .ok (.getfield 29, 3) := by decide +kernel
theorem dX7_forgetLast_6 : decode cX7_forgetLast 6 = .ok (.iload_n 1, 1) := by decide +kernel
theorem dX7_forgetLast_7 : decode cX7_forgetLast 7 = .ok (.isub, 1) := by decide +kernel
theorem dX7_forgetLast_8 : decode cX7_forgetLast 8 = .ok (.invokestatic 47, 3) := by decide +kernel
theorem dX7_forgetLast_11 : decode cX7_forgetLast 11 = .ok (.putfield 29, 3) := by decide +kernel
theorem dX7_forgetLast_14 : decode cX7_forgetLast 14 = .ok (.aload_n 0, 1) := by decide +kernel
theorem dX7_forgetLast_15 : decode cX7_forgetLast 15 = .ok (.getfield 29, 3) := by decide +kernel
theorem dX7_forgetLast_18 : decode cX7_forgetLast 18 = .ok (.ireturn, 1) := by decide +kernel
theorem dX7_takeFirst_0 : decode cX7_takeFirst 0 = .ok (.iconst 1, 1) := by decide +kernel
theorem dX7_takeFirst_1 : decode cX7_takeFirst 1 = .ok (.istore_n 1, 1) := by decide +kernel
theorem dX7_takeFirst_2 : decode cX7_takeFirst 2 = .ok (.iload_n 1, 1) := by decide +kernel
theorem dX7_takeFirst_3 : decode cX7_takeFirst 3 = .ok (.aload_n 0, 1) := by decide +kernel
theorem dX7_takeFirst_4 : decode cX7_takeFirst 4 = .ok (.getfield 29, 3) := by decide +kernel
theorem dX7_takeFirst_7 : decode cX7_takeFirst 7 = .ok (.if_icmp .ge 43, 3) := by decide +kernel
theorem dX7_takeFirst_10 : decode cX7_takeFirst 10 = .ok (.iload_n 1, 1) := by decide +kernel
theorem dX7_takeFirst_11 : decode cX7_takeFirst 11 = .ok (.bipush 8, 2) := by decide +kernel
theorem dX7_takeFirst_13 : decode cX7_takeFirst 13 = .ok (.if_icmp .ge 37, 3) := by decide +kernel
theorem dX7_takeFirst_16 : decode cX7_takeFirst 16 = .ok (.aload_n 0, 1) := by decide +kernel
theorem dX7_takeFirst_17 : decode cX7_takeFirst 17 = .ok (.getfield 9, 3) := by decide +kernel
theorem dX7_takeFirst_20 : decode cX7_takeFirst 20 = .ok (.iload_n 1, 1) := by decide +kernel
theorem dX7_takeFirst_21 : decode cX7_takeFirst 21 = .ok (.iconst 1, 1) := by decide +kernel
theorem dX7_takeFirst_22 : decode cX7_takeFirst 22 = .ok (.isub, 1) := by decide +kernel
theorem dX7_takeFirst_23 : decode cX7_takeFirst 23 = .ok (.aload_n 0, 1) := by decide +kernel
theorem dX7_takeFirst_24 : decode cX7_takeFirst 24 = .ok (.getfield 9, 3) := by decide +kernel
theorem dX7_takeFirst_27 : decode cX7_takeFirst 27 = .ok (.iload_n 1, 1) := by decide +kernel
theorem dX7_takeFirst_28 : decode cX7_takeFirst 28 = .ok (.iaload, 1) := by decide +kernel
theorem dX7_takeFirst_29 : decode cX7_takeFirst 29 = .ok (.iastore, 1) := by decide +kernel
theorem dX7_takeFirst_30 : decode cX7_takeFirst 30 = .ok (.aload_n 0, 1) := by decide +kernel
theorem dX7_takeFirst_31 : decode cX7_takeFirst 31 = .ok (.getfield 15, 3) := by decide +kernel
theorem dX7_takeFirst_34 : decode cX7_takeFirst 34 = .ok (.iload_n 1, 1) := by decide +kernel
theorem dX7_takeFirst_35 : decode cX7_takeFirst 35 = .ok (.iconst 1, 1) := by decide +kernel
theorem dX7_takeFirst_36 : decode cX7_takeFirst 36 = .ok (.isub, 1) := by decide +kernel
theorem dX7_takeFirst_37 : decode cX7_takeFirst 37 = .ok (.aload_n 0, 1) := by decide +kernel
theorem dX7_takeFirst_38 : decode cX7_takeFirst 38 = .ok (.getfield 15, 3) := by decide +kernel
theorem dX7_takeFirst_41 : decode cX7_takeFirst 41 = .ok (.iload_n 1, 1) := by decide +kernel
theorem dX7_takeFirst_42 : decode cX7_takeFirst 42 = .ok (.iaload, 1) := by decide +kernel
theorem dX7_takeFirst_43 : decode cX7_takeFirst 43 = .ok (.iastore, 1) := by decide +kernel
theorem dX7_takeFirst_44 : decode cX7_takeFirst 44 = .ok (.iinc 1 1, 3) := by decide +kernel
theorem dX7_takeFirst_47 : decode cX7_takeFirst 47 = .ok (.goto (-45), 3) := by decide +kernel
theorem dX7_takeFirst_50 : decode cX7_takeFirst 50 = .ok (.aload_n 0, 1) := by decide +kernel
theorem dX7_takeFirst_51 : decode cX7_takeFirst 51 = .ok (.iconst 0, 1) := by decide +kernel
theorem dX7_takeFirst_52 : decode cX7_takeFirst 52 = .ok (.aload_n 0, 1) := by decide +kernel
theorem dX7_takeFirst_53 : decode cX7_takeFirst 53 = .ok (.getfield 29, 3) := by decide +kernel
theorem dX7_takeFirst_56 : decode cX7_takeFirst 56 = .ok (.iconst 1, 1) := by decide +kernel
theorem dX7_takeFirst_57 : decode cX7_takeFirst 57 = .ok (.isub, 1) := by decide +kernel
theorem dX7_takeFirst_58 : decode cX7_takeFirst 58 = .ok (.invokestatic 47, 3) := by decide +kernel
theorem dX7_takeFirst_61 : decode cX7_takeFirst 61 = .ok (.putfield 29, 3) := by decide +kernel
theorem dX7_takeFirst_64 : decode cX7_takeFirst 64 = .ok (.return_, 1) := by decide +kernel
theorem dX8_count_0 : decode cX8_count 0 = .ok (.aload_n 0, 1) := by decide +kernel
theorem dX8_count_1 : decode cX8_count 1 = .ok (.getfield 22, 3) := by decide +kernel
theorem dX8_count_4 : decode cX8_count 4 = .ok (.ireturn, 1) := by decide +kernel
theorem dX8_isFull_0 : decode cX8_isFull 0 = .ok (.aload_n 0, 1) := by decide +kernel
theorem dX8_isFull_1 : decode cX8_isFull 1 = .ok (.getfield 22, 3) := by decide +kernel
theorem dX8_isFull_4 : decode cX8_isFull 4 = .ok (.iconst 3, 1) := by decide +kernel
theorem dX8_isFull_5 : decode cX8_isFull 5 = .ok (.if_icmp .lt 7, 3) := by decide +kernel
theorem dX8_isFull_8 : decode cX8_isFull 8 = .ok (.iconst 1, 1) := by decide +kernel
theorem dX8_isFull_9 : decode cX8_isFull 9 = .ok (.goto 4, 3) := by decide +kernel
theorem dX8_isFull_12 : decode cX8_isFull 12 = .ok (.iconst 0, 1) := by decide +kernel
theorem dX8_isFull_13 : decode cX8_isFull 13 = .ok (.ireturn, 1) := by decide +kernel
theorem dX8_find_0 : decode cX8_find 0 = .ok (.iconst 0, 1) := by decide +kernel
theorem dX8_find_1 : decode cX8_find 1 = .ok (.istore_n 2, 1) := by decide +kernel
theorem dX8_find_2 : decode cX8_find 2 = .ok (.iload_n 2, 1) := by decide +kernel
theorem dX8_find_3 : decode cX8_find 3 = .ok (.aload_n 0, 1) := by decide +kernel
theorem dX8_find_4 : decode cX8_find 4 = .ok (.getfield 22, 3) := by decide +kernel
theorem dX8_find_7 : decode cX8_find 7 = .ok (.if_icmp .ge 35, 3) := by decide +kernel
theorem dX8_find_10 : decode cX8_find 10 = .ok (.iload_n 2, 1) := by decide +kernel
theorem dX8_find_11 : decode cX8_find 11 = .ok (.iconst 3, 1) := by decide +kernel
theorem dX8_find_12 : decode cX8_find 12 = .ok (.if_icmp .ge 30, 3) := by decide +kernel
theorem dX8_find_15 : decode cX8_find 15 = .ok (.aload_n 0, 1) := by decide +kernel
theorem dX8_find_16 : decode cX8_find 16 = .ok (.getfield 11, 3) := by decide +kernel
theorem dX8_find_19 : decode cX8_find 19 = .ok (.iload_n 2, 1) := by decide +kernel
theorem dX8_find_20 : decode cX8_find 20 = .ok (.aaload, 1) := by decide +kernel
theorem dX8_find_21 : decode cX8_find 21 = .ok (.astore_n 3, 1) := by decide +kernel
theorem dX8_find_22 : decode cX8_find 22 = .ok (.aload_n 3, 1) := by decide +kernel
theorem dX8_find_23 : decode cX8_find 23 = .ok (.ifnull 13, 3) := by decide +kernel
theorem dX8_find_26 : decode cX8_find 26 = .ok (.aload_n 3, 1) := by decide +kernel
theorem dX8_find_27 : decode cX8_find 27 = .ok (.getfield 26, 3) := by decide +kernel
theorem dX8_find_30 : decode cX8_find 30 = .ok (.iload_n 1, 1) := by decide +kernel
theorem dX8_find_31 : decode cX8_find 31 = .ok (.if_icmp .ne 5, 3) := by decide +kernel
theorem dX8_find_34 : decode cX8_find 34 = .ok (.aload_n 3, 1) := by decide +kernel
theorem dX8_find_35 : decode cX8_find 35 = .ok (.areturn, 1) := by decide +kernel
theorem dX8_find_36 : decode cX8_find 36 = .ok (.iinc 2 1, 3) := by decide +kernel
theorem dX8_find_39 : decode cX8_find 39 = .ok (.goto (-37), 3) := by decide +kernel
theorem dX8_find_42 : decode cX8_find 42 = .ok (.aconst_null, 1) := by decide +kernel
theorem dX8_find_43 : decode cX8_find 43 = .ok (.areturn, 1) := by decide +kernel
theorem dX8_holding_0 : decode cX8_holding 0 = .ok (.iload_n 1, 1) := by decide +kernel
theorem dX8_holding_1 : decode cX8_holding 1 = .ok (.istore_n 2, 1) := by decide +kernel
theorem dX8_holding_2 : decode cX8_holding 2 = .ok (.iconst 0, 1) := by decide +kernel
theorem dX8_holding_3 : decode cX8_holding 3 = .ok (.istore_n 3, 1) := by decide +kernel
theorem dX8_holding_4 : decode cX8_holding 4 = .ok (.iload_n 3, 1) := by decide +kernel
theorem dX8_holding_5 : decode cX8_holding 5 = .ok (.bipush 60, 2) := by decide +kernel
theorem dX8_holding_7 : decode cX8_holding 7 = .ok (.if_icmp .ge 38, 3) := by decide +kernel
theorem dX8_holding_10 : decode cX8_holding 10 = .ok (.iload_n 2, 1) := by decide +kernel
theorem dX8_holding_11 : decode cX8_holding 11 = .ok (.iconst (-1), 1) := by decide +kernel
theorem dX8_holding_12 : decode cX8_holding 12 = .ok (.if_icmp .eq 33, 3) := by decide +kernel
theorem dX8_holding_15 : decode cX8_holding 15 = .ok (.aload_n 0, 1) := by decide +kernel
theorem dX8_holding_16 : decode cX8_holding 16 = .ok (.iload_n 2, 1) := by decide +kernel
theorem dX8_holding_17 : decode cX8_holding 17 = .ok (.invokevirtual 29, 3) := by decide +kernel
theorem dX8_holding_20 : decode cX8_holding 20 = .ok (.astore 4, 2) := by decide +kernel
theorem dX8_holding_22 : decode cX8_holding 22 = .ok (.aload 4, 2) := by decide +kernel
theorem dX8_holding_24 : decode cX8_holding 24 = .ok (.ifnull 6, 3) := by decide +kernel
theorem dX8_holding_27 : decode cX8_holding 27 = .ok (.aload 4, 2) := by decide +kernel
theorem dX8_holding_29 : decode cX8_holding 29 = .ok (.areturn, 1) := by decide +kernel
theorem dX8_holding_30 : decode cX8_holding 30 = .ok (.aload_n 0, 1) := by decide +kernel
theorem dX8_holding_31 : decode cX8_holding 31 = .ok (.getfield 17, 3) := by decide +kernel
theorem dX8_holding_34 : decode cX8_holding 34 = .ok (.iload_n 2, 1) := by decide +kernel
theorem dX8_holding_35 : decode cX8_holding 35 = .ok (.invokevirtual 33, 3) := by decide +kernel
theorem dX8_holding_38 : decode cX8_holding 38 = .ok (.istore_n 2, 1) := by decide +kernel
theorem dX8_holding_39 : decode cX8_holding 39 = .ok (.iinc 3 1, 3) := by decide +kernel
theorem dX8_holding_42 : decode cX8_holding 42 = .ok (.goto (-38), 3) := by decide +kernel
theorem dX8_holding_45 : decode cX8_holding 45 = .ok (.aconst_null, 1) := by decide +kernel
theorem dX8_holding_46 : decode cX8_holding 46 = .ok (.areturn, 1) := by decide +kernel
theorem dX8_above_0 : decode cX8_above 0 = .ok (.aload_n 0, 1) := by decide +kernel
theorem dX8_above_1 : decode cX8_above 1 = .ok (.aload_n 0, 1) := by decide +kernel
theorem dX8_above_2 : decode cX8_above 2 = .ok (.getfield 17, 3) := by decide +kernel
theorem dX8_above_5 : decode cX8_above 5 = .ok (.iload_n 1, 1) := by decide +kernel
theorem dX8_above_6 : decode cX8_above 6 = .ok (.invokevirtual 33, 3) := by decide +kernel
theorem dX8_above_9 : decode cX8_above 9 = .ok (.invokevirtual 39, 3) := by decide +kernel
theorem dX8_above_12 : decode cX8_above 12 = .ok (.areturn, 1) := by decide +kernel
theorem dX8_hasAtOrBelow_0 : decode cX8_hasAtOrBelow 0 = .ok (.iconst 0, 1) := by decide +kernel
theorem dX8_hasAtOrBelow_1 : decode cX8_hasAtOrBelow 1 = .ok (.istore_n 2, 1) := by decide +kernel
theorem dX8_hasAtOrBelow_2 : decode cX8_hasAtOrBelow 2 = .ok (.iload_n 2, 1) := by decide +kernel
theorem dX8_hasAtOrBelow_3 : decode cX8_hasAtOrBelow 3 = .ok (.aload_n 0, 1) := by decide +kernel
theorem dX8_hasAtOrBelow_4 : decode cX8_hasAtOrBelow 4 = .ok (.getfield 22, 3) := by decide +kernel
theorem dX8_hasAtOrBelow_7 : decode cX8_hasAtOrBelow 7 = .ok (.if_icmp .ge 50, 3) := by decide +kernel
theorem dX8_hasAtOrBelow_10 : decode cX8_hasAtOrBelow 10 = .ok (.iload_n 2, 1) := by decide +kernel
theorem dX8_hasAtOrBelow_11 : decode cX8_hasAtOrBelow 11 = .ok (.iconst 3, 1) := by decide +kernel
theorem dX8_hasAtOrBelow_12 : decode cX8_hasAtOrBelow 12 = .ok (.if_icmp .ge 45, 3) := by decide +kernel
theorem dX8_hasAtOrBelow_15 : decode cX8_hasAtOrBelow 15 = .ok (.aload_n 0, 1) := by decide +kernel
theorem dX8_hasAtOrBelow_16 : decode cX8_hasAtOrBelow 16 = .ok (.getfield 11, 3) := by decide +kernel
theorem dX8_hasAtOrBelow_19 : decode cX8_hasAtOrBelow 19 = .ok (.iload_n 2, 1) := by decide +kernel
theorem dX8_hasAtOrBelow_20 : decode cX8_hasAtOrBelow 20 = .ok (.aaload, 1) := by decide +kernel
theorem dX8_hasAtOrBelow_21 : decode cX8_hasAtOrBelow 21 = .ok (.astore_n 3, 1) := by decide +kernel
theorem dX8_hasAtOrBelow_22 : decode cX8_hasAtOrBelow 22 = .ok (.aload_n 3, 1) := by decide +kernel
theorem dX8_hasAtOrBelow_23 : decode cX8_hasAtOrBelow 23 = .ok (.ifnull 28, 3) := by decide +kernel
theorem dX8_hasAtOrBelow_26 : decode cX8_hasAtOrBelow 26 = .ok (.aload_n 3, 1) := by decide +kernel
theorem dX8_hasAtOrBelow_27 : decode cX8_hasAtOrBelow 27 = .ok (.getfield 26, 3) := by decide +kernel
theorem dX8_hasAtOrBelow_30 : decode cX8_hasAtOrBelow 30 = .ok (.iload_n 1, 1) := by decide +kernel
theorem dX8_hasAtOrBelow_31 : decode cX8_hasAtOrBelow 31 = .ok (.if_icmp .eq 18, 3) := by decide +kernel
theorem dX8_hasAtOrBelow_34 : decode cX8_hasAtOrBelow 34 = .ok (.aload_n 0, 1) := by decide +kernel
theorem dX8_hasAtOrBelow_35 : decode cX8_hasAtOrBelow 35 = .ok (.getfield 17, 3) := by decide +kernel
theorem dX8_hasAtOrBelow_38 : decode cX8_hasAtOrBelow 38 = .ok (.aload_n 3, 1) := by decide +kernel
theorem dX8_hasAtOrBelow_39 : decode cX8_hasAtOrBelow 39 = .ok (.getfield 26, 3) := by decide +kernel
theorem dX8_hasAtOrBelow_42 : decode cX8_hasAtOrBelow 42 = .ok (.iload_n 1, 1) := by decide +kernel
theorem dX8_hasAtOrBelow_43 : decode cX8_hasAtOrBelow 43 = .ok (.invokevirtual 42, 3) := by decide +kernel
theorem dX8_hasAtOrBelow_46 : decode cX8_hasAtOrBelow 46 = .ok (.ifCond .eq 5, 3) := by decide +kernel
theorem dX8_hasAtOrBelow_49 : decode cX8_hasAtOrBelow 49 = .ok (.iconst 1, 1) := by decide +kernel
theorem dX8_hasAtOrBelow_50 : decode cX8_hasAtOrBelow 50 = .ok (.ireturn, 1) := by decide +kernel
theorem dX8_hasAtOrBelow_51 : decode cX8_hasAtOrBelow 51 = .ok (.iinc 2 1, 3) := by decide +kernel
theorem dX8_hasAtOrBelow_54 : decode cX8_hasAtOrBelow 54 = .ok (.goto (-52), 3) := by decide +kernel
theorem dX8_hasAtOrBelow_57 : decode cX8_hasAtOrBelow 57 = .ok (.iconst 0, 1) := by decide +kernel
theorem dX8_hasAtOrBelow_58 : decode cX8_hasAtOrBelow 58 = .ok (.ireturn, 1) := by decide +kernel
theorem dX8_firstNoisy_0 : decode cX8_firstNoisy 0 = .ok (.iconst 0, 1) := by decide +kernel
theorem dX8_firstNoisy_1 : decode cX8_firstNoisy 1 = .ok (.istore_n 1, 1) := by decide +kernel
theorem dX8_firstNoisy_2 : decode cX8_firstNoisy 2 = .ok (.iload_n 1, 1) := by decide +kernel
theorem dX8_firstNoisy_3 : decode cX8_firstNoisy 3 = .ok (.aload_n 0, 1) := by decide +kernel
theorem dX8_firstNoisy_4 : decode cX8_firstNoisy 4 = .ok (.getfield 22, 3) := by decide +kernel
theorem dX8_firstNoisy_7 : decode cX8_firstNoisy 7 = .ok (.if_icmp .ge 41, 3) := by decide +kernel
theorem dX8_firstNoisy_10 : decode cX8_firstNoisy 10 = .ok (.iload_n 1, 1) := by decide +kernel
theorem dX8_firstNoisy_11 : decode cX8_firstNoisy 11 = .ok (.iconst 3, 1) := by decide +kernel
theorem dX8_firstNoisy_12 : decode cX8_firstNoisy 12 = .ok (.if_icmp .ge 36, 3) := by decide +kernel
theorem dX8_firstNoisy_15 : decode cX8_firstNoisy 15 = .ok (.aload_n 0, 1) := by decide +kernel
theorem dX8_firstNoisy_16 : decode cX8_firstNoisy 16 = .ok (.getfield 11, 3) := by decide +kernel
theorem dX8_firstNoisy_19 : decode cX8_firstNoisy 19 = .ok (.iload_n 1, 1) := by decide +kernel
theorem dX8_firstNoisy_20 : decode cX8_firstNoisy 20 = .ok (.aaload, 1) := by decide +kernel
theorem dX8_firstNoisy_21 : decode cX8_firstNoisy 21 = .ok (.astore_n 2, 1) := by decide +kernel
theorem dX8_firstNoisy_22 : decode cX8_firstNoisy 22 = .ok (.aload_n 2, 1) := by decide +kernel
theorem dX8_firstNoisy_23 : decode cX8_firstNoisy 23 = .ok (.ifnull 19, 3) := by decide +kernel
theorem dX8_firstNoisy_26 : decode cX8_firstNoisy 26 = .ok (.aload_n 2, 1) := by decide +kernel
theorem dX8_firstNoisy_27 : decode cX8_firstNoisy 27 = .ok (.getfield 46, 3) := by decide +kernel
theorem dX8_firstNoisy_30 : decode cX8_firstNoisy 30 = .ok (.ifCond .ne 10, 3) := by decide +kernel
theorem dX8_firstNoisy_33 : decode cX8_firstNoisy 33 = .ok (.aload_n 2, 1) := by decide +kernel
theorem dX8_firstNoisy_34 : decode cX8_firstNoisy 34 = .ok (.invokevirtual 50, 3) := by decide +kernel
theorem dX8_firstNoisy_37 : decode cX8_firstNoisy 37 = .ok (.ifCond .eq 5, 3) := by decide +kernel
theorem dX8_firstNoisy_40 : decode cX8_firstNoisy 40 = .ok (.aload_n 2, 1) := by decide +kernel
theorem dX8_firstNoisy_41 : decode cX8_firstNoisy 41 = .ok (.areturn, 1) := by decide +kernel
theorem dX8_firstNoisy_42 : decode cX8_firstNoisy 42 = .ok (.iinc 1 1, 3) := by decide +kernel
theorem dX8_firstNoisy_45 : decode cX8_firstNoisy 45 = .ok (.goto (-43), 3) := by decide +kernel
theorem dX8_firstNoisy_48 : decode cX8_firstNoisy 48 = .ok (.aconst_null, 1) := by decide +kernel
theorem dX8_firstNoisy_49 : decode cX8_firstNoisy 49 = .ok (.areturn, 1) := by decide +kernel
theorem dX8_firstCrawled_0 : decode cX8_firstCrawled 0 = .ok (.iconst 0, 1) := by decide +kernel
theorem dX8_firstCrawled_1 : decode cX8_firstCrawled 1 = .ok (.istore_n 1, 1) := by decide +kernel
theorem dX8_firstCrawled_2 : decode cX8_firstCrawled 2 = .ok (.iload_n 1, 1) := by decide +kernel
theorem dX8_firstCrawled_3 : decode cX8_firstCrawled 3 = .ok (.aload_n 0, 1) := by decide +kernel
theorem dX8_firstCrawled_4 : decode cX8_firstCrawled 4 = .ok (.getfield 22, 3) := by decide +kernel
theorem dX8_firstCrawled_7 : decode cX8_firstCrawled 7 = .ok (.if_icmp .ge 37, 3) := by decide +kernel
theorem dX8_firstCrawled_10 : decode cX8_firstCrawled 10 = .ok (.iload_n 1, 1) := by decide +kernel
theorem dX8_firstCrawled_11 : decode cX8_firstCrawled 11 = .ok (.iconst 3, 1) := by decide +kernel
theorem dX8_firstCrawled_12 : decode cX8_firstCrawled 12 = .ok (.if_icmp .ge 32, 3) := by decide +kernel
theorem dX8_firstCrawled_15 : decode cX8_firstCrawled 15 = .ok (.aload_n 0, 1) := by decide +kernel
theorem dX8_firstCrawled_16 : decode cX8_firstCrawled 16 = .ok (.getfield 11, 3) := by decide +kernel
theorem dX8_firstCrawled_19 : decode cX8_firstCrawled 19 = .ok (.iload_n 1, 1) := by decide +kernel
theorem dX8_firstCrawled_20 : decode cX8_firstCrawled 20 = .ok (.aaload, 1) := by decide +kernel
theorem dX8_firstCrawled_21 : decode cX8_firstCrawled 21 = .ok (.astore_n 2, 1) := by decide +kernel
theorem dX8_firstCrawled_22 : decode cX8_firstCrawled 22 = .ok (.aload_n 2, 1) := by decide +kernel
theorem dX8_firstCrawled_23 : decode cX8_firstCrawled 23 = .ok (.ifnull 15, 3) := by decide +kernel
theorem dX8_firstCrawled_26 : decode cX8_firstCrawled 26 = .ok (.aload_n 2, 1) := by decide +kernel
theorem dX8_firstCrawled_27 : decode cX8_firstCrawled 27 = .ok (.getfield 54, 3) := by decide +kernel
theorem dX8_firstCrawled_30 : decode cX8_firstCrawled 30 = .ok (.getfield 58, 3) := by decide +kernel
theorem dX8_firstCrawled_33 : decode cX8_firstCrawled 33 = .ok (.ifCond .eq 5, 3) := by decide +kernel
theorem dX8_firstCrawled_36 : decode cX8_firstCrawled 36 = .ok (.aload_n 2, 1) := by decide +kernel
theorem dX8_firstCrawled_37 : decode cX8_firstCrawled 37 = .ok (.areturn, 1) := by decide +kernel
theorem dX8_firstCrawled_38 : decode cX8_firstCrawled 38 = .ok (.iinc 1 1, 3) := by decide +kernel
theorem dX8_firstCrawled_41 : decode cX8_firstCrawled 41 = .ok (.goto (-39), 3) := by decide +kernel
theorem dX8_firstCrawled_44 : decode cX8_firstCrawled 44 = .ok (.aconst_null, 1) := by decide +kernel
theorem dX8_firstCrawled_45 : decode cX8_firstCrawled 45 = .ok (.areturn, 1) := by decide +kernel
theorem dX8_countCrawls_0 : decode cX8_countCrawls 0 = .ok (.iconst 0, 1) := by decide +kernel
theorem dX8_countCrawls_1 : decode cX8_countCrawls 1 = .ok (.istore_n 1, 1) := by decide +kernel
theorem dX8_countCrawls_2 : decode cX8_countCrawls 2 = .ok (.iconst 0, 1) := by decide +kernel
theorem dX8_countCrawls_3 : decode cX8_countCrawls 3 = .ok (.istore_n 2, 1) := by decide +kernel
theorem dX8_countCrawls_4 : decode cX8_countCrawls 4 = .ok (.iload_n 2, 1) := by decide +kernel
theorem dX8_countCrawls_5 : decode cX8_countCrawls 5 = .ok (.aload_n 0, 1) := by decide +kernel
theorem dX8_countCrawls_6 : decode cX8_countCrawls 6 = .ok (.getfield 22, 3) := by decide +kernel
theorem dX8_countCrawls_9 : decode cX8_countCrawls 9 = .ok (.if_icmp .ge 38, 3) := by decide +kernel
theorem dX8_countCrawls_12 : decode cX8_countCrawls 12 = .ok (.iload_n 2, 1) := by decide +kernel
theorem dX8_countCrawls_13 : decode cX8_countCrawls 13 = .ok (.iconst 3, 1) := by decide +kernel
theorem dX8_countCrawls_14 : decode cX8_countCrawls 14 = .ok (.if_icmp .ge 33, 3) := by decide +kernel
theorem dX8_countCrawls_17 : decode cX8_countCrawls 17 = .ok (.aload_n 0, 1) := by decide +kernel
theorem dX8_countCrawls_18 : decode cX8_countCrawls 18 = .ok (.getfield 11, 3) := by decide +kernel
theorem dX8_countCrawls_21 : decode cX8_countCrawls 21 = .ok (.iload_n 2, 1) := by decide +kernel
theorem dX8_countCrawls_22 : decode cX8_countCrawls 22 = .ok (.aaload, 1) := by decide +kernel
theorem dX8_countCrawls_23 : decode cX8_countCrawls 23 = .ok (.astore_n 3, 1) := by decide +kernel
theorem dX8_countCrawls_24 : decode cX8_countCrawls 24 = .ok (.aload_n 3, 1) := by decide +kernel
theorem dX8_countCrawls_25 : decode cX8_countCrawls 25 = .ok (.ifnull 16, 3) := by decide +kernel
theorem dX8_countCrawls_28 : decode cX8_countCrawls 28 = .ok (.aload_n 3, 1) := by decide +kernel
theorem dX8_countCrawls_29 : decode cX8_countCrawls 29 = .ok (.getfield 54, 3) := by decide +kernel
theorem dX8_countCrawls_32 : decode cX8_countCrawls 32 = .ok (.getfield 58, 3) := by decide +kernel
theorem dX8_countCrawls_35 : decode cX8_countCrawls 35 = .ok (.ifCond .eq 6, 3) := by decide +kernel
theorem dX8_countCrawls_38 : decode cX8_countCrawls 38 = .ok (.iinc 1 1, 3) := by decide +kernel
theorem dX8_countCrawls_41 : decode cX8_countCrawls 41 = .ok (.iinc 2 1, 3) := by decide +kernel
theorem dX8_countCrawls_44 : decode cX8_countCrawls 44 = .ok (.goto (-40), 3) := by decide +kernel
theorem dX8_countCrawls_47 : decode cX8_countCrawls 47 = .ok (.iload_n 1, 1) := by decide +kernel
theorem dX8_countCrawls_48 : decode cX8_countCrawls 48 = .ok (.ireturn, 1) := by decide +kernel
theorem dX8_tellAbove_0 : decode cX8_tellAbove 0 = .ok (.aload_n 0, 1) := by decide +kernel
theorem dX8_tellAbove_1 : decode cX8_tellAbove 1 = .ok (.iload_n 1, 1) := by decide +kernel
theorem dX8_tellAbove_2 : decode cX8_tellAbove 2 = .ok (.invokevirtual 63, 3) := by decide +kernel
theorem dX8_tellAbove_5 : decode cX8_tellAbove 5 = .ok (.astore_n 3, 1) := by decide +kernel
theorem dX8_tellAbove_6 : decode cX8_tellAbove 6 = .ok (.aload_n 3, 1) := by decide +kernel
theorem dX8_tellAbove_7 : decode cX8_tellAbove 7 = .ok (.ifnull 9, 3) := by decide +kernel
theorem dX8_tellAbove_10 : decode cX8_tellAbove 10 = .ok (.aload_n 3, 1) := by decide +kernel
theorem dX8_tellAbove_11 : decode cX8_tellAbove 11 = .ok (.iload_n 2, 1) := by decide +kernel
theorem dX8_tellAbove_12 : decode cX8_tellAbove 12 = .ok (.iload_n 1, 1) := by decide +kernel
theorem dX8_tellAbove_13 : decode cX8_tellAbove 13 = .ok (.invokevirtual 66, 3) := by decide +kernel
theorem dX8_tellAbove_16 : decode cX8_tellAbove 16 = .ok (.return_, 1) := by decide +kernel
theorem dX8_add_0 : decode cX8_add 0 = .ok (.aload_n 0, 1) := by decide +kernel
theorem dX8_add_1 : decode cX8_add 1 = .ok (.getfield 22, 3) := by decide +kernel
theorem dX8_add_4 : decode cX8_add 4 = .ok (.ifCond .lt 11, 3) := by decide +kernel
theorem dX8_add_7 : decode cX8_add 7 = .ok (.aload_n 0, 1) := by decide +kernel
theorem dX8_add_8 : decode cX8_add 8 = .ok (.getfield 22, 3) := by decide +kernel
theorem dX8_add_11 : decode cX8_add 11 = .ok (.iconst 3, 1) := by decide +kernel
theorem dX8_add_12 : decode cX8_add 12 = .ok (.if_icmp .lt 4, 3) := by decide +kernel
theorem dX8_add_15 : decode cX8_add 15 = .ok (.return_, 1) := by decide +kernel
theorem dX8_add_16 : decode cX8_add 16 = .ok (.aload_n 0, 1) := by decide +kernel
theorem dX8_add_17 : decode cX8_add 17 = .ok (.getfield 11, 3) := by decide +kernel
theorem dX8_add_20 : decode cX8_add 20 = .ok (.aload_n 0, 1) := by decide +kernel
theorem dX8_add_21 : decode cX8_add 21 = .ok (.getfield 22, 3) := by decide +kernel
theorem dX8_add_24 : decode cX8_add 24 = .ok (.aaload, 1) := by decide +kernel
theorem dX8_add_25 : decode cX8_add 25 = .ok (.astore_n 2, 1) := by decide +kernel
theorem dX8_add_26 : decode cX8_add 26 = .ok (.aload_n 2, 1) := by decide +kernel
theorem dX8_add_27 : decode cX8_add 27 = .ok (.ifnull 18, 3) := by decide +kernel
theorem dX8_add_30 : decode cX8_add 30 = .ok (.aload_n 2, 1) := by decide +kernel
theorem dX8_add_31 : decode cX8_add 31 = .ok (.iload_n 1, 1) := by decide +kernel
theorem dX8_add_32 : decode cX8_add 32 = .ok (.invokevirtual 70, 3) := by decide +kernel
theorem dX8_add_35 : decode cX8_add 35 = .ok (.aload_n 0, 1) := by decide +kernel
theorem dX8_add_36 : decode cX8_add 36 = .ok (.dup, 1) := by decide +kernel
theorem dX8_add_37 : decode cX8_add 37 = .ok (.getfield 22, 3) := by decide +kernel
theorem dX8_add_40 : decode cX8_add 40 = .ok (.iconst 1, 1) := by decide +kernel
theorem dX8_add_41 : decode cX8_add 41 = .ok (.iadd, 1) := by decide +kernel
theorem dX8_add_42 : decode cX8_add 42 = .ok (.putfield 22, 3) := by decide +kernel
theorem dX8_add_45 : decode cX8_add 45 = .ok (.return_, 1) := by decide +kernel
theorem dX8_end_0 : decode cX8_end 0 = .ok (.aload_n 0, 1) := by decide +kernel
theorem dX8_end_1 : decode cX8_end 1 = .ok (.iload_n 1, 1) := by decide +kernel
theorem dX8_end_2 : decode cX8_end 2 = .ok (.invokevirtual 29, 3) := by decide +kernel
theorem dX8_end_5 : decode cX8_end 5 = .ok (.astore_n 2, 1) := by decide +kernel
theorem dX8_end_6 : decode cX8_end 6 = .ok (.aload_n 2, 1) := by decide +kernel
theorem dX8_end_7 : decode cX8_end 7 = .ok (.ifnonnull 4, 3) := by decide +kernel
theorem dX8_end_10 : decode cX8_end 10 = .ok (.return_, 1) := by decide +kernel
theorem dX8_end_11 : decode cX8_end 11 = .ok (.iconst 0, 1) := by decide +kernel
theorem dX8_end_12 : decode cX8_end 12 = .ok (.istore_n 3, 1) := by decide +kernel
theorem dX8_end_13 : decode cX8_end 13 = .ok (.iconst 0, 1) := by decide +kernel
theorem dX8_end_14 : decode cX8_end 14 = .ok (.istore 4, 2) := by decide +kernel
theorem dX8_end_16 : decode cX8_end 16 = .ok (.iload 4, 2) := by decide +kernel
theorem dX8_end_18 : decode cX8_end 18 = .ok (.aload_n 0, 1) := by decide +kernel
theorem dX8_end_19 : decode cX8_end 19 = .ok (.getfield 22, 3) := by decide +kernel
theorem dX8_end_22 : decode cX8_end 22 = .ok (.if_icmp .ge 46, 3) := by decide +kernel
theorem dX8_end_25 : decode cX8_end 25 = .ok (.iload 4, 2) := by decide +kernel
theorem dX8_end_27 : decode cX8_end 27 = .ok (.iconst 3, 1) := by decide +kernel
theorem dX8_end_28 : decode cX8_end 28 = .ok (.if_icmp .ge 40, 3) := by decide +kernel
theorem dX8_end_31 : decode cX8_end 31 = .ok (.aload_n 0, 1) := by decide +kernel
theorem dX8_end_32 : decode cX8_end 32 = .ok (.getfield 11, 3) := by decide +kernel
theorem dX8_end_35 : decode cX8_end 35 = .ok (.iload 4, 2) := by decide +kernel
theorem dX8_end_37 : decode cX8_end 37 = .ok (.aaload, 1) := by decide +kernel
theorem dX8_end_38 : decode cX8_end 38 = .ok (.astore 5, 2) := by decide +kernel
theorem dX8_end_40 : decode cX8_end 40 = .ok (.aload 5, 2) := by decide +kernel
theorem dX8_end_42 : decode cX8_end 42 = .ok (.aload_n 2, 1) := by decide +kernel
theorem dX8_end_43 : decode cX8_end 43 = .ok (.if_acmp .eq 19, 3) := by decide +kernel
theorem dX8_end_46 : decode cX8_end 46 = .ok (.iload_n 3, 1) := by decide +kernel
theorem dX8_end_47 : decode cX8_end 47 = .ok (.iconst 3, 1) := by decide +kernel
theorem dX8_end_48 : decode cX8_end 48 = .ok (.if_icmp .ge 14, 3) := by decide +kernel
theorem dX8_end_51 : decode cX8_end 51 = .ok (.aload_n 0, 1) := by decide +kernel
theorem dX8_end_52 : decode cX8_end 52 = .ok (.getfield 11, 3) := by decide +kernel
theorem dX8_end_55 : decode cX8_end 55 = .ok (.iload_n 3, 1) := by decide +kernel
theorem dX8_end_56 : decode cX8_end 56 = .ok (.aload 5, 2) := by decide +kernel
theorem dX8_end_58 : decode cX8_end 58 = .ok (.aastore, 1) := by decide +kernel
theorem dX8_end_59 : decode cX8_end 59 = .ok (.iinc 3 1, 3) := by decide +kernel
theorem dX8_end_62 : decode cX8_end 62 = .ok (.iinc 4 1, 3) := by decide +kernel
theorem dX8_end_65 : decode cX8_end 65 = .ok (.goto (-49), 3) := by decide +kernel
theorem dX8_end_68 : decode cX8_end 68 = .ok (.iload_n 3, 1) := by decide +kernel
theorem dX8_end_69 : decode cX8_end 69 = .ok (.iconst 3, 1) := by decide +kernel
theorem dX8_end_70 : decode cX8_end 70 = .ok (.if_icmp .ge 10, 3) := by decide +kernel
theorem dX8_end_73 : decode cX8_end 73 = .ok (.aload_n 0, 1) := by decide +kernel
theorem dX8_end_74 : decode cX8_end 74 = .ok (.getfield 11, 3) := by decide +kernel
theorem dX8_end_77 : decode cX8_end 77 = .ok (.iload_n 3, 1) := by decide +kernel
theorem dX8_end_78 : decode cX8_end 78 = .ok (.aload_n 2, 1) := by decide +kernel
theorem dX8_end_79 : decode cX8_end 79 = .ok (.aastore, 1) := by decide +kernel
theorem dX8_end_80 : decode cX8_end 80 = .ok (.aload_n 0, 1) := by decide +kernel
theorem dX8_end_81 : decode cX8_end 81 = .ok (.iload_n 3, 1) := by decide +kernel
theorem dX8_end_82 : decode cX8_end 82 = .ok (.putfield 22, 3) := by decide +kernel
theorem dX8_end_85 : decode cX8_end 85 = .ok (.return_, 1) := by decide +kernel
theorem dX8_endGone_0 : decode cX8_endGone 0 = .ok (.iconst 0, 1) := by decide +kernel
theorem dX8_endGone_1 : decode cX8_endGone 1 = .ok (.istore_n 1, 1) := by decide +kernel
theorem dX8_endGone_2 : decode cX8_endGone 2 = .ok (.iconst 2, 1) := by decide +kernel
theorem dX8_endGone_3 : decode cX8_endGone 3 = .ok (.istore_n 2, 1) := by decide +kernel
theorem dX8_endGone_4 : decode cX8_endGone 4 = .ok (.iload_n 2, 1) := by decide +kernel
theorem dX8_endGone_5 : decode cX8_endGone 5 = .ok (.ifCond .lt 52, 3) := by decide +kernel
theorem dX8_endGone_8 : decode cX8_endGone 8 = .ok (.aload_n 0, 1) := by decide +kernel
theorem dX8_endGone_9 : decode cX8_endGone 9 = .ok (.getfield 11, 3) := by decide +kernel
theorem dX8_endGone_12 : decode cX8_endGone 12 = .ok (.iload_n 2, 1) := by decide +kernel
theorem dX8_endGone_13 : decode cX8_endGone 13 = .ok (.aaload, 1) := by decide +kernel
theorem dX8_endGone_14 : decode cX8_endGone 14 = .ok (.astore_n 3, 1) := by decide +kernel
theorem dX8_endGone_15 : decode cX8_endGone 15 = .ok (.iload_n 2, 1) := by decide +kernel
theorem dX8_endGone_16 : decode cX8_endGone 16 = .ok (.aload_n 0, 1) := by decide +kernel
theorem dX8_endGone_17 : decode cX8_endGone 17 = .ok (.getfield 22, 3) := by decide +kernel
theorem dX8_endGone_20 : decode cX8_endGone 20 = .ok (.if_icmp .ge 31, 3) := by decide +kernel
theorem dX8_endGone_23 : decode cX8_endGone 23 = .ok (.aload_n 3, 1) := by decide +kernel
theorem dX8_endGone_24 : decode cX8_endGone 24 = .ok (.ifnull 27, 3) := by decide +kernel
theorem dX8_endGone_27 : decode cX8_endGone 27 = .ok (.aload_n 0, 1) := by decide +kernel
theorem dX8_endGone_28 : decode cX8_endGone 28 = .ok (.getfield 17, 3) := by decide +kernel
theorem dX8_endGone_31 : decode cX8_endGone 31 = .ok (.aload_n 3, 1) := by decide +kernel
theorem dX8_endGone_32 : decode cX8_endGone 32 = .ok (.getfield 26, 3) := by decide +kernel
theorem dX8_endGone_35 : decode cX8_endGone 35 = .ok (.invokevirtual 74, 3) := by decide +kernel
theorem dX8_endGone_38 : decode cX8_endGone 38 = .ok (.ifCond .ne 13, 3) := by decide +kernel
theorem dX8_endGone_41 : decode cX8_endGone 41 = .ok (.aload_n 0, 1) := by decide +kernel
theorem dX8_endGone_42 : decode cX8_endGone 42 = .ok (.aload_n 3, 1) := by decide +kernel
theorem dX8_endGone_43 : decode cX8_endGone 43 = .ok (.getfield 26, 3) := by decide +kernel
theorem dX8_endGone_46 : decode cX8_endGone 46 = .ok (.invokevirtual 78, 3) := by decide +kernel
theorem dX8_endGone_49 : decode cX8_endGone 49 = .ok (.iconst 1, 1) := by decide +kernel
theorem dX8_endGone_50 : decode cX8_endGone 50 = .ok (.istore_n 1, 1) := by decide +kernel
theorem dX8_endGone_51 : decode cX8_endGone 51 = .ok (.iinc 2 (-1), 3) := by decide +kernel
theorem dX8_endGone_54 : decode cX8_endGone 54 = .ok (.goto (-50), 3) := by decide +kernel
theorem dX8_endGone_57 : decode cX8_endGone 57 = .ok (.iload_n 1, 1) := by decide +kernel
theorem dX8_endGone_58 : decode cX8_endGone 58 = .ok (.ireturn, 1) := by decide +kernel
theorem dX9_wasMade_0 : decode cX9_wasMade 0 = .ok (.iload_n 1, 1) := by decide +kernel
theorem dX9_wasMade_1 : decode cX9_wasMade 1 = .ok (.ifCond .lt 15, 3) := by decide +kernel
theorem dX9_wasMade_4 : decode cX9_wasMade 4 = .ok (.iload_n 1, 1) := by decide +kernel
theorem dX9_wasMade_5 : decode cX9_wasMade 5 = .ok (.aload_n 0, 1) := by decide +kernel
theorem dX9_wasMade_6 : decode cX9_wasMade 6 = .ok (.getfield 43, 3) := by decide +kernel
theorem dX9_wasMade_9 : decode cX9_wasMade 9 = .ok (.if_icmp .ge 7, 3) := by decide +kernel
theorem dX9_wasMade_12 : decode cX9_wasMade 12 = .ok (.iconst 1, 1) := by decide +kernel
theorem dX9_wasMade_13 : decode cX9_wasMade 13 = .ok (.goto 4, 3) := by decide +kernel
theorem dX9_wasMade_16 : decode cX9_wasMade 16 = .ok (.iconst 0, 1) := by decide +kernel
theorem dX9_wasMade_17 : decode cX9_wasMade 17 = .ok (.ireturn, 1) := by decide +kernel
theorem dX9_isThere_0 : decode cX9_isThere 0 = .ok (.iload_n 1, 1) := by decide +kernel
theorem dX9_isThere_1 : decode cX9_isThere 1 = .ok (.ifCond .lt 22, 3) := by decide +kernel
theorem dX9_isThere_4 : decode cX9_isThere 4 = .ok (.iload_n 1, 1) := by decide +kernel
theorem dX9_isThere_5 : decode cX9_isThere 5 = .ok (.bipush 60, 2) := by decide +kernel
theorem dX9_isThere_7 : decode cX9_isThere 7 = .ok (.if_icmp .ge 16, 3) := by decide +kernel
theorem dX9_isThere_10 : decode cX9_isThere 10 = .ok (.aload_n 0, 1) := by decide +kernel
theorem dX9_isThere_11 : decode cX9_isThere 11 = .ok (.getfield 23, 3) := by decide +kernel
theorem dX9_isThere_14 : decode cX9_isThere 14 = .ok (.iload_n 1, 1) := by decide +kernel
theorem dX9_isThere_15 : decode cX9_isThere 15 = .ok (.baload, 1) := by decide +kernel
theorem dX9_isThere_16 : decode cX9_isThere 16 = .ok (.ifCond .eq 7, 3) := by decide +kernel
theorem dX9_isThere_19 : decode cX9_isThere 19 = .ok (.iconst 1, 1) := by decide +kernel
theorem dX9_isThere_20 : decode cX9_isThere 20 = .ok (.goto 4, 3) := by decide +kernel
theorem dX9_isThere_23 : decode cX9_isThere 23 = .ok (.iconst 0, 1) := by decide +kernel
theorem dX9_isThere_24 : decode cX9_isThere 24 = .ok (.ireturn, 1) := by decide +kernel
theorem dX9_isFolder_0 : decode cX9_isFolder 0 = .ok (.iload_n 1, 1) := by decide +kernel
theorem dX9_isFolder_1 : decode cX9_isFolder 1 = .ok (.ifCond .lt 31, 3) := by decide +kernel
theorem dX9_isFolder_4 : decode cX9_isFolder 4 = .ok (.iload_n 1, 1) := by decide +kernel
theorem dX9_isFolder_5 : decode cX9_isFolder 5 = .ok (.bipush 60, 2) := by decide +kernel
theorem dX9_isFolder_7 : decode cX9_isFolder 7 = .ok (.if_icmp .ge 25, 3) := by decide +kernel
theorem dX9_isFolder_10 : decode cX9_isFolder 10 = .ok (.aload_n 0, 1) := by decide +kernel
theorem dX9_isFolder_11 : decode cX9_isFolder 11 = .ok (.getfield 23, 3) := by decide +kernel
theorem dX9_isFolder_14 : decode cX9_isFolder 14 = .ok (.iload_n 1, 1) := by decide +kernel
theorem dX9_isFolder_15 : decode cX9_isFolder 15 = .ok (.baload, 1) := by decide +kernel
theorem dX9_isFolder_16 : decode cX9_isFolder 16 = .ok (.ifCond .eq 16, 3) := by decide +kernel
theorem dX9_isFolder_19 : decode cX9_isFolder 19 = .ok (.aload_n 0, 1) := by decide +kernel
theorem dX9_isFolder_20 : decode cX9_isFolder 20 = .ok (.getfield 19, 3) := by decide +kernel
theorem dX9_isFolder_23 : decode cX9_isFolder 23 = .ok (.iload_n 1, 1) := by decide +kernel
theorem dX9_isFolder_24 : decode cX9_isFolder 24 = .ok (.baload, 1) := by decide +kernel
theorem dX9_isFolder_25 : decode cX9_isFolder 25 = .ok (.ifCond .eq 7, 3) := by decide +kernel
theorem dX9_isFolder_28 : decode cX9_isFolder 28 = .ok (.iconst 1, 1) := by decide +kernel
theorem dX9_isFolder_29 : decode cX9_isFolder 29 = .ok (.goto 4, 3) := by decide +kernel
theorem dX9_isFolder_32 : decode cX9_isFolder 32 = .ok (.iconst 0, 1) := by decide +kernel
theorem dX9_isFolder_33 : decode cX9_isFolder 33 = .ok (.ireturn, 1) := by decide +kernel
theorem dX9_isFile_0 : decode cX9_isFile 0 = .ok (.iload_n 1, 1) := by decide +kernel
theorem dX9_isFile_1 : decode cX9_isFile 1 = .ok (.ifCond .lt 31, 3) := by decide +kernel
theorem dX9_isFile_4 : decode cX9_isFile 4 = .ok (.iload_n 1, 1) := by decide +kernel
theorem dX9_isFile_5 : decode cX9_isFile 5 = .ok (.bipush 60, 2) := by decide +kernel
theorem dX9_isFile_7 : decode cX9_isFile 7 = .ok (.if_icmp .ge 25, 3) := by decide +kernel
theorem dX9_isFile_10 : decode cX9_isFile 10 = .ok (.aload_n 0, 1) := by decide +kernel
theorem dX9_isFile_11 : decode cX9_isFile 11 = .ok (.getfield 23, 3) := by decide +kernel
theorem dX9_isFile_14 : decode cX9_isFile 14 = .ok (.iload_n 1, 1) := by decide +kernel
theorem dX9_isFile_15 : decode cX9_isFile 15 = .ok (.baload, 1) := by decide +kernel
theorem dX9_isFile_16 : decode cX9_isFile 16 = .ok (.ifCond .eq 16, 3) := by decide +kernel
theorem dX9_isFile_19 : decode cX9_isFile 19 = .ok (.aload_n 0, 1) := by decide +kernel
theorem dX9_isFile_20 : decode cX9_isFile 20 = .ok (.getfield 19, 3) := by decide +kernel
theorem dX9_isFile_23 : decode cX9_isFile 23 = .ok (.iload_n 1, 1) := by decide +kernel
theorem dX9_isFile_24 : decode cX9_isFile 24 = .ok (.baload, 1) := by decide +kernel
theorem dX9_isFile_25 : decode cX9_isFile 25 = .ok (.ifCond .ne 7, 3) := by decide +kernel
theorem dX9_isFile_28 : decode cX9_isFile 28 = .ok (.iconst 1, 1) := by decide +kernel
theorem dX9_isFile_29 : decode cX9_isFile 29 = .ok (.goto 4, 3) := by decide +kernel
theorem dX9_isFile_32 : decode cX9_isFile 32 = .ok (.iconst 0, 1) := by decide +kernel
theorem dX9_isFile_33 : decode cX9_isFile 33 = .ok (.ireturn, 1) := by decide +kernel
theorem dX9_isLocked_0 : decode cX9_isLocked 0 = .ok (.iload_n 1, 1) := by decide +kernel
theorem dX9_isLocked_1 : decode cX9_isLocked 1 = .ok (.ifCond .lt 22, 3) := by decide +kernel
theorem dX9_isLocked_4 : decode cX9_isLocked 4 = .ok (.iload_n 1, 1) := by decide +kernel
theorem dX9_isLocked_5 : decode cX9_isLocked 5 = .ok (.bipush 60, 2) := by decide +kernel
theorem dX9_isLocked_7 : decode cX9_isLocked 7 = .ok (.if_icmp .ge 16, 3) := by decide +kernel
theorem dX9_isLocked_10 : decode cX9_isLocked 10 = .ok (.aload_n 0, 1) := by decide +kernel
theorem dX9_isLocked_11 : decode cX9_isLocked 11 = .ok (.getfield 26, 3) := by decide +kernel
theorem dX9_isLocked_14 : decode cX9_isLocked 14 = .ok (.iload_n 1, 1) := by decide +kernel
theorem dX9_isLocked_15 : decode cX9_isLocked 15 = .ok (.baload, 1) := by decide +kernel
theorem dX9_isLocked_16 : decode cX9_isLocked 16 = .ok (.ifCond .eq 7, 3) := by decide +kernel
theorem dX9_isLocked_19 : decode cX9_isLocked 19 = .ok (.iconst 1, 1) := by decide +kernel
theorem dX9_isLocked_20 : decode cX9_isLocked 20 = .ok (.goto 4, 3) := by decide +kernel
theorem dX9_isLocked_23 : decode cX9_isLocked 23 = .ok (.iconst 0, 1) := by decide +kernel
theorem dX9_isLocked_24 : decode cX9_isLocked 24 = .ok (.ireturn, 1) := by decide +kernel
theorem dX9_isFull_0 : decode cX9_isFull 0 = .ok (.aload_n 0, 1) := by decide +kernel
theorem dX9_isFull_1 : decode cX9_isFull 1 = .ok (.getfield 43, 3) := by decide +kernel
theorem dX9_isFull_4 : decode cX9_isFull 4 = .ok (.bipush 60, 2) := by decide +kernel
theorem dX9_isFull_6 : decode cX9_isFull 6 = .ok (.if_icmp .lt 7, 3) := by decide +kernel
theorem dX9_isFull_9 : decode cX9_isFull 9 = .ok (.iconst 1, 1) := by decide +kernel
theorem dX9_isFull_10 : decode cX9_isFull 10 = .ok (.goto 4, 3) := by decide +kernel
theorem dX9_isFull_13 : decode cX9_isFull 13 = .ok (.iconst 0, 1) := by decide +kernel
theorem dX9_isFull_14 : decode cX9_isFull 14 = .ok (.ireturn, 1) := by decide +kernel
theorem dX9_parentOf_0 : decode cX9_parentOf 0 = .ok (.iload_n 1, 1) := by decide +kernel
theorem dX9_parentOf_1 : decode cX9_parentOf 1 = .ok (.ifCond .lt 18, 3) := by decide +kernel
theorem dX9_parentOf_4 : decode cX9_parentOf 4 = .ok (.iload_n 1, 1) := by decide +kernel
theorem dX9_parentOf_5 : decode cX9_parentOf 5 = .ok (.bipush 60, 2) := by decide +kernel
theorem dX9_parentOf_7 : decode cX9_parentOf 7 = .ok (.if_icmp .ge 12, 3) := by decide +kernel
theorem dX9_parentOf_10 : decode cX9_parentOf 10 = .ok (.aload_n 0, 1) := by decide +kernel
theorem dX9_parentOf_11 : decode cX9_parentOf 11 = .ok (.getfield 9, 3) := by decide +kernel
theorem dX9_parentOf_14 : decode cX9_parentOf 14 = .ok (.iload_n 1, 1) := by decide +kernel
theorem dX9_parentOf_15 : decode cX9_parentOf 15 = .ok (.iaload, 1) := by decide +kernel
theorem dX9_parentOf_16 : decode cX9_parentOf 16 = .ok (.goto 4, 3) := by decide +kernel
theorem dX9_parentOf_19 : decode cX9_parentOf 19 = .ok (.iconst (-1), 1) := by decide +kernel
theorem dX9_parentOf_20 : decode cX9_parentOf 20 = .ok (.ireturn, 1) := by decide +kernel
theorem dX9_nameOf_0 : decode cX9_nameOf 0 = .ok (.iload_n 1, 1) := by decide +kernel
theorem dX9_nameOf_1 : decode cX9_nameOf 1 = .ok (.ifCond .lt 18, 3) := by decide +kernel
theorem dX9_nameOf_4 : decode cX9_nameOf 4 = .ok (.iload_n 1, 1) := by decide +kernel
theorem dX9_nameOf_5 : decode cX9_nameOf 5 = .ok (.bipush 60, 2) := by decide +kernel
theorem dX9_nameOf_7 : decode cX9_nameOf 7 = .ok (.if_icmp .ge 12, 3) := by decide +kernel
theorem dX9_nameOf_10 : decode cX9_nameOf 10 = .ok (.aload_n 0, 1) := by decide +kernel
theorem dX9_nameOf_11 : decode cX9_nameOf 11 = .ok (.getfield 15, 3) := by decide +kernel
theorem dX9_nameOf_14 : decode cX9_nameOf 14 = .ok (.iload_n 1, 1) := by decide +kernel
theorem dX9_nameOf_15 : decode cX9_nameOf 15 = .ok (.caload, 1) := by decide +kernel
theorem dX9_nameOf_16 : decode cX9_nameOf 16 = .ok (.goto 5, 3) := by decide +kernel
theorem dX9_nameOf_19 : decode cX9_nameOf 19 = .ok (.bipush 32, 2) := by decide +kernel
theorem dX9_nameOf_21 : decode cX9_nameOf 21 = .ok (.ireturn, 1) := by decide +kernel
theorem dX9_peopleOf_0 : decode cX9_peopleOf 0 = .ok (.iload_n 1, 1) := by decide +kernel
theorem dX9_peopleOf_1 : decode cX9_peopleOf 1 = .ok (.ifCond .lt 18, 3) := by decide +kernel
theorem dX9_peopleOf_4 : decode cX9_peopleOf 4 = .ok (.iload_n 1, 1) := by decide +kernel
theorem dX9_peopleOf_5 : decode cX9_peopleOf 5 = .ok (.bipush 60, 2) := by decide +kernel
theorem dX9_peopleOf_7 : decode cX9_peopleOf 7 = .ok (.if_icmp .ge 12, 3) := by decide +kernel
theorem dX9_peopleOf_10 : decode cX9_peopleOf 10 = .ok (.aload_n 0, 1) := by decide +kernel
theorem dX9_peopleOf_11 : decode cX9_peopleOf 11 = .ok (.getfield 29, 3) := by decide +kernel
theorem dX9_peopleOf_14 : decode cX9_peopleOf 14 = .ok (.iload_n 1, 1) := by decide +kernel
theorem dX9_peopleOf_15 : decode cX9_peopleOf 15 = .ok (.iaload, 1) := by decide +kernel
theorem dX9_peopleOf_16 : decode cX9_peopleOf 16 = .ok (.goto 4, 3) := by decide +kernel
theorem dX9_peopleOf_19 : decode cX9_peopleOf 19 = .ok (.iconst 0, 1) := by decide +kernel
theorem dX9_peopleOf_20 : decode cX9_peopleOf 20 = .ok (.ireturn, 1) := by decide +kernel
theorem dX9_editionOf_0 : decode cX9_editionOf 0 = .ok (.iload_n 1, 1) := by decide +kernel
theorem dX9_editionOf_1 : decode cX9_editionOf 1 = .ok (.ifCond .lt 18, 3) := by decide +kernel
theorem dX9_editionOf_4 : decode cX9_editionOf 4 = .ok (.iload_n 1, 1) := by decide +kernel
theorem dX9_editionOf_5 : decode cX9_editionOf 5 = .ok (.bipush 60, 2) := by decide +kernel
theorem dX9_editionOf_7 : decode cX9_editionOf 7 = .ok (.if_icmp .ge 12, 3) := by decide +kernel
theorem dX9_editionOf_10 : decode cX9_editionOf 10 = .ok (.aload_n 0, 1) := by decide +kernel
theorem dX9_editionOf_11 : decode cX9_editionOf 11 = .ok (.getfield 32, 3) := by decide +kernel
theorem dX9_editionOf_14 : decode cX9_editionOf 14 = .ok (.iload_n 1, 1) := by decide +kernel
theorem dX9_editionOf_15 : decode cX9_editionOf 15 = .ok (.iaload, 1) := by decide +kernel
theorem dX9_editionOf_16 : decode cX9_editionOf 16 = .ok (.goto 4, 3) := by decide +kernel
theorem dX9_editionOf_19 : decode cX9_editionOf 19 = .ok (.iconst 0, 1) := by decide +kernel
theorem dX9_editionOf_20 : decode cX9_editionOf 20 = .ok (.ireturn, 1) := by decide +kernel
theorem dX9_lengthOf_0 : decode cX9_lengthOf 0 = .ok (.iload_n 1, 1) := by decide +kernel
theorem dX9_lengthOf_1 : decode cX9_lengthOf 1 = .ok (.ifCond .lt 18, 3) := by decide +kernel
theorem dX9_lengthOf_4 : decode cX9_lengthOf 4 = .ok (.iload_n 1, 1) := by decide +kernel
theorem dX9_lengthOf_5 : decode cX9_lengthOf 5 = .ok (.bipush 60, 2) := by decide +kernel
theorem dX9_lengthOf_7 : decode cX9_lengthOf 7 = .ok (.if_icmp .ge 12, 3) := by decide +kernel
theorem dX9_lengthOf_10 : decode cX9_lengthOf 10 = .ok (.aload_n 0, 1) := by decide +kernel
theorem dX9_lengthOf_11 : decode cX9_lengthOf 11 = .ok (.getfield 35, 3) := by decide +kernel
theorem dX9_lengthOf_14 : decode cX9_lengthOf 14 = .ok (.iload_n 1, 1) := by decide +kernel
theorem dX9_lengthOf_15 : decode cX9_lengthOf 15 = .ok (.iaload, 1) := by decide +kernel
theorem dX9_lengthOf_16 : decode cX9_lengthOf 16 = .ok (.goto 4, 3) := by decide +kernel
theorem dX9_lengthOf_19 : decode cX9_lengthOf 19 = .ok (.iconst 0, 1) := by decide +kernel
theorem dX9_lengthOf_20 : decode cX9_lengthOf 20 = .ok (.ireturn, 1) := by decide +kernel
theorem dX9_textOf_0 : decode cX9_textOf 0 = .ok (.aload_n 0, 1) := by decide +kernel
theorem dX9_textOf_1 : decode cX9_textOf 1 = .ok (.getfield 40, 3) := by decide +kernel
theorem dX9_textOf_4 : decode cX9_textOf 4 = .ok (.iload_n 1, 1) := by decide +kernel
theorem dX9_textOf_5 : decode cX9_textOf 5 = .ok (.ifCond .lt 13, 3) := by decide +kernel
theorem dX9_textOf_8 : decode cX9_textOf 8 = .ok (.iload_n 1, 1) := by decide +kernel
theorem dX9_textOf_9 : decode cX9_textOf 9 = .ok (.bipush 60, 2) := by decide +kernel
theorem dX9_textOf_11 : decode cX9_textOf 11 = .ok (.if_icmp .ge 7, 3) := by decide +kernel
theorem dX9_textOf_14 : decode cX9_textOf 14 = .ok (.iload_n 1, 1) := by decide +kernel
theorem dX9_textOf_15 : decode cX9_textOf 15 = .ok (.goto 4, 3) := by decide +kernel
theorem dX9_textOf_18 : decode cX9_textOf 18 = .ok (.iconst 0, 1) := by decide +kernel
theorem dX9_textOf_19 : decode cX9_textOf 19 = .ok (.aaload, 1) := by decide +kernel
theorem dX9_textOf_20 : decode cX9_textOf 20 = .ok (.areturn, 1) := by decide +kernel
theorem dX9_findIn_0 : decode cX9_findIn 0 = .ok (.iconst 0, 1) := by decide +kernel
theorem dX9_findIn_1 : decode cX9_findIn 1 = .ok (.istore_n 3, 1) := by decide +kernel
theorem dX9_findIn_2 : decode cX9_findIn 2 = .ok (.iload_n 3, 1) := by decide +kernel
theorem dX9_findIn_3 : decode cX9_findIn 3 = .ok (.bipush 60, 2) := by decide +kernel
theorem dX9_findIn_5 : decode cX9_findIn 5 = .ok (.if_icmp .ge 40, 3) := by decide +kernel
theorem dX9_findIn_8 : decode cX9_findIn 8 = .ok (.aload_n 0, 1) := by decide +kernel
theorem dX9_findIn_9 : decode cX9_findIn 9 = .ok (.getfield 23, 3) := by decide +kernel
theorem dX9_findIn_12 : decode cX9_findIn 12 = .ok (.iload_n 3, 1) := by decide +kernel
theorem dX9_findIn_13 : decode cX9_findIn 13 = .ok (.baload, 1) := by decide +kernel
theorem dX9_findIn_14 : decode cX9_findIn 14 = .ok (.ifCond .eq 25, 3) := by decide +kernel
theorem dX9_findIn_17 : decode cX9_findIn 17 = .ok (.aload_n 0, 1) := by decide +kernel
theorem dX9_findIn_18 : decode cX9_findIn 18 = .ok (.getfield 9, 3) := by decide +kernel
theorem dX9_findIn_21 : decode cX9_findIn 21 = .ok (.iload_n 3, 1) := by decide +kernel
theorem dX9_findIn_22 : decode cX9_findIn 22 = .ok (.iaload, 1) := by decide +kernel
theorem dX9_findIn_23 : decode cX9_findIn 23 = .ok (.iload_n 1, 1) := by decide +kernel
theorem dX9_findIn_24 : decode cX9_findIn 24 = .ok (.if_icmp .ne 15, 3) := by decide +kernel
theorem dX9_findIn_27 : decode cX9_findIn 27 = .ok (.aload_n 0, 1) := by decide +kernel
theorem dX9_findIn_28 : decode cX9_findIn 28 = .ok (.getfield 15, 3) := by decide +kernel
theorem dX9_findIn_31 : decode cX9_findIn 31 = .ok (.iload_n 3, 1) := by decide +kernel
theorem dX9_findIn_32 : decode cX9_findIn 32 = .ok (.caload, 1) := by decide +kernel
theorem dX9_findIn_33 : decode cX9_findIn 33 = .ok (.iload_n 2, 1) := by decide +kernel
theorem dX9_findIn_34 : decode cX9_findIn 34 = .ok (.if_icmp .ne 5, 3) := by decide +kernel
theorem dX9_findIn_37 : decode cX9_findIn 37 = .ok (.iload_n 3, 1) := by decide +kernel
theorem dX9_findIn_38 : decode cX9_findIn 38 = .ok (.ireturn, 1) := by decide +kernel
theorem dX9_findIn_39 : decode cX9_findIn 39 = .ok (.iinc 3 1, 3) := by decide +kernel
theorem dX9_findIn_42 : decode cX9_findIn 42 = .ok (.goto (-40), 3) := by decide +kernel
theorem dX9_findIn_45 : decode cX9_findIn 45 = .ok (.iconst (-1), 1) := by decide +kernel
theorem dX9_findIn_46 : decode cX9_findIn 46 = .ok (.ireturn, 1) := by decide +kernel
theorem dX9_isBelow_0 : decode cX9_isBelow 0 = .ok (.aload_n 0, 1) := by decide +kernel
theorem dX9_isBelow_1 : decode cX9_isBelow 1 = .ok (.iload_n 1, 1) := by decide +kernel
theorem dX9_isBelow_2 : decode cX9_isBelow 2 = .ok (.invokevirtual 47, 3) := by decide +kernel
theorem dX9_isBelow_5 : decode cX9_isBelow 5 = .ok (.istore_n 3, 1) := by decide +kernel
theorem dX9_isBelow_6 : decode cX9_isBelow 6 = .ok (.iconst 0, 1) := by decide +kernel
theorem dX9_isBelow_7 : decode cX9_isBelow 7 = .ok (.istore 4, 2) := by decide +kernel
theorem dX9_isBelow_9 : decode cX9_isBelow 9 = .ok (.iload 4, 2) := by decide +kernel
theorem dX9_isBelow_11 : decode cX9_isBelow 11 = .ok (.bipush 60, 2) := by decide +kernel
theorem dX9_isBelow_13 : decode cX9_isBelow 13 = .ok (.if_icmp .ge 27, 3) := by decide +kernel
theorem dX9_isBelow_16 : decode cX9_isBelow 16 = .ok (.iload_n 3, 1) := by decide +kernel
theorem dX9_isBelow_17 : decode cX9_isBelow 17 = .ok (.iconst (-1), 1) := by decide +kernel
theorem dX9_isBelow_18 : decode cX9_isBelow 18 = .ok (.if_icmp .eq 22, 3) := by decide +kernel
theorem dX9_isBelow_21 : decode cX9_isBelow 21 = .ok (.iload_n 3, 1) := by decide +kernel
theorem dX9_isBelow_22 : decode cX9_isBelow 22 = .ok (.iload_n 2, 1) := by decide +kernel
theorem dX9_isBelow_23 : decode cX9_isBelow 23 = .ok (.if_icmp .ne 5, 3) := by decide +kernel
theorem dX9_isBelow_26 : decode cX9_isBelow 26 = .ok (.iconst 1, 1) := by decide +kernel
theorem dX9_isBelow_27 : decode cX9_isBelow 27 = .ok (.ireturn, 1) := by decide +kernel
theorem dX9_isBelow_28 : decode cX9_isBelow 28 = .ok (.aload_n 0, 1) := by decide +kernel
theorem dX9_isBelow_29 : decode cX9_isBelow 29 = .ok (.iload_n 3, 1) := by decide +kernel
theorem dX9_isBelow_30 : decode cX9_isBelow 30 = .ok (.invokevirtual 47, 3) := by decide +kernel
theorem dX9_isBelow_33 : decode cX9_isBelow 33 = .ok (.istore_n 3, 1) := by decide +kernel
theorem dX9_isBelow_34 : decode cX9_isBelow 34 = .ok (.iinc 4 1, 3) := by decide +kernel
theorem dX9_isBelow_37 : decode cX9_isBelow 37 = .ok (.goto (-28), 3) := by decide +kernel
theorem dX9_isBelow_40 : decode cX9_isBelow 40 = .ok (.iconst 0, 1) := by decide +kernel
theorem dX9_isBelow_41 : decode cX9_isBelow 41 = .ok (.ireturn, 1) := by decide +kernel
theorem dX9_isOpenTo_0 : decode cX9_isOpenTo 0 = .ok (.iload_n 2, 1) := by decide +kernel
theorem dX9_isOpenTo_1 : decode cX9_isOpenTo 1 = .ok (.istore_n 3, 1) := by decide +kernel
theorem dX9_isOpenTo_2 : decode cX9_isOpenTo 2 = .ok (.iconst 0, 1) := by decide +kernel
theorem dX9_isOpenTo_3 : decode cX9_isOpenTo 3 = .ok (.istore 4, 2) := by decide +kernel
theorem dX9_isOpenTo_5 : decode cX9_isOpenTo 5 = .ok (.iload 4, 2) := by decide +kernel
theorem dX9_isOpenTo_7 : decode cX9_isOpenTo 7 = .ok (.bipush 60, 2) := by decide +kernel
theorem dX9_isOpenTo_9 : decode cX9_isOpenTo 9 = .ok (.if_icmp .ge 34, 3) := by decide +kernel
theorem dX9_isOpenTo_12 : decode cX9_isOpenTo 12 = .ok (.iload_n 3, 1) := by decide +kernel
theorem dX9_isOpenTo_13 : decode cX9_isOpenTo 13 = .ok (.iconst (-1), 1) := by decide +kernel
theorem dX9_isOpenTo_14 : decode cX9_isOpenTo 14 = .ok (.if_icmp .eq 29, 3) := by decide +kernel
theorem dX9_isOpenTo_17 : decode cX9_isOpenTo 17 = .ok (.aload_n 0, 1) := by decide +kernel
theorem dX9_isOpenTo_18 : decode cX9_isOpenTo 18 = .ok (.iload_n 3, 1) := by decide +kernel
theorem dX9_isOpenTo_19 : decode cX9_isOpenTo 19 = .ok (.invokevirtual 51, 3) := by decide +kernel
theorem dX9_isOpenTo_22 : decode cX9_isOpenTo 22 = .ok (.iload_n 1, 1) := by decide +kernel
theorem dX9_isOpenTo_23 : decode cX9_isOpenTo 23 = .ok (.ishr, 1) := by decide +kernel
theorem dX9_isOpenTo_24 : decode cX9_isOpenTo 24 = .ok (.iconst 1, 1) := by decide +kernel
theorem dX9_isOpenTo_25 : decode cX9_isOpenTo 25 = .ok (.iand, 1) := by decide +kernel
theorem dX9_isOpenTo_26 : decode cX9_isOpenTo 26 = .ok (.ifCond .ne 5, 3) := by decide +kernel
theorem dX9_isOpenTo_29 : decode cX9_isOpenTo 29 = .ok (.iconst 0, 1) := by decide +kernel
theorem dX9_isOpenTo_30 : decode cX9_isOpenTo 30 = .ok (.ireturn, 1) := by decide +kernel
theorem dX9_isOpenTo_31 : decode cX9_isOpenTo 31 = .ok (.aload_n 0, 1) := by decide +kernel
theorem dX9_isOpenTo_32 : decode cX9_isOpenTo 32 = .ok (.iload_n 3, 1) := by decide +kernel
theorem dX9_isOpenTo_33 : decode cX9_isOpenTo 33 = .ok (.invokevirtual 47, 3) := by decide +kernel
theorem dX9_isOpenTo_36 : decode cX9_isOpenTo 36 = .ok (.istore_n 3, 1) := by decide +kernel
theorem dX9_isOpenTo_37 : decode cX9_isOpenTo 37 = .ok (.iinc 4 1, 3) := by decide +kernel
theorem dX9_isOpenTo_40 : decode cX9_isOpenTo 40 = .ok (.goto (-35), 3) := by decide +kernel
theorem dX9_isOpenTo_43 : decode cX9_isOpenTo 43 = .ok (.iconst 1, 1) := by decide +kernel
theorem dX9_isOpenTo_44 : decode cX9_isOpenTo 44 = .ok (.ireturn, 1) := by decide +kernel
theorem dX9_countThere_0 : decode cX9_countThere 0 = .ok (.iconst 0, 1) := by decide +kernel
theorem dX9_countThere_1 : decode cX9_countThere 1 = .ok (.istore_n 1, 1) := by decide +kernel
theorem dX9_countThere_2 : decode cX9_countThere 2 = .ok (.iconst 0, 1) := by decide +kernel
theorem dX9_countThere_3 : decode cX9_countThere 3 = .ok (.istore_n 2, 1) := by decide +kernel
theorem dX9_countThere_4 : decode cX9_countThere 4 = .ok (.iload_n 2, 1) := by decide +kernel
theorem dX9_countThere_5 : decode cX9_countThere 5 = .ok (.bipush 60, 2) := by decide +kernel
theorem dX9_countThere_7 : decode cX9_countThere 7 = .ok (.if_icmp .ge 21, 3) := by decide +kernel
theorem dX9_countThere_10 : decode cX9_countThere 10 = .ok (.aload_n 0, 1) := by decide +kernel
theorem dX9_countThere_11 : decode cX9_countThere 11 = .ok (.getfield 23, 3) := by decide +kernel
theorem dX9_countThere_14 : decode cX9_countThere 14 = .ok (.iload_n 2, 1) := by decide +kernel
theorem dX9_countThere_15 : decode cX9_countThere 15 = .ok (.baload, 1) := by decide +kernel
theorem dX9_countThere_16 : decode cX9_countThere 16 = .ok (.ifCond .eq 6, 3) := by decide +kernel
theorem dX9_countThere_19 : decode cX9_countThere 19 = .ok (.iinc 1 1, 3) := by decide +kernel
theorem dX9_countThere_22 : decode cX9_countThere 22 = .ok (.iinc 2 1, 3) := by decide +kernel
theorem dX9_countThere_25 : decode cX9_countThere 25 = .ok (.goto (-21), 3) := by decide +kernel
theorem dX9_countThere_28 : decode cX9_countThere 28 = .ok (.iload_n 1, 1) := by decide +kernel
theorem dX9_countThere_29 : decode cX9_countThere 29 = .ok (.ireturn, 1) := by decide +kernel
theorem dX9_add_0 : decode cX9_add 0 = .ok (.aload_n 0, 1) := by decide +kernel
theorem dX9_add_1 : decode cX9_add 1 = .ok (.getfield 43, 3) := by decide +kernel
theorem dX9_add_4 : decode cX9_add 4 = .ok (.ifCond .lt 12, 3) := by decide +kernel
theorem dX9_add_7 : decode cX9_add 7 = .ok (.aload_n 0, 1) := by decide +kernel
theorem dX9_add_8 : decode cX9_add 8 = .ok (.getfield 43, 3) := by decide +kernel
theorem dX9_add_11 : decode cX9_add 11 = .ok (.bipush 60, 2) := by decide +kernel
theorem dX9_add_13 : decode cX9_add 13 = .ok (.if_icmp .lt 5, 3) := by decide +kernel
theorem dX9_add_16 : decode cX9_add 16 = .ok (.iconst (-1), 1) := by decide +kernel
theorem dX9_add_17 : decode cX9_add 17 = .ok (.ireturn, 1) := by decide +kernel
theorem dX9_add_18 : decode cX9_add 18 = .ok (.aload_n 0, 1) := by decide +kernel
theorem dX9_add_19 : decode cX9_add 19 = .ok (.getfield 43, 3) := by decide +kernel
theorem dX9_add_22 : decode cX9_add 22 = .ok (.istore 4, 2) := by decide +kernel
theorem dX9_add_24 : decode cX9_add 24 = .ok (.aload_n 0, 1) := by decide +kernel
theorem dX9_add_25 : decode cX9_add 25 = .ok (.getfield 9, 3) := by decide +kernel
theorem dX9_add_28 : decode cX9_add 28 = .ok (.iload 4, 2) := by decide +kernel
theorem dX9_add_30 : decode cX9_add 30 = .ok (.iload_n 1, 1) := by decide +kernel
theorem dX9_add_31 : decode cX9_add 31 = .ok (.iastore, 1) := by decide +kernel
theorem dX9_add_32 : decode cX9_add 32 = .ok (.aload_n 0, 1) := by decide +kernel
theorem dX9_add_33 : decode cX9_add 33 = .ok (.getfield 15, 3) := by decide +kernel
theorem dX9_add_36 : decode cX9_add 36 = .ok (.iload 4, 2) := by decide +kernel
theorem dX9_add_38 : decode cX9_add 38 = .ok (.iload_n 2, 1) := by decide +kernel
theorem dX9_add_39 : decode cX9_add 39 = .ok (.castore, 1) := by decide +kernel
theorem dX9_add_40 : decode cX9_add 40 = .ok (.aload_n 0, 1) := by decide +kernel
theorem dX9_add_41 : decode cX9_add 41 = .ok (.getfield 19, 3) := by decide +kernel
theorem dX9_add_44 : decode cX9_add 44 = .ok (.iload 4, 2) := by decide +kernel
theorem dX9_add_46 : decode cX9_add 46 = .ok (.iload_n 3, 1) := by decide +kernel
theorem dX9_add_47 : decode cX9_add 47 = .ok (.bastore, 1) := by decide +kernel
theorem dX9_add_48 : decode cX9_add 48 = .ok (.aload_n 0, 1) := by decide +kernel
theorem dX9_add_49 : decode cX9_add 49 = .ok (.getfield 23, 3) := by decide +kernel
theorem dX9_add_52 : decode cX9_add 52 = .ok (.iload 4, 2) := by decide +kernel
theorem dX9_add_54 : decode cX9_add 54 = .ok (.iconst 1, 1) := by decide +kernel
theorem dX9_add_55 : decode cX9_add 55 = .ok (.bastore, 1) := by decide +kernel
theorem dX9_add_56 : decode cX9_add 56 = .ok (.aload_n 0, 1) := by decide +kernel
theorem dX9_add_57 : decode cX9_add 57 = .ok (.getfield 29, 3) := by decide +kernel
theorem dX9_add_60 : decode cX9_add 60 = .ok (.iload 4, 2) := by decide +kernel
theorem dX9_add_62 : decode cX9_add 62 = .ok (.bipush 15, 2) := by decide +kernel
theorem dX9_add_64 : decode cX9_add 64 = .ok (.iastore, 1) := by decide +kernel
theorem dX9_add_65 : decode cX9_add 65 = .ok (.aload_n 0, 1) := by decide +kernel
theorem dX9_add_66 : decode cX9_add 66 = .ok (.getfield 32, 3) := by decide +kernel
theorem dX9_add_69 : decode cX9_add 69 = .ok (.iload 4, 2) := by decide +kernel
theorem dX9_add_71 : decode cX9_add 71 = .ok (.iload_n 3, 1) := by decide +kernel
theorem dX9_add_72 : decode cX9_add 72 = .ok (.ifCond .eq 7, 3) := by decide +kernel
theorem dX9_add_75 : decode cX9_add 75 = .ok (.iconst 0, 1) := by decide +kernel
theorem dX9_add_76 : decode cX9_add 76 = .ok (.goto 4, 3) := by decide +kernel
theorem dX9_add_79 : decode cX9_add 79 = .ok (.iconst 1, 1) := by decide +kernel
theorem dX9_add_80 : decode cX9_add 80 = .ok (.iastore, 1) := by decide +kernel
theorem dX9_add_81 : decode cX9_add 81 = .ok (.aload_n 0, 1) := by decide +kernel
theorem dX9_add_82 : decode cX9_add 82 = .ok (.dup, 1) := by decide +kernel
theorem dX9_add_83 : decode cX9_add 83 = .ok (.getfield 43, 3) := by decide +kernel
theorem dX9_add_86 : decode cX9_add 86 = .ok (.iconst 1, 1) := by decide +kernel
theorem dX9_add_87 : decode cX9_add 87 = .ok (.iadd, 1) := by decide +kernel
theorem dX9_add_88 : decode cX9_add 88 = .ok (.putfield 43, 3) := by decide +kernel
theorem dX9_add_91 : decode cX9_add 91 = .ok (.iload 4, 2) := by decide +kernel
theorem dX9_add_93 : decode cX9_add 93 = .ok (.ireturn, 1) := by decide +kernel
theorem dX9_put_0 : decode cX9_put 0 = .ok (.aload_n 0, 1) := by decide +kernel
theorem dX9_put_1 : decode cX9_put 1 = .ok (.iload_n 1, 1) := by decide +kernel
theorem dX9_put_2 : decode cX9_put 2 = .ok (.invokevirtual 54, 3) := by decide +kernel
theorem dX9_put_5 : decode cX9_put 5 = .ok (.ifCond .eq 17, 3) := by decide +kernel
theorem dX9_put_8 : decode cX9_put 8 = .ok (.aload_n 0, 1) := by decide +kernel
theorem dX9_put_9 : decode cX9_put 9 = .ok (.getfield 9, 3) := by decide +kernel
theorem dX9_put_12 : decode cX9_put 12 = .ok (.iload_n 1, 1) := by decide +kernel
theorem dX9_put_13 : decode cX9_put 13 = .ok (.iload_n 2, 1) := by decide +kernel
theorem dX9_put_14 : decode cX9_put 14 = .ok (.iastore, 1) := by decide +kernel
theorem dX9_put_15 : decode cX9_put 15 = .ok (.aload_n 0, 1) := by decide +kernel
theorem dX9_put_16 : decode cX9_put 16 = .ok (.getfield 15, 3) := by decide +kernel
theorem dX9_put_19 : decode cX9_put 19 = .ok (.iload_n 1, 1) := by decide +kernel
theorem dX9_put_20 : decode cX9_put 20 = .ok (.iload_n 3, 1) := by decide +kernel
theorem dX9_put_21 : decode cX9_put 21 = .ok (.castore, 1) := by decide +kernel
theorem dX9_put_22 : decode cX9_put 22 = .ok (.return_, 1) := by decide +kernel
theorem dX9_append_0 : decode cX9_append 0 = .ok (.aload_n 0, 1) := by decide +kernel
theorem dX9_append_1 : decode cX9_append 1 = .ok (.iload_n 1, 1) := by decide +kernel
theorem dX9_append_2 : decode cX9_append 2 = .ok (.invokevirtual 58, 3) := by decide +kernel
theorem dX9_append_5 : decode cX9_append 5 = .ok (.istore_n 3, 1) := by decide +kernel
theorem dX9_append_6 : decode cX9_append 6 = .ok (.aload_n 0, 1) := by decide +kernel
theorem dX9_append_7 : decode cX9_append 7 = .ok (.iload_n 1, 1) := by decide +kernel
theorem dX9_append_8 : decode cX9_append 8 = .ok (.invokevirtual 61, 3) := by decide +kernel
theorem dX9_append_11 : decode cX9_append 11 = .ok (.ifCond .eq 41, 3) := by decide +kernel
theorem dX9_append_14 : decode cX9_append 14 = .ok (.iload_n 3, 1) := by decide +kernel
theorem dX9_append_15 : decode cX9_append 15 = .ok (.ifCond .lt 37, 3) := by decide +kernel
theorem dX9_append_18 : decode cX9_append 18 = .ok (.iload_n 3, 1) := by decide +kernel
theorem dX9_append_19 : decode cX9_append 19 = .ok (.bipush 20, 2) := by decide +kernel
theorem dX9_append_21 : decode cX9_append 21 = .ok (.if_icmp .ge 31, 3) := by decide +kernel
theorem dX9_append_24 : decode cX9_append 24 = .ok (.aload_n 0, 1) := by decide +kernel
theorem dX9_append_25 : decode cX9_append 25 = .ok (.getfield 40, 3) := by decide +kernel
theorem dX9_append_28 : decode cX9_append 28 = .ok (.iload_n 1, 1) := by decide +kernel
theorem dX9_append_29 : decode cX9_append 29 = .ok (.aaload, 1) := by decide +kernel
theorem dX9_append_30 : decode cX9_append 30 = .ok (.iload_n 3, 1) := by decide +kernel
theorem dX9_append_31 : decode cX9_append 31 = .ok (.iload_n 2, 1) := by decide +kernel
theorem dX9_append_32 : decode cX9_append 32 = .ok (.iastore, 1) := by decide +kernel
theorem dX9_append_33 : decode cX9_append 33 = .ok (.aload_n 0, 1) := by decide +kernel
theorem dX9_append_34 : decode cX9_append 34 = .ok (.getfield 35, 3) := by decide +kernel
theorem dX9_append_37 : decode cX9_append 37 = .ok (.iload_n 1, 1) := by decide +kernel
theorem dX9_append_38 : decode cX9_append 38 = .ok (.iload_n 3, 1) := by decide +kernel
theorem dX9_append_39 : decode cX9_append 39 = .ok (.iconst 1, 1) := by decide +kernel
theorem dX9_append_40 : decode cX9_append 40 = .ok (.iadd, 1) := by decide +kernel
theorem dX9_append_41 : decode cX9_append 41 = .ok (.iastore, 1) := by decide +kernel
theorem dX9_append_42 : decode cX9_append 42 = .ok (.aload_n 0, 1) := by decide +kernel
theorem dX9_append_43 : decode cX9_append 43 = .ok (.getfield 32, 3) := by decide +kernel
theorem dX9_append_46 : decode cX9_append 46 = .ok (.iload_n 1, 1) := by decide +kernel
theorem dX9_append_47 : decode cX9_append 47 = .ok (.dup2, 1) := by decide +kernel
theorem dX9_append_48 : decode cX9_append 48 = .ok (.iaload, 1) := by decide +kernel
theorem dX9_append_49 : decode cX9_append 49 = .ok (.iconst 1, 1) := by decide +kernel
theorem dX9_append_50 : decode cX9_append 50 = .ok (.iadd, 1) := by decide +kernel
theorem dX9_append_51 : decode cX9_append 51 = .ok (.iastore, 1) := by decide +kernel
theorem dX9_append_52 : decode cX9_append 52 = .ok (.return_, 1) := by decide +kernel
theorem dX9_setLocked_0 : decode cX9_setLocked 0 = .ok (.aload_n 0, 1) := by decide +kernel
theorem dX9_setLocked_1 : decode cX9_setLocked 1 = .ok (.iload_n 1, 1) := by decide +kernel
theorem dX9_setLocked_2 : decode cX9_setLocked 2 = .ok (.invokevirtual 61, 3) := by decide +kernel
theorem dX9_setLocked_5 : decode cX9_setLocked 5 = .ok (.ifCond .eq 10, 3) := by decide +kernel
theorem dX9_setLocked_8 : decode cX9_setLocked 8 = .ok (.aload_n 0, 1) := by decide +kernel
theorem dX9_setLocked_9 : decode cX9_setLocked 9 = .ok (.getfield 26, 3) := by decide +kernel
theorem dX9_setLocked_12 : decode cX9_setLocked 12 = .ok (.iload_n 1, 1) := by decide +kernel
theorem dX9_setLocked_13 : decode cX9_setLocked 13 = .ok (.iload_n 2, 1) := by decide +kernel
theorem dX9_setLocked_14 : decode cX9_setLocked 14 = .ok (.bastore, 1) := by decide +kernel
theorem dX9_setLocked_15 : decode cX9_setLocked 15 = .ok (.return_, 1) := by decide +kernel
theorem dX9_setPeople_0 : decode cX9_setPeople 0 = .ok (.aload_n 0, 1) := by decide +kernel
theorem dX9_setPeople_1 : decode cX9_setPeople 1 = .ok (.iload_n 1, 1) := by decide +kernel
theorem dX9_setPeople_2 : decode cX9_setPeople 2 = .ok (.invokevirtual 54, 3) := by decide +kernel
theorem dX9_setPeople_5 : decode cX9_setPeople 5 = .ok (.ifCond .eq 10, 3) := by decide +kernel
theorem dX9_setPeople_8 : decode cX9_setPeople 8 = .ok (.aload_n 0, 1) := by decide +kernel
theorem dX9_setPeople_9 : decode cX9_setPeople 9 = .ok (.getfield 29, 3) := by decide +kernel
theorem dX9_setPeople_12 : decode cX9_setPeople 12 = .ok (.iload_n 1, 1) := by decide +kernel
theorem dX9_setPeople_13 : decode cX9_setPeople 13 = .ok (.iload_n 2, 1) := by decide +kernel
theorem dX9_setPeople_14 : decode cX9_setPeople 14 = .ok (.iastore, 1) := by decide +kernel
theorem dX9_setPeople_15 : decode cX9_setPeople 15 = .ok (.return_, 1) := by decide +kernel
theorem dX9_takeAway_0 : decode cX9_takeAway 0 = .ok (.iconst 0, 1) := by decide +kernel
theorem dX9_takeAway_1 : decode cX9_takeAway 1 = .ok (.istore_n 2, 1) := by decide +kernel
theorem dX9_takeAway_2 : decode cX9_takeAway 2 = .ok (.iconst 0, 1) := by decide +kernel
theorem dX9_takeAway_3 : decode cX9_takeAway 3 = .ok (.istore_n 3, 1) := by decide +kernel
theorem dX9_takeAway_4 : decode cX9_takeAway 4 = .ok (.iload_n 3, 1) := by decide +kernel
theorem dX9_takeAway_5 : decode cX9_takeAway 5 = .ok (.bipush 60, 2) := by decide +kernel
theorem dX9_takeAway_7 : decode cX9_takeAway 7 = .ok (.if_icmp .ge 42, 3) := by decide +kernel
theorem dX9_takeAway_10 : decode cX9_takeAway 10 = .ok (.aload_n 0, 1) := by decide +kernel
theorem dX9_takeAway_11 : decode cX9_takeAway 11 = .ok (.getfield 23, 3) := by decide +kernel
theorem dX9_takeAway_14 : decode cX9_takeAway 14 = .ok (.iload_n 3, 1) := by decide +kernel
theorem dX9_takeAway_15 : decode cX9_takeAway 15 = .ok (.baload, 1) := by decide +kernel
theorem dX9_takeAway_16 : decode cX9_takeAway 16 = .ok (.ifCond .eq 27, 3) := by decide +kernel
theorem dX9_takeAway_19 : decode cX9_takeAway 19 = .ok (.iload_n 3, 1) := by decide +kernel
theorem dX9_takeAway_20 : decode cX9_takeAway 20 = .ok (.iload_n 1, 1) := by decide +kernel
theorem dX9_takeAway_21 : decode cX9_takeAway 21 = .ok (.if_icmp .eq 12, 3) := by decide +kernel
theorem dX9_takeAway_24 : decode cX9_takeAway 24 = .ok (.aload_n 0, 1) := by decide +kernel
theorem dX9_takeAway_25 : decode cX9_takeAway 25 = .ok (.iload_n 3, 1) := by decide +kernel
theorem dX9_takeAway_26 : decode cX9_takeAway 26 = .ok (.iload_n 1, 1) := by decide +kernel
theorem dX9_takeAway_27 : decode cX9_takeAway 27 = .ok (.invokevirtual 64, 3) := by decide +kernel
theorem dX9_takeAway_30 : decode cX9_takeAway 30 = .ok (.ifCond .eq 13, 3) := by decide +kernel
theorem dX9_takeAway_33 : decode cX9_takeAway 33 = .ok (.aload_n 0, 1) := by decide +kernel
theorem dX9_takeAway_34 : decode cX9_takeAway 34 = .ok (.getfield 23, 3) := by decide +kernel
theorem dX9_takeAway_37 : decode cX9_takeAway 37 = .ok (.iload_n 3, 1) := by decide +kernel
theorem dX9_takeAway_38 : decode cX9_takeAway 38 = .ok (.iconst 0, 1) := by decide +kernel
theorem dX9_takeAway_39 : decode cX9_takeAway 39 = .ok (.bastore, 1) := by decide +kernel
theorem dX9_takeAway_40 : decode cX9_takeAway 40 = .ok (.iinc 2 1, 3) := by decide +kernel
theorem dX9_takeAway_43 : decode cX9_takeAway 43 = .ok (.iinc 3 1, 3) := by decide +kernel
theorem dX9_takeAway_46 : decode cX9_takeAway 46 = .ok (.goto (-42), 3) := by decide +kernel
theorem dX9_takeAway_49 : decode cX9_takeAway 49 = .ok (.iconst 0, 1) := by decide +kernel
theorem dX9_takeAway_50 : decode cX9_takeAway 50 = .ok (.istore_n 3, 1) := by decide +kernel
theorem dX9_takeAway_51 : decode cX9_takeAway 51 = .ok (.iload_n 3, 1) := by decide +kernel
theorem dX9_takeAway_52 : decode cX9_takeAway 52 = .ok (.bipush 60, 2) := by decide +kernel
theorem dX9_takeAway_54 : decode cX9_takeAway 54 = .ok (.if_icmp .ge 25, 3) := by decide +kernel
theorem dX9_takeAway_57 : decode cX9_takeAway 57 = .ok (.aload_n 0, 1) := by decide +kernel
theorem dX9_takeAway_58 : decode cX9_takeAway 58 = .ok (.getfield 23, 3) := by decide +kernel
theorem dX9_takeAway_61 : decode cX9_takeAway 61 = .ok (.iload_n 3, 1) := by decide +kernel
theorem dX9_takeAway_62 : decode cX9_takeAway 62 = .ok (.baload, 1) := by decide +kernel
theorem dX9_takeAway_63 : decode cX9_takeAway 63 = .ok (.ifCond .ne 10, 3) := by decide +kernel
theorem dX9_takeAway_66 : decode cX9_takeAway 66 = .ok (.aload_n 0, 1) := by decide +kernel
theorem dX9_takeAway_67 : decode cX9_takeAway 67 = .ok (.getfield 9, 3) := by decide +kernel
theorem dX9_takeAway_70 : decode cX9_takeAway 70 = .ok (.iload_n 3, 1) := by decide +kernel
theorem dX9_takeAway_71 : decode cX9_takeAway 71 = .ok (.iconst (-1), 1) := by decide +kernel
theorem dX9_takeAway_72 : decode cX9_takeAway 72 = .ok (.iastore, 1) := by decide +kernel
theorem dX9_takeAway_73 : decode cX9_takeAway 73 = .ok (.iinc 3 1, 3) := by decide +kernel
theorem dX9_takeAway_76 : decode cX9_takeAway 76 = .ok (.goto (-25), 3) := by decide +kernel
theorem dX9_takeAway_79 : decode cX9_takeAway 79 = .ok (.iload_n 2, 1) := by decide +kernel
theorem dX9_takeAway_80 : decode cX9_takeAway 80 = .ok (.ireturn, 1) := by decide +kernel
theorem dX10_make_0 : decode cX10_make 0 = .ok (.aload_n 0, 1) := by decide +kernel
theorem dX10_make_1 : decode cX10_make 1 = .ok (.getfield 10, 3) := by decide +kernel
theorem dX10_make_4 : decode cX10_make 4 = .ok (.iload_n 1, 1) := by decide +kernel
theorem dX10_make_5 : decode cX10_make 5 = .ok (.invokevirtual 57, 3) := by decide +kernel
theorem dX10_make_8 : decode cX10_make 8 = .ok (.ifCond .ne 13, 3) := by decide +kernel
theorem dX10_make_11 : decode cX10_make 11 = .ok (.new 61, 3) := by decide +kernel
theorem dX10_make_14 : decode cX10_make 14 = .ok (.dup, 1) := by decide +kernel
theorem dX10_make_15 : decode cX10_make 15 = .ok (.ldc 63, 2) := by decide +kernel
theorem dX10_make_17 : decode cX10_make 17 = .ok (.invokespecial 65, 3) := by decide +kernel
theorem dX10_make_20 : decode cX10_make 20 = .ok (.athrow, 1) := by decide +kernel
theorem dX10_make_21 : decode cX10_make 21 = .ok (.iload_n 2, 1) := by decide +kernel
theorem dX10_make_22 : decode cX10_make 22 = .ok (.invokestatic 68, 3) := by decide +kernel
theorem dX10_make_25 : decode cX10_make 25 = .ok (.ifCond .ne 13, 3) := by decide +kernel
theorem dX10_make_28 : decode cX10_make 28 = .ok (.new 72, 3) := by decide +kernel
theorem dX10_make_31 : decode cX10_make 31 = .ok (.dup, 1) := by decide +kernel
theorem dX10_make_32 : decode cX10_make 32 = .ok (.ldc 74, 2) := by decide +kernel
theorem dX10_make_34 : decode cX10_make 34 = .ok (.invokespecial 76, 3) := by decide +kernel
theorem dX10_make_37 : decode cX10_make 37 = .ok (.athrow, 1) := by decide +kernel
theorem dX10_make_38 : decode cX10_make 38 = .ok (.aload_n 0, 1) := by decide +kernel
theorem dX10_make_39 : decode cX10_make 39 = .ok (.getfield 10, 3) := by decide +kernel
theorem dX10_make_42 : decode cX10_make 42 = .ok (.iload_n 1, 1) := by decide +kernel
theorem dX10_make_43 : decode cX10_make 43 = .ok (.iload_n 2, 1) := by decide +kernel
theorem dX10_make_44 : decode cX10_make 44 = .ok (.invokevirtual 77, 3) := by decide +kernel
theorem dX10_make_47 : decode cX10_make 47 = .ok (.iconst (-1), 1) := by decide +kernel
theorem dX10_make_48 : decode cX10_make 48 = .ok (.if_icmp .ne 13, 3) := by decide +kernel
theorem dX10_make_51 : decode cX10_make 51 = .ok (.aload_n 0, 1) := by decide +kernel
theorem dX10_make_52 : decode cX10_make 52 = .ok (.getfield 10, 3) := by decide +kernel
theorem dX10_make_55 : decode cX10_make 55 = .ok (.invokevirtual 81, 3) := by decide +kernel
theorem dX10_make_58 : decode cX10_make 58 = .ok (.ifCond .eq 13, 3) := by decide +kernel
theorem dX10_make_61 : decode cX10_make 61 = .ok (.new 85, 3) := by decide +kernel
theorem dX10_make_64 : decode cX10_make 64 = .ok (.dup, 1) := by decide +kernel
theorem dX10_make_65 : decode cX10_make 65 = .ok (.ldc 87, 2) := by decide +kernel
theorem dX10_make_67 : decode cX10_make 67 = .ok (.invokespecial 89, 3) := by decide +kernel
theorem dX10_make_70 : decode cX10_make 70 = .ok (.athrow, 1) := by decide +kernel
theorem dX10_make_71 : decode cX10_make 71 = .ok (.aload_n 0, 1) := by decide +kernel
theorem dX10_make_72 : decode cX10_make 72 = .ok (.getfield 10, 3) := by decide +kernel
theorem dX10_make_75 : decode cX10_make 75 = .ok (.iload_n 1, 1) := by decide +kernel
theorem dX10_make_76 : decode cX10_make 76 = .ok (.iload_n 2, 1) := by decide +kernel
theorem dX10_make_77 : decode cX10_make 77 = .ok (.iload_n 3, 1) := by decide +kernel
theorem dX10_make_78 : decode cX10_make 78 = .ok (.invokevirtual 90, 3) := by decide +kernel
theorem dX10_make_81 : decode cX10_make 81 = .ok (.istore 4, 2) := by decide +kernel
theorem dX10_make_83 : decode cX10_make 83 = .ok (.aload_n 0, 1) := by decide +kernel
theorem dX10_make_84 : decode cX10_make 84 = .ok (.getfield 21, 3) := by decide +kernel
theorem dX10_make_87 : decode cX10_make 87 = .ok (.iload 4, 2) := by decide +kernel
theorem dX10_make_89 : decode cX10_make 89 = .ok (.iconst 1, 1) := by decide +kernel
theorem dX10_make_90 : decode cX10_make 90 = .ok (.invokevirtual 94, 3) := by decide +kernel
theorem dX10_make_93 : decode cX10_make 93 = .ok (.iload 4, 2) := by decide +kernel
theorem dX10_make_95 : decode cX10_make 95 = .ok (.ireturn, 1) := by decide +kernel
theorem dX10_write_0 : decode cX10_write 0 = .ok (.aload_n 0, 1) := by decide +kernel
theorem dX10_write_1 : decode cX10_write 1 = .ok (.getfield 10, 3) := by decide +kernel
theorem dX10_write_4 : decode cX10_write 4 = .ok (.iload_n 1, 1) := by decide +kernel
theorem dX10_write_5 : decode cX10_write 5 = .ok (.invokevirtual 98, 3) := by decide +kernel
theorem dX10_write_8 : decode cX10_write 8 = .ok (.ifCond .ne 13, 3) := by decide +kernel
theorem dX10_write_11 : decode cX10_write 11 = .ok (.new 61, 3) := by decide +kernel
theorem dX10_write_14 : decode cX10_write 14 = .ok (.dup, 1) := by decide +kernel
theorem dX10_write_15 : decode cX10_write 15 = .ok (.ldc 101, 2) := by decide +kernel
theorem dX10_write_17 : decode cX10_write 17 = .ok (.invokespecial 65, 3) := by decide +kernel
theorem dX10_write_20 : decode cX10_write 20 = .ok (.athrow, 1) := by decide +kernel
theorem dX10_write_21 : decode cX10_write 21 = .ok (.iload_n 2, 1) := by decide +kernel
theorem dX10_write_22 : decode cX10_write 22 = .ok (.invokestatic 103, 3) := by decide +kernel
theorem dX10_write_25 : decode cX10_write 25 = .ok (.ifCond .ne 25, 3) := by decide +kernel
theorem dX10_write_28 : decode cX10_write 28 = .ok (.iload_n 2, 1) := by decide +kernel
theorem dX10_write_29 : decode cX10_write 29 = .ok (.bipush (-2), 2) := by decide +kernel
theorem dX10_write_31 : decode cX10_write 31 = .ok (.if_icmp .eq 19, 3) := by decide +kernel
theorem dX10_write_34 : decode cX10_write 34 = .ok (.iload_n 2, 1) := by decide +kernel
theorem dX10_write_35 : decode cX10_write 35 = .ok (.bipush (-3), 2) := by decide +kernel
theorem dX10_write_37 : decode cX10_write 37 = .ok (.if_icmp .eq 13, 3) := by decide +kernel
theorem dX10_write_40 : decode cX10_write 40 = .ok (.new 72, 3) := by decide +kernel
theorem dX10_write_43 : decode cX10_write 43 = .ok (.dup, 1) := by decide +kernel
theorem dX10_write_44 : decode cX10_write 44 = .ok (.ldc 106, 2) := by decide +kernel
theorem dX10_write_46 : decode cX10_write 46 = .ok (.invokespecial 76, 3) := by decide +kernel
theorem dX10_write_49 : decode cX10_write 49 = .ok (.athrow, 1) := by decide +kernel
theorem dX10_write_50 : decode cX10_write 50 = .ok (.aload_n 0, 1) := by decide +kernel
theorem dX10_write_51 : decode cX10_write 51 = .ok (.getfield 10, 3) := by decide +kernel
theorem dX10_write_54 : decode cX10_write 54 = .ok (.iload_n 1, 1) := by decide +kernel
theorem dX10_write_55 : decode cX10_write 55 = .ok (.invokevirtual 108, 3) := by decide +kernel
theorem dX10_write_58 : decode cX10_write 58 = .ok (.ifCond .ne 16, 3) := by decide +kernel
theorem dX10_write_61 : decode cX10_write 61 = .ok (.aload_n 0, 1) := by decide +kernel
theorem dX10_write_62 : decode cX10_write 62 = .ok (.getfield 10, 3) := by decide +kernel
theorem dX10_write_65 : decode cX10_write 65 = .ok (.iload_n 1, 1) := by decide +kernel
theorem dX10_write_66 : decode cX10_write 66 = .ok (.invokevirtual 111, 3) := by decide +kernel
theorem dX10_write_69 : decode cX10_write 69 = .ok (.bipush 20, 2) := by decide +kernel
theorem dX10_write_71 : decode cX10_write 71 = .ok (.if_icmp .lt 13, 3) := by decide +kernel
theorem dX10_write_74 : decode cX10_write 74 = .ok (.new 85, 3) := by decide +kernel
theorem dX10_write_77 : decode cX10_write 77 = .ok (.dup, 1) := by decide +kernel
theorem dX10_write_78 : decode cX10_write 78 = .ok (.ldc 115, 2) := by decide +kernel
theorem dX10_write_80 : decode cX10_write 80 = .ok (.invokespecial 89, 3) := by decide +kernel
theorem dX10_write_83 : decode cX10_write 83 = .ok (.athrow, 1) := by decide +kernel
theorem dX10_write_84 : decode cX10_write 84 = .ok (.aload_n 0, 1) := by decide +kernel
theorem dX10_write_85 : decode cX10_write 85 = .ok (.getfield 10, 3) := by decide +kernel
theorem dX10_write_88 : decode cX10_write 88 = .ok (.iload_n 1, 1) := by decide +kernel
theorem dX10_write_89 : decode cX10_write 89 = .ok (.iload_n 2, 1) := by decide +kernel
theorem dX10_write_90 : decode cX10_write 90 = .ok (.invokevirtual 117, 3) := by decide +kernel
theorem dX10_write_93 : decode cX10_write 93 = .ok (.aload_n 0, 1) := by decide +kernel
theorem dX10_write_94 : decode cX10_write 94 = .ok (.getfield 21, 3) := by decide +kernel
theorem dX10_write_97 : decode cX10_write 97 = .ok (.iload_n 1, 1) := by decide +kernel
theorem dX10_write_98 : decode cX10_write 98 = .ok (.iconst 2, 1) := by decide +kernel
theorem dX10_write_99 : decode cX10_write 99 = .ok (.invokevirtual 94, 3) := by decide +kernel
theorem dX10_write_102 : decode cX10_write 102 = .ok (.aload_n 0, 1) := by decide +kernel
theorem dX10_write_103 : decode cX10_write 103 = .ok (.getfield 10, 3) := by decide +kernel
theorem dX10_write_106 : decode cX10_write 106 = .ok (.iload_n 1, 1) := by decide +kernel
theorem dX10_write_107 : decode cX10_write 107 = .ok (.invokevirtual 120, 3) := by decide +kernel
theorem dX10_write_110 : decode cX10_write 110 = .ok (.ireturn, 1) := by decide +kernel
theorem dX10_move_0 : decode cX10_move 0 = .ok (.iload_n 1, 1) := by decide +kernel
theorem dX10_move_1 : decode cX10_move 1 = .ok (.ifCond .eq 25, 3) := by decide +kernel
theorem dX10_move_4 : decode cX10_move 4 = .ok (.aload_n 0, 1) := by decide +kernel
theorem dX10_move_5 : decode cX10_move 5 = .ok (.getfield 10, 3) := by decide +kernel
theorem dX10_move_8 : decode cX10_move 8 = .ok (.iload_n 1, 1) := by decide +kernel
theorem dX10_move_9 : decode cX10_move 9 = .ok (.invokevirtual 129, 3) := by decide +kernel
theorem dX10_move_12 : decode cX10_move 12 = .ok (.ifCond .eq 14, 3) := by decide +kernel
theorem dX10_move_15 : decode cX10_move 15 = .ok (.aload_n 0, 1) := by decide +kernel
theorem dX10_move_16 : decode cX10_move 16 = .ok (.getfield 10, 3) := by decide +kernel
theorem dX10_move_19 : decode cX10_move 19 = .ok (.iload_n 2, 1) := by decide +kernel
theorem dX10_move_20 : decode cX10_move 20 = .ok (.invokevirtual 57, 3) := by decide +kernel
theorem dX10_move_23 : decode cX10_move 23 = .ok (.ifCond .ne 13, 3) := by decide +kernel
theorem dX10_move_26 : decode cX10_move 26 = .ok (.new 61, 3) := by decide +kernel
theorem dX10_move_29 : decode cX10_move 29 = .ok (.dup, 1) := by decide +kernel
theorem dX10_move_30 : decode cX10_move 30 = .ok (.ldc 132, 2) := by decide +kernel
theorem dX10_move_32 : decode cX10_move 32 = .ok (.invokespecial 65, 3) := by decide +kernel
theorem dX10_move_35 : decode cX10_move 35 = .ok (.athrow, 1) := by decide +kernel
theorem dX10_move_36 : decode cX10_move 36 = .ok (.iload_n 3, 1) := by decide +kernel
theorem dX10_move_37 : decode cX10_move 37 = .ok (.invokestatic 68, 3) := by decide +kernel
theorem dX10_move_40 : decode cX10_move 40 = .ok (.ifCond .ne 13, 3) := by decide +kernel
theorem dX10_move_43 : decode cX10_move 43 = .ok (.new 72, 3) := by decide +kernel
theorem dX10_move_46 : decode cX10_move 46 = .ok (.dup, 1) := by decide +kernel
theorem dX10_move_47 : decode cX10_move 47 = .ok (.ldc 74, 2) := by decide +kernel
theorem dX10_move_49 : decode cX10_move 49 = .ok (.invokespecial 76, 3) := by decide +kernel
theorem dX10_move_52 : decode cX10_move 52 = .ok (.athrow, 1) := by decide +kernel
theorem dX10_move_53 : decode cX10_move 53 = .ok (.aload_n 0, 1) := by decide +kernel
theorem dX10_move_54 : decode cX10_move 54 = .ok (.getfield 10, 3) := by decide +kernel
theorem dX10_move_57 : decode cX10_move 57 = .ok (.iload_n 2, 1) := by decide +kernel
theorem dX10_move_58 : decode cX10_move 58 = .ok (.iload_n 3, 1) := by decide +kernel
theorem dX10_move_59 : decode cX10_move 59 = .ok (.invokevirtual 77, 3) := by decide +kernel
theorem dX10_move_62 : decode cX10_move 62 = .ok (.istore 4, 2) := by decide +kernel
theorem dX10_move_64 : decode cX10_move 64 = .ok (.iload_n 2, 1) := by decide +kernel
theorem dX10_move_65 : decode cX10_move 65 = .ok (.iload_n 1, 1) := by decide +kernel
theorem dX10_move_66 : decode cX10_move 66 = .ok (.if_icmp .eq 27, 3) := by decide +kernel
theorem dX10_move_69 : decode cX10_move 69 = .ok (.aload_n 0, 1) := by decide +kernel
theorem dX10_move_70 : decode cX10_move 70 = .ok (.getfield 10, 3) := by decide +kernel
theorem dX10_move_73 : decode cX10_move 73 = .ok (.iload_n 2, 1) := by decide +kernel
theorem dX10_move_74 : decode cX10_move 74 = .ok (.iload_n 1, 1) := by decide +kernel
theorem dX10_move_75 : decode cX10_move 75 = .ok (.invokevirtual 134, 3) := by decide +kernel
theorem dX10_move_78 : decode cX10_move 78 = .ok (.ifCond .ne 15, 3) := by decide +kernel
theorem dX10_move_81 : decode cX10_move 81 = .ok (.iload 4, 2) := by decide +kernel
theorem dX10_move_83 : decode cX10_move 83 = .ok (.iconst (-1), 1) := by decide +kernel
theorem dX10_move_84 : decode cX10_move 84 = .ok (.if_icmp .eq 19, 3) := by decide +kernel
theorem dX10_move_87 : decode cX10_move 87 = .ok (.iload 4, 2) := by decide +kernel
theorem dX10_move_89 : decode cX10_move 89 = .ok (.iload_n 1, 1) := by decide +kernel
theorem dX10_move_90 : decode cX10_move 90 = .ok (.if_icmp .eq 13, 3) := by decide +kernel
theorem dX10_move_93 : decode cX10_move 93 = .ok (.new 85, 3) := by decide +kernel
theorem dX10_move_96 : decode cX10_move 96 = .ok (.dup, 1) := by decide +kernel
theorem dX10_move_97 : decode cX10_move 97 = .ok (.ldc 138, 2) := by decide +kernel
theorem dX10_move_99 : decode cX10_move 99 = .ok (.invokespecial 89, 3) := by decide +kernel
theorem dX10_move_102 : decode cX10_move 102 = .ok (.athrow, 1) := by decide +kernel
theorem dX10_move_103 : decode cX10_move 103 = .ok (.aload_n 0, 1) := by decide +kernel
theorem dX10_move_104 : decode cX10_move 104 = .ok (.getfield 21, 3) := by decide +kernel
theorem dX10_move_107 : decode cX10_move 107 = .ok (.iload_n 2, 1) := by decide +kernel
theorem dX10_move_108 : decode cX10_move 108 = .ok (.invokevirtual 140, 3) := by decide +kernel
theorem dX10_move_111 : decode cX10_move 111 = .ok (.astore 5, 2) := by decide +kernel
theorem dX10_move_113 : decode cX10_move 113 = .ok (.aload 5, 2) := by decide +kernel
theorem dX10_move_115 : decode cX10_move 115 = .ok (.ifnull 24, 3) := by decide +kernel
theorem dX10_move_118 : decode cX10_move 118 = .ok (.aload_n 0, 1) := by decide +kernel
theorem dX10_move_119 : decode cX10_move 119 = .ok (.getfield 21, 3) := by decide +kernel
theorem dX10_move_122 : decode cX10_move 122 = .ok (.iload_n 1, 1) := by decide +kernel
theorem dX10_move_123 : decode cX10_move 123 = .ok (.invokevirtual 144, 3) := by decide +kernel
theorem dX10_move_126 : decode cX10_move 126 = .ok (.ifCond .eq 13, 3) := by decide +kernel
theorem dX10_move_129 : decode cX10_move 129 = .ok (.new 85, 3) := by decide +kernel
theorem dX10_move_132 : decode cX10_move 132 = .ok (.dup, 1) := by decide +kernel
theorem dX10_move_133 : decode cX10_move 133 = .ok (.ldc 147, 2) := by decide +kernel
theorem dX10_move_135 : decode cX10_move 135 = .ok (.invokespecial 89, 3) := by decide +kernel
theorem dX10_move_138 : decode cX10_move 138 = .ok (.athrow, 1) := by decide +kernel
theorem dX10_move_139 : decode cX10_move 139 = .ok (.aload_n 0, 1) := by decide +kernel
theorem dX10_move_140 : decode cX10_move 140 = .ok (.getfield 21, 3) := by decide +kernel
theorem dX10_move_143 : decode cX10_move 143 = .ok (.iload_n 1, 1) := by decide +kernel
theorem dX10_move_144 : decode cX10_move 144 = .ok (.invokevirtual 149, 3) := by decide +kernel
theorem dX10_move_147 : decode cX10_move 147 = .ok (.astore 6, 2) := by decide +kernel
theorem dX10_move_149 : decode cX10_move 149 = .ok (.aload_n 0, 1) := by decide +kernel
theorem dX10_move_150 : decode cX10_move 150 = .ok (.getfield 10, 3) := by decide +kernel
theorem dX10_move_153 : decode cX10_move 153 = .ok (.iload_n 1, 1) := by decide +kernel
theorem dX10_move_154 : decode cX10_move 154 = .ok (.invokevirtual 152, 3) := by decide +kernel
theorem dX10_move_157 : decode cX10_move 157 = .ok (.istore 7, 2) := by decide +kernel
theorem dX10_move_159 : decode cX10_move 159 = .ok (.aload_n 0, 1) := by decide +kernel
theorem dX10_move_160 : decode cX10_move 160 = .ok (.getfield 10, 3) := by decide +kernel
theorem dX10_move_163 : decode cX10_move 163 = .ok (.iload_n 1, 1) := by decide +kernel
theorem dX10_move_164 : decode cX10_move 164 = .ok (.iload_n 2, 1) := by decide +kernel
theorem dX10_move_165 : decode cX10_move 165 = .ok (.iload_n 3, 1) := by decide +kernel
theorem dX10_move_166 : decode cX10_move 166 = .ok (.invokevirtual 155, 3) := by decide +kernel
theorem dX10_move_169 : decode cX10_move 169 = .ok (.aload 6, 2) := by decide +kernel
theorem dX10_move_171 : decode cX10_move 171 = .ok (.ifnull 17, 3) := by decide +kernel
theorem dX10_move_174 : decode cX10_move 174 = .ok (.aload 6, 2) := by decide +kernel
theorem dX10_move_176 : decode cX10_move 176 = .ok (.aload 5, 2) := by decide +kernel
theorem dX10_move_178 : decode cX10_move 178 = .ok (.if_acmp .eq 10, 3) := by decide +kernel
theorem dX10_move_181 : decode cX10_move 181 = .ok (.aload 6, 2) := by decide +kernel
theorem dX10_move_183 : decode cX10_move 183 = .ok (.iconst 3, 1) := by decide +kernel
theorem dX10_move_184 : decode cX10_move 184 = .ok (.iload_n 1, 1) := by decide +kernel
theorem dX10_move_185 : decode cX10_move 185 = .ok (.invokevirtual 159, 3) := by decide +kernel
theorem dX10_move_188 : decode cX10_move 188 = .ok (.aload 5, 2) := by decide +kernel
theorem dX10_move_190 : decode cX10_move 190 = .ok (.ifnull 10, 3) := by decide +kernel
theorem dX10_move_193 : decode cX10_move 193 = .ok (.aload 5, 2) := by decide +kernel
theorem dX10_move_195 : decode cX10_move 195 = .ok (.iconst 1, 1) := by decide +kernel
theorem dX10_move_196 : decode cX10_move 196 = .ok (.iload_n 1, 1) := by decide +kernel
theorem dX10_move_197 : decode cX10_move 197 = .ok (.invokevirtual 159, 3) := by decide +kernel
theorem dX10_move_200 : decode cX10_move 200 = .ok (.iload 7, 2) := by decide +kernel
theorem dX10_move_202 : decode cX10_move 202 = .ok (.ireturn, 1) := by decide +kernel
theorem dX10_remove_0 : decode cX10_remove 0 = .ok (.iload_n 1, 1) := by decide +kernel
theorem dX10_remove_1 : decode cX10_remove 1 = .ok (.ifCond .eq 14, 3) := by decide +kernel
theorem dX10_remove_4 : decode cX10_remove 4 = .ok (.aload_n 0, 1) := by decide +kernel
theorem dX10_remove_5 : decode cX10_remove 5 = .ok (.getfield 10, 3) := by decide +kernel
theorem dX10_remove_8 : decode cX10_remove 8 = .ok (.iload_n 1, 1) := by decide +kernel
theorem dX10_remove_9 : decode cX10_remove 9 = .ok (.invokevirtual 129, 3) := by decide +kernel
theorem dX10_remove_12 : decode cX10_remove 12 = .ok (.ifCond .ne 13, 3) := by decide +kernel
theorem dX10_remove_15 : decode cX10_remove 15 = .ok (.new 61, 3) := by decide +kernel
theorem dX10_remove_18 : decode cX10_remove 18 = .ok (.dup, 1) := by decide +kernel
theorem dX10_remove_19 : decode cX10_remove 19 = .ok (.ldc 164, 2) := by decide +kernel
theorem dX10_remove_21 : decode cX10_remove 21 = .ok (.invokespecial 65, 3) := by decide +kernel
theorem dX10_remove_24 : decode cX10_remove 24 = .ok (.athrow, 1) := by decide +kernel
theorem dX10_remove_25 : decode cX10_remove 25 = .ok (.aload_n 0, 1) := by decide +kernel
theorem dX10_remove_26 : decode cX10_remove 26 = .ok (.getfield 21, 3) := by decide +kernel
theorem dX10_remove_29 : decode cX10_remove 29 = .ok (.iload_n 1, 1) := by decide +kernel
theorem dX10_remove_30 : decode cX10_remove 30 = .ok (.iconst 3, 1) := by decide +kernel
theorem dX10_remove_31 : decode cX10_remove 31 = .ok (.invokevirtual 94, 3) := by decide +kernel
theorem dX10_remove_34 : decode cX10_remove 34 = .ok (.aload_n 0, 1) := by decide +kernel
theorem dX10_remove_35 : decode cX10_remove 35 = .ok (.getfield 10, 3) := by decide +kernel
theorem dX10_remove_38 : decode cX10_remove 38 = .ok (.iload_n 1, 1) := by decide +kernel
theorem dX10_remove_39 : decode cX10_remove 39 = .ok (.invokevirtual 166, 3) := by decide +kernel
theorem dX10_remove_42 : decode cX10_remove 42 = .ok (.istore_n 2, 1) := by decide +kernel
theorem dX10_remove_43 : decode cX10_remove 43 = .ok (.aload_n 0, 1) := by decide +kernel
theorem dX10_remove_44 : decode cX10_remove 44 = .ok (.getfield 21, 3) := by decide +kernel
theorem dX10_remove_47 : decode cX10_remove 47 = .ok (.invokevirtual 169, 3) := by decide +kernel
theorem dX10_remove_50 : decode cX10_remove 50 = .ok (.ifCond .eq 10, 3) := by decide +kernel
theorem dX10_remove_53 : decode cX10_remove 53 = .ok (.aload_n 0, 1) := by decide +kernel
theorem dX10_remove_54 : decode cX10_remove 54 = .ok (.getfield 46, 3) := by decide +kernel
theorem dX10_remove_57 : decode cX10_remove 57 = .ok (.invokevirtual 172, 3) := by decide +kernel
theorem dX10_remove_60 : decode cX10_remove 60 = .ok (.iload_n 2, 1) := by decide +kernel
theorem dX10_remove_61 : decode cX10_remove 61 = .ok (.ireturn, 1) := by decide +kernel
theorem dX10_lock_0 : decode cX10_lock 0 = .ok (.aload_n 0, 1) := by decide +kernel
theorem dX10_lock_1 : decode cX10_lock 1 = .ok (.getfield 10, 3) := by decide +kernel
theorem dX10_lock_4 : decode cX10_lock 4 = .ok (.iload_n 1, 1) := by decide +kernel
theorem dX10_lock_5 : decode cX10_lock 5 = .ok (.invokevirtual 98, 3) := by decide +kernel
theorem dX10_lock_8 : decode cX10_lock 8 = .ok (.ifCond .ne 13, 3) := by decide +kernel
theorem dX10_lock_11 : decode cX10_lock 11 = .ok (.new 61, 3) := by decide +kernel
theorem dX10_lock_14 : decode cX10_lock 14 = .ok (.dup, 1) := by decide +kernel
theorem dX10_lock_15 : decode cX10_lock 15 = .ok (.ldc 101, 2) := by decide +kernel
theorem dX10_lock_17 : decode cX10_lock 17 = .ok (.invokespecial 65, 3) := by decide +kernel
theorem dX10_lock_20 : decode cX10_lock 20 = .ok (.athrow, 1) := by decide +kernel
theorem dX10_lock_21 : decode cX10_lock 21 = .ok (.aload_n 0, 1) := by decide +kernel
theorem dX10_lock_22 : decode cX10_lock 22 = .ok (.getfield 10, 3) := by decide +kernel
theorem dX10_lock_25 : decode cX10_lock 25 = .ok (.iload_n 1, 1) := by decide +kernel
theorem dX10_lock_26 : decode cX10_lock 26 = .ok (.invokevirtual 108, 3) := by decide +kernel
theorem dX10_lock_29 : decode cX10_lock 29 = .ok (.istore_n 3, 1) := by decide +kernel
theorem dX10_lock_30 : decode cX10_lock 30 = .ok (.aload_n 0, 1) := by decide +kernel
theorem dX10_lock_31 : decode cX10_lock 31 = .ok (.getfield 10, 3) := by decide +kernel
theorem dX10_lock_34 : decode cX10_lock 34 = .ok (.iload_n 1, 1) := by decide +kernel
theorem dX10_lock_35 : decode cX10_lock 35 = .ok (.iload_n 2, 1) := by decide +kernel
theorem dX10_lock_36 : decode cX10_lock 36 = .ok (.invokevirtual 175, 3) := by decide +kernel
theorem dX10_lock_39 : decode cX10_lock 39 = .ok (.iload_n 3, 1) := by decide +kernel
theorem dX10_lock_40 : decode cX10_lock 40 = .ok (.ireturn, 1) := by decide +kernel
theorem dX10_people_0 : decode cX10_people 0 = .ok (.aload_n 0, 1) := by decide +kernel
theorem dX10_people_1 : decode cX10_people 1 = .ok (.getfield 10, 3) := by decide +kernel
theorem dX10_people_4 : decode cX10_people 4 = .ok (.iload_n 1, 1) := by decide +kernel
theorem dX10_people_5 : decode cX10_people 5 = .ok (.invokevirtual 129, 3) := by decide +kernel
theorem dX10_people_8 : decode cX10_people 8 = .ok (.ifCond .ne 13, 3) := by decide +kernel
theorem dX10_people_11 : decode cX10_people 11 = .ok (.new 61, 3) := by decide +kernel
theorem dX10_people_14 : decode cX10_people 14 = .ok (.dup, 1) := by decide +kernel
theorem dX10_people_15 : decode cX10_people 15 = .ok (.ldc 179, 2) := by decide +kernel
theorem dX10_people_17 : decode cX10_people 17 = .ok (.invokespecial 65, 3) := by decide +kernel
theorem dX10_people_20 : decode cX10_people 20 = .ok (.athrow, 1) := by decide +kernel
theorem dX10_people_21 : decode cX10_people 21 = .ok (.iload_n 2, 1) := by decide +kernel
theorem dX10_people_22 : decode cX10_people 22 = .ok (.ifCond .lt 9, 3) := by decide +kernel
theorem dX10_people_25 : decode cX10_people 25 = .ok (.iload_n 2, 1) := by decide +kernel
theorem dX10_people_26 : decode cX10_people 26 = .ok (.bipush 15, 2) := by decide +kernel
theorem dX10_people_28 : decode cX10_people 28 = .ok (.if_icmp .le 13, 3) := by decide +kernel
theorem dX10_people_31 : decode cX10_people 31 = .ok (.new 72, 3) := by decide +kernel
theorem dX10_people_34 : decode cX10_people 34 = .ok (.dup, 1) := by decide +kernel
theorem dX10_people_35 : decode cX10_people 35 = .ok (.ldc 181, 2) := by decide +kernel
theorem dX10_people_37 : decode cX10_people 37 = .ok (.invokespecial 76, 3) := by decide +kernel
theorem dX10_people_40 : decode cX10_people 40 = .ok (.athrow, 1) := by decide +kernel
theorem dX10_people_41 : decode cX10_people 41 = .ok (.aload_n 0, 1) := by decide +kernel
theorem dX10_people_42 : decode cX10_people 42 = .ok (.getfield 10, 3) := by decide +kernel
theorem dX10_people_45 : decode cX10_people 45 = .ok (.iload_n 1, 1) := by decide +kernel
theorem dX10_people_46 : decode cX10_people 46 = .ok (.invokevirtual 183, 3) := by decide +kernel
theorem dX10_people_49 : decode cX10_people 49 = .ok (.istore_n 3, 1) := by decide +kernel
theorem dX10_people_50 : decode cX10_people 50 = .ok (.aload_n 0, 1) := by decide +kernel
theorem dX10_people_51 : decode cX10_people 51 = .ok (.getfield 10, 3) := by decide +kernel
theorem dX10_people_54 : decode cX10_people 54 = .ok (.iload_n 1, 1) := by decide +kernel
theorem dX10_people_55 : decode cX10_people 55 = .ok (.iload_n 2, 1) := by decide +kernel
theorem dX10_people_56 : decode cX10_people 56 = .ok (.invokevirtual 186, 3) := by decide +kernel
theorem dX10_people_59 : decode cX10_people 59 = .ok (.iload_n 3, 1) := by decide +kernel
theorem dX10_people_60 : decode cX10_people 60 = .ok (.ireturn, 1) := by decide +kernel
theorem dX10_nodes_0 : decode cX10_nodes 0 = .ok (.aload_n 0, 1) := by decide +kernel
theorem dX10_nodes_1 : decode cX10_nodes 1 = .ok (.getfield 10, 3) := by decide +kernel
theorem dX10_nodes_4 : decode cX10_nodes 4 = .ok (.invokevirtual 197, 3) := by decide +kernel
theorem dX10_nodes_7 : decode cX10_nodes 7 = .ok (.ireturn, 1) := by decide +kernel
theorem dX10_watch_0 : decode cX10_watch 0 = .ok (.aload_n 0, 1) := by decide +kernel
theorem dX10_watch_1 : decode cX10_watch 1 = .ok (.getfield 10, 3) := by decide +kernel
theorem dX10_watch_4 : decode cX10_watch 4 = .ok (.iload_n 1, 1) := by decide +kernel
theorem dX10_watch_5 : decode cX10_watch 5 = .ok (.invokevirtual 57, 3) := by decide +kernel
theorem dX10_watch_8 : decode cX10_watch 8 = .ok (.ifCond .ne 13, 3) := by decide +kernel
theorem dX10_watch_11 : decode cX10_watch 11 = .ok (.new 61, 3) := by decide +kernel
theorem dX10_watch_14 : decode cX10_watch 14 = .ok (.dup, 1) := by decide +kernel
theorem dX10_watch_15 : decode cX10_watch 15 = .ok (.ldc 63, 2) := by decide +kernel
theorem dX10_watch_17 : decode cX10_watch 17 = .ok (.invokespecial 65, 3) := by decide +kernel
theorem dX10_watch_20 : decode cX10_watch 20 = .ok (.athrow, 1) := by decide +kernel
theorem dX10_watch_21 : decode cX10_watch 21 = .ok (.aload_n 0, 1) := by decide +kernel
theorem dX10_watch_22 : decode cX10_watch 22 = .ok (.getfield 21, 3) := by decide +kernel
theorem dX10_watch_25 : decode cX10_watch 25 = .ok (.iload_n 1, 1) := by decide +kernel
theorem dX10_watch_26 : decode cX10_watch 26 = .ok (.invokevirtual 201, 3) := by decide +kernel
theorem dX10_watch_29 : decode cX10_watch 29 = .ok (.ifnull 26, 3) := by decide +kernel
theorem dX10_watch_32 : decode cX10_watch 32 = .ok (.aload_n 0, 1) := by decide +kernel
theorem dX10_watch_33 : decode cX10_watch 33 = .ok (.getfield 21, 3) := by decide +kernel
theorem dX10_watch_36 : decode cX10_watch 36 = .ok (.iload_n 1, 1) := by decide +kernel
theorem dX10_watch_37 : decode cX10_watch 37 = .ok (.invokevirtual 204, 3) := by decide +kernel
theorem dX10_watch_40 : decode cX10_watch 40 = .ok (.aload_n 0, 1) := by decide +kernel
theorem dX10_watch_41 : decode cX10_watch 41 = .ok (.getfield 46, 3) := by decide +kernel
theorem dX10_watch_44 : decode cX10_watch 44 = .ok (.invokevirtual 172, 3) := by decide +kernel
theorem dX10_watch_47 : decode cX10_watch 47 = .ok (.aload_n 0, 1) := by decide +kernel
theorem dX10_watch_48 : decode cX10_watch 48 = .ok (.getfield 21, 3) := by decide +kernel
theorem dX10_watch_51 : decode cX10_watch 51 = .ok (.invokevirtual 207, 3) := by decide +kernel
theorem dX10_watch_54 : decode cX10_watch 54 = .ok (.ireturn, 1) := by decide +kernel
theorem dX10_watch_55 : decode cX10_watch 55 = .ok (.aload_n 0, 1) := by decide +kernel
theorem dX10_watch_56 : decode cX10_watch 56 = .ok (.getfield 21, 3) := by decide +kernel
theorem dX10_watch_59 : decode cX10_watch 59 = .ok (.invokevirtual 210, 3) := by decide +kernel
theorem dX10_watch_62 : decode cX10_watch 62 = .ok (.ifCond .ne 25, 3) := by decide +kernel
theorem dX10_watch_65 : decode cX10_watch 65 = .ok (.aload_n 0, 1) := by decide +kernel
theorem dX10_watch_66 : decode cX10_watch 66 = .ok (.getfield 21, 3) := by decide +kernel
theorem dX10_watch_69 : decode cX10_watch 69 = .ok (.iload_n 1, 1) := by decide +kernel
theorem dX10_watch_70 : decode cX10_watch 70 = .ok (.invokevirtual 140, 3) := by decide +kernel
theorem dX10_watch_73 : decode cX10_watch 73 = .ok (.ifnonnull 14, 3) := by decide +kernel
theorem dX10_watch_76 : decode cX10_watch 76 = .ok (.aload_n 0, 1) := by decide +kernel
theorem dX10_watch_77 : decode cX10_watch 77 = .ok (.getfield 21, 3) := by decide +kernel
theorem dX10_watch_80 : decode cX10_watch 80 = .ok (.iload_n 1, 1) := by decide +kernel
theorem dX10_watch_81 : decode cX10_watch 81 = .ok (.invokevirtual 144, 3) := by decide +kernel
theorem dX10_watch_84 : decode cX10_watch 84 = .ok (.ifCond .eq 13, 3) := by decide +kernel
theorem dX10_watch_87 : decode cX10_watch 87 = .ok (.new 85, 3) := by decide +kernel
theorem dX10_watch_90 : decode cX10_watch 90 = .ok (.dup, 1) := by decide +kernel
theorem dX10_watch_91 : decode cX10_watch 91 = .ok (.ldc 211, 2) := by decide +kernel
theorem dX10_watch_93 : decode cX10_watch 93 = .ok (.invokespecial 89, 3) := by decide +kernel
theorem dX10_watch_96 : decode cX10_watch 96 = .ok (.athrow, 1) := by decide +kernel
theorem dX10_watch_97 : decode cX10_watch 97 = .ok (.aload_n 0, 1) := by decide +kernel
theorem dX10_watch_98 : decode cX10_watch 98 = .ok (.getfield 21, 3) := by decide +kernel
theorem dX10_watch_101 : decode cX10_watch 101 = .ok (.iload_n 1, 1) := by decide +kernel
theorem dX10_watch_102 : decode cX10_watch 102 = .ok (.invokevirtual 213, 3) := by decide +kernel
theorem dX10_watch_105 : decode cX10_watch 105 = .ok (.aload_n 0, 1) := by decide +kernel
theorem dX10_watch_106 : decode cX10_watch 106 = .ok (.getfield 21, 3) := by decide +kernel
theorem dX10_watch_109 : decode cX10_watch 109 = .ok (.invokevirtual 207, 3) := by decide +kernel
theorem dX10_watch_112 : decode cX10_watch 112 = .ok (.ireturn, 1) := by decide +kernel
theorem dX10_notices_0 : decode cX10_notices 0 = .ok (.aload_n 0, 1) := by decide +kernel
theorem dX10_notices_1 : decode cX10_notices 1 = .ok (.getfield 21, 3) := by decide +kernel
theorem dX10_notices_4 : decode cX10_notices 4 = .ok (.iload_n 1, 1) := by decide +kernel
theorem dX10_notices_5 : decode cX10_notices 5 = .ok (.invokevirtual 201, 3) := by decide +kernel
theorem dX10_notices_8 : decode cX10_notices 8 = .ok (.astore_n 2, 1) := by decide +kernel
theorem dX10_notices_9 : decode cX10_notices 9 = .ok (.aload_n 2, 1) := by decide +kernel
theorem dX10_notices_10 : decode cX10_notices 10 = .ok (.ifnonnull 13, 3) := by decide +kernel
theorem dX10_notices_13 : decode cX10_notices 13 = .ok (.new 61, 3) := by decide +kernel
theorem dX10_notices_16 : decode cX10_notices 16 = .ok (.dup, 1) := by decide +kernel
theorem dX10_notices_17 : decode cX10_notices 17 = .ok (.ldc 215, 2) := by decide +kernel
theorem dX10_notices_19 : decode cX10_notices 19 = .ok (.invokespecial 65, 3) := by decide +kernel
theorem dX10_notices_22 : decode cX10_notices 22 = .ok (.athrow, 1) := by decide +kernel
theorem dX10_notices_23 : decode cX10_notices 23 = .ok (.aload_n 2, 1) := by decide +kernel
theorem dX10_notices_24 : decode cX10_notices 24 = .ok (.invokevirtual 217, 3) := by decide +kernel
theorem dX10_notices_27 : decode cX10_notices 27 = .ok (.ireturn, 1) := by decide +kernel
theorem dX10_twice_0 : decode cX10_twice 0 = .ok (.aload_n 0, 1) := by decide +kernel
theorem dX10_twice_1 : decode cX10_twice 1 = .ok (.getfield 21, 3) := by decide +kernel
theorem dX10_twice_4 : decode cX10_twice 4 = .ok (.iload_n 1, 1) := by decide +kernel
theorem dX10_twice_5 : decode cX10_twice 5 = .ok (.invokevirtual 201, 3) := by decide +kernel
theorem dX10_twice_8 : decode cX10_twice 8 = .ok (.astore_n 2, 1) := by decide +kernel
theorem dX10_twice_9 : decode cX10_twice 9 = .ok (.aload_n 2, 1) := by decide +kernel
theorem dX10_twice_10 : decode cX10_twice 10 = .ok (.ifnonnull 13, 3) := by decide +kernel
theorem dX10_twice_13 : decode cX10_twice 13 = .ok (.new 61, 3) := by decide +kernel
theorem dX10_twice_16 : decode cX10_twice 16 = .ok (.dup, 1) := by decide +kernel
theorem dX10_twice_17 : decode cX10_twice 17 = .ok (.ldc 215, 2) := by decide +kernel
theorem dX10_twice_19 : decode cX10_twice 19 = .ok (.invokespecial 65, 3) := by decide +kernel
theorem dX10_twice_22 : decode cX10_twice 22 = .ok (.athrow, 1) := by decide +kernel
theorem dX10_twice_23 : decode cX10_twice 23 = .ok (.aload_n 2, 1) := by decide +kernel
theorem dX10_twice_24 : decode cX10_twice 24 = .ok (.invokevirtual 220, 3) := by decide +kernel
theorem dX10_twice_27 : decode cX10_twice 27 = .ok (.ifCond .ne 13, 3) := by decide +kernel
theorem dX10_twice_30 : decode cX10_twice 30 = .ok (.new 85, 3) := by decide +kernel
theorem dX10_twice_33 : decode cX10_twice 33 = .ok (.dup, 1) := by decide +kernel
theorem dX10_twice_34 : decode cX10_twice 34 = .ok (.ldc 223, 2) := by decide +kernel
theorem dX10_twice_36 : decode cX10_twice 36 = .ok (.invokespecial 89, 3) := by decide +kernel
theorem dX10_twice_39 : decode cX10_twice 39 = .ok (.athrow, 1) := by decide +kernel
theorem dX10_twice_40 : decode cX10_twice 40 = .ok (.aload_n 2, 1) := by decide +kernel
theorem dX10_twice_41 : decode cX10_twice 41 = .ok (.invokevirtual 225, 3) := by decide +kernel
theorem dX10_twice_44 : decode cX10_twice 44 = .ok (.aload_n 2, 1) := by decide +kernel
theorem dX10_twice_45 : decode cX10_twice 45 = .ok (.invokevirtual 217, 3) := by decide +kernel
theorem dX10_twice_48 : decode cX10_twice 48 = .ok (.ireturn, 1) := by decide +kernel
theorem dX10_lose_0 : decode cX10_lose 0 = .ok (.aload_n 0, 1) := by decide +kernel
theorem dX10_lose_1 : decode cX10_lose 1 = .ok (.getfield 21, 3) := by decide +kernel
theorem dX10_lose_4 : decode cX10_lose 4 = .ok (.iload_n 1, 1) := by decide +kernel
theorem dX10_lose_5 : decode cX10_lose 5 = .ok (.invokevirtual 201, 3) := by decide +kernel
theorem dX10_lose_8 : decode cX10_lose 8 = .ok (.astore_n 3, 1) := by decide +kernel
theorem dX10_lose_9 : decode cX10_lose 9 = .ok (.aload_n 3, 1) := by decide +kernel
theorem dX10_lose_10 : decode cX10_lose 10 = .ok (.ifnonnull 13, 3) := by decide +kernel
theorem dX10_lose_13 : decode cX10_lose 13 = .ok (.new 61, 3) := by decide +kernel
theorem dX10_lose_16 : decode cX10_lose 16 = .ok (.dup, 1) := by decide +kernel
theorem dX10_lose_17 : decode cX10_lose 17 = .ok (.ldc 215, 2) := by decide +kernel
theorem dX10_lose_19 : decode cX10_lose 19 = .ok (.invokespecial 65, 3) := by decide +kernel
theorem dX10_lose_22 : decode cX10_lose 22 = .ok (.athrow, 1) := by decide +kernel
theorem dX10_lose_23 : decode cX10_lose 23 = .ok (.iload_n 2, 1) := by decide +kernel
theorem dX10_lose_24 : decode cX10_lose 24 = .ok (.iconst 1, 1) := by decide +kernel
theorem dX10_lose_25 : decode cX10_lose 25 = .ok (.if_icmp .lt 9, 3) := by decide +kernel
theorem dX10_lose_28 : decode cX10_lose 28 = .ok (.iload_n 2, 1) := by decide +kernel
theorem dX10_lose_29 : decode cX10_lose 29 = .ok (.bipush 8, 2) := by decide +kernel
theorem dX10_lose_31 : decode cX10_lose 31 = .ok (.if_icmp .le 13, 3) := by decide +kernel
theorem dX10_lose_34 : decode cX10_lose 34 = .ok (.new 72, 3) := by decide +kernel
theorem dX10_lose_37 : decode cX10_lose 37 = .ok (.dup, 1) := by decide +kernel
theorem dX10_lose_38 : decode cX10_lose 38 = .ok (.ldc 228, 2) := by decide +kernel
theorem dX10_lose_40 : decode cX10_lose 40 = .ok (.invokespecial 76, 3) := by decide +kernel
theorem dX10_lose_43 : decode cX10_lose 43 = .ok (.athrow, 1) := by decide +kernel
theorem dX10_lose_44 : decode cX10_lose 44 = .ok (.aload_n 3, 1) := by decide +kernel
theorem dX10_lose_45 : decode cX10_lose 45 = .ok (.iload_n 2, 1) := by decide +kernel
theorem dX10_lose_46 : decode cX10_lose 46 = .ok (.invokevirtual 230, 3) := by decide +kernel
theorem dX10_lose_49 : decode cX10_lose 49 = .ok (.ireturn, 1) := by decide +kernel
theorem dX10_pass_0 : decode cX10_pass 0 = .ok (.iload_n 1, 1) := by decide +kernel
theorem dX10_pass_1 : decode cX10_pass 1 = .ok (.iconst 1, 1) := by decide +kernel
theorem dX10_pass_2 : decode cX10_pass 2 = .ok (.if_icmp .lt 10, 3) := by decide +kernel
theorem dX10_pass_5 : decode cX10_pass 5 = .ok (.iload_n 1, 1) := by decide +kernel
theorem dX10_pass_6 : decode cX10_pass 6 = .ok (.sipush 1000, 3) := by decide +kernel
theorem dX10_pass_9 : decode cX10_pass 9 = .ok (.if_icmp .le 13, 3) := by decide +kernel
theorem dX10_pass_12 : decode cX10_pass 12 = .ok (.new 72, 3) := by decide +kernel
theorem dX10_pass_15 : decode cX10_pass 15 = .ok (.dup, 1) := by decide +kernel
theorem dX10_pass_16 : decode cX10_pass 16 = .ok (.ldc 233, 2) := by decide +kernel
theorem dX10_pass_18 : decode cX10_pass 18 = .ok (.invokespecial 76, 3) := by decide +kernel
theorem dX10_pass_21 : decode cX10_pass 21 = .ok (.athrow, 1) := by decide +kernel
theorem dX10_pass_22 : decode cX10_pass 22 = .ok (.aload_n 0, 1) := by decide +kernel
theorem dX10_pass_23 : decode cX10_pass 23 = .ok (.getfield 235, 3) := by decide +kernel
theorem dX10_pass_26 : decode cX10_pass 26 = .ok (.iload_n 1, 1) := by decide +kernel
theorem dX10_pass_27 : decode cX10_pass 27 = .ok (.iadd, 1) := by decide +kernel
theorem dX10_pass_28 : decode cX10_pass 28 = .ok (.ldc 239, 2) := by decide +kernel
theorem dX10_pass_30 : decode cX10_pass 30 = .ok (.if_icmp .le 13, 3) := by decide +kernel
theorem dX10_pass_33 : decode cX10_pass 33 = .ok (.new 85, 3) := by decide +kernel
theorem dX10_pass_36 : decode cX10_pass 36 = .ok (.dup, 1) := by decide +kernel
theorem dX10_pass_37 : decode cX10_pass 37 = .ok (.ldc 240, 2) := by decide +kernel
theorem dX10_pass_39 : decode cX10_pass 39 = .ok (.invokespecial 89, 3) := by decide +kernel
theorem dX10_pass_42 : decode cX10_pass 42 = .ok (.athrow, 1) := by decide +kernel
theorem dX10_pass_43 : decode cX10_pass 43 = .ok (.aload_n 0, 1) := by decide +kernel
theorem dX10_pass_44 : decode cX10_pass 44 = .ok (.getfield 235, 3) := by decide +kernel
theorem dX10_pass_47 : decode cX10_pass 47 = .ok (.bipush 60, 2) := by decide +kernel
theorem dX10_pass_49 : decode cX10_pass 49 = .ok (.idiv, 1) := by decide +kernel
theorem dX10_pass_50 : decode cX10_pass 50 = .ok (.istore_n 2, 1) := by decide +kernel
theorem dX10_pass_51 : decode cX10_pass 51 = .ok (.aload_n 0, 1) := by decide +kernel
theorem dX10_pass_52 : decode cX10_pass 52 = .ok (.dup, 1) := by decide +kernel
theorem dX10_pass_53 : decode cX10_pass 53 = .ok (.getfield 235, 3) := by decide +kernel
theorem dX10_pass_56 : decode cX10_pass 56 = .ok (.iload_n 1, 1) := by decide +kernel
theorem dX10_pass_57 : decode cX10_pass 57 = .ok (.iadd, 1) := by decide +kernel
theorem dX10_pass_58 : decode cX10_pass 58 = .ok (.putfield 235, 3) := by decide +kernel
theorem dX10_pass_61 : decode cX10_pass 61 = .ok (.aload_n 0, 1) := by decide +kernel
theorem dX10_pass_62 : decode cX10_pass 62 = .ok (.getfield 235, 3) := by decide +kernel
theorem dX10_pass_65 : decode cX10_pass 65 = .ok (.bipush 60, 2) := by decide +kernel
theorem dX10_pass_67 : decode cX10_pass 67 = .ok (.idiv, 1) := by decide +kernel
theorem dX10_pass_68 : decode cX10_pass 68 = .ok (.iload_n 2, 1) := by decide +kernel
theorem dX10_pass_69 : decode cX10_pass 69 = .ok (.if_icmp .eq 8, 3) := by decide +kernel
theorem dX10_pass_72 : decode cX10_pass 72 = .ok (.aload_n 0, 1) := by decide +kernel
theorem dX10_pass_73 : decode cX10_pass 73 = .ok (.iconst 0, 1) := by decide +kernel
theorem dX10_pass_74 : decode cX10_pass 74 = .ok (.putfield 242, 3) := by decide +kernel
theorem dX10_pass_77 : decode cX10_pass 77 = .ok (.aload_n 0, 1) := by decide +kernel
theorem dX10_pass_78 : decode cX10_pass 78 = .ok (.getfield 235, 3) := by decide +kernel
theorem dX10_pass_81 : decode cX10_pass 81 = .ok (.ireturn, 1) := by decide +kernel
theorem dX10_battery_0 : decode cX10_battery 0 = .ok (.aload_n 0, 1) := by decide +kernel
theorem dX10_battery_1 : decode cX10_battery 1 = .ok (.getfield 245, 3) := by decide +kernel
theorem dX10_battery_4 : decode cX10_battery 4 = .ok (.istore_n 2, 1) := by decide +kernel
theorem dX10_battery_5 : decode cX10_battery 5 = .ok (.aload_n 0, 1) := by decide +kernel
theorem dX10_battery_6 : decode cX10_battery 6 = .ok (.iload_n 1, 1) := by decide +kernel
theorem dX10_battery_7 : decode cX10_battery 7 = .ok (.putfield 245, 3) := by decide +kernel
theorem dX10_battery_10 : decode cX10_battery 10 = .ok (.iload_n 2, 1) := by decide +kernel
theorem dX10_battery_11 : decode cX10_battery 11 = .ok (.ireturn, 1) := by decide +kernel
theorem dX10_work_0 : decode cX10_work 0 = .ok (.iload_n 1, 1) := by decide +kernel
theorem dX10_work_1 : decode cX10_work 1 = .ok (.iconst 1, 1) := by decide +kernel
theorem dX10_work_2 : decode cX10_work 2 = .ok (.if_icmp .lt 10, 3) := by decide +kernel
theorem dX10_work_5 : decode cX10_work 5 = .ok (.iload_n 1, 1) := by decide +kernel
theorem dX10_work_6 : decode cX10_work 6 = .ok (.sipush 500, 3) := by decide +kernel
theorem dX10_work_9 : decode cX10_work 9 = .ok (.if_icmp .le 14, 3) := by decide +kernel
theorem dX10_work_12 : decode cX10_work 12 = .ok (.new 72, 3) := by decide +kernel
theorem dX10_work_15 : decode cX10_work 15 = .ok (.dup, 1) := by decide +kernel
theorem dX10_work_16 : decode cX10_work 16 = .ok (.ldc_w 257, 3) := by decide +kernel
theorem dX10_work_19 : decode cX10_work 19 = .ok (.invokespecial 76, 3) := by decide +kernel
theorem dX10_work_22 : decode cX10_work 22 = .ok (.athrow, 1) := by decide +kernel
theorem dX10_work_23 : decode cX10_work 23 = .ok (.aload_n 0, 1) := by decide +kernel
theorem dX10_work_24 : decode cX10_work 24 = .ok (.getfield 245, 3) := by decide +kernel
theorem dX10_work_27 : decode cX10_work 27 = .ok (.ifCond .ne 12, 3) := by decide +kernel
theorem dX10_work_30 : decode cX10_work 30 = .ok (.aload_n 0, 1) := by decide +kernel
theorem dX10_work_31 : decode cX10_work 31 = .ok (.getfield 46, 3) := by decide +kernel
theorem dX10_work_34 : decode cX10_work 34 = .ok (.iload_n 1, 1) := by decide +kernel
theorem dX10_work_35 : decode cX10_work 35 = .ok (.invokevirtual 259, 3) := by decide +kernel
theorem dX10_work_38 : decode cX10_work 38 = .ok (.ireturn, 1) := by decide +kernel
theorem dX10_work_39 : decode cX10_work 39 = .ok (.aload_n 0, 1) := by decide +kernel
theorem dX10_work_40 : decode cX10_work 40 = .ok (.getfield 46, 3) := by decide +kernel
theorem dX10_work_43 : decode cX10_work 43 = .ok (.iload_n 1, 1) := by decide +kernel
theorem dX10_work_44 : decode cX10_work 44 = .ok (.bipush 20, 2) := by decide +kernel
theorem dX10_work_46 : decode cX10_work 46 = .ok (.aload_n 0, 1) := by decide +kernel
theorem dX10_work_47 : decode cX10_work 47 = .ok (.getfield 242, 3) := by decide +kernel
theorem dX10_work_50 : decode cX10_work 50 = .ok (.isub, 1) := by decide +kernel
theorem dX10_work_51 : decode cX10_work 51 = .ok (.invokestatic 262, 3) := by decide +kernel
theorem dX10_work_54 : decode cX10_work 54 = .ok (.invokevirtual 259, 3) := by decide +kernel
theorem dX10_work_57 : decode cX10_work 57 = .ok (.istore_n 2, 1) := by decide +kernel
theorem dX10_work_58 : decode cX10_work 58 = .ok (.aload_n 0, 1) := by decide +kernel
theorem dX10_work_59 : decode cX10_work 59 = .ok (.dup, 1) := by decide +kernel
theorem dX10_work_60 : decode cX10_work 60 = .ok (.getfield 242, 3) := by decide +kernel
theorem dX10_work_63 : decode cX10_work 63 = .ok (.iload_n 2, 1) := by decide +kernel
theorem dX10_work_64 : decode cX10_work 64 = .ok (.iadd, 1) := by decide +kernel
theorem dX10_work_65 : decode cX10_work 65 = .ok (.putfield 242, 3) := by decide +kernel
theorem dX10_work_68 : decode cX10_work 68 = .ok (.iload_n 2, 1) := by decide +kernel
theorem dX10_work_69 : decode cX10_work 69 = .ok (.ireturn, 1) := by decide +kernel
theorem dX10_crawl_0 : decode cX10_crawl 0 = .ok (.aload_n 0, 1) := by decide +kernel
theorem dX10_crawl_1 : decode cX10_crawl 1 = .ok (.getfield 21, 3) := by decide +kernel
theorem dX10_crawl_4 : decode cX10_crawl 4 = .ok (.iload_n 1, 1) := by decide +kernel
theorem dX10_crawl_5 : decode cX10_crawl 5 = .ok (.invokevirtual 201, 3) := by decide +kernel
theorem dX10_crawl_8 : decode cX10_crawl 8 = .ok (.astore_n 2, 1) := by decide +kernel
theorem dX10_crawl_9 : decode cX10_crawl 9 = .ok (.aload_n 2, 1) := by decide +kernel
theorem dX10_crawl_10 : decode cX10_crawl 10 = .ok (.ifnonnull 13, 3) := by decide +kernel
theorem dX10_crawl_13 : decode cX10_crawl 13 = .ok (.new 61, 3) := by decide +kernel
theorem dX10_crawl_16 : decode cX10_crawl 16 = .ok (.dup, 1) := by decide +kernel
theorem dX10_crawl_17 : decode cX10_crawl 17 = .ok (.ldc 215, 2) := by decide +kernel
theorem dX10_crawl_19 : decode cX10_crawl 19 = .ok (.invokespecial 65, 3) := by decide +kernel
theorem dX10_crawl_22 : decode cX10_crawl 22 = .ok (.athrow, 1) := by decide +kernel
theorem dX10_crawl_23 : decode cX10_crawl 23 = .ok (.aload_n 2, 1) := by decide +kernel
theorem dX10_crawl_24 : decode cX10_crawl 24 = .ok (.invokevirtual 268, 3) := by decide +kernel
theorem dX10_crawl_27 : decode cX10_crawl 27 = .ok (.aload_n 0, 1) := by decide +kernel
theorem dX10_crawl_28 : decode cX10_crawl 28 = .ok (.getfield 21, 3) := by decide +kernel
theorem dX10_crawl_31 : decode cX10_crawl 31 = .ok (.invokevirtual 271, 3) := by decide +kernel
theorem dX10_crawl_34 : decode cX10_crawl 34 = .ok (.ireturn, 1) := by decide +kernel
theorem dX10_acts_0 : decode cX10_acts 0 = .ok (.aload_n 0, 1) := by decide +kernel
theorem dX10_acts_1 : decode cX10_acts 1 = .ok (.getfield 46, 3) := by decide +kernel
theorem dX10_acts_4 : decode cX10_acts 4 = .ok (.invokevirtual 274, 3) := by decide +kernel
theorem dX10_acts_7 : decode cX10_acts 7 = .ok (.ireturn, 1) := by decide +kernel
theorem dX10_isQuiet_0 : decode cX10_isQuiet 0 = .ok (.aload_n 0, 1) := by decide +kernel
theorem dX10_isQuiet_1 : decode cX10_isQuiet 1 = .ok (.getfield 21, 3) := by decide +kernel
theorem dX10_isQuiet_4 : decode cX10_isQuiet 4 = .ok (.invokevirtual 277, 3) := by decide +kernel
theorem dX10_isQuiet_7 : decode cX10_isQuiet 7 = .ok (.ifnonnull 27, 3) := by decide +kernel
theorem dX10_isQuiet_10 : decode cX10_isQuiet 10 = .ok (.aload_n 0, 1) := by decide +kernel
theorem dX10_isQuiet_11 : decode cX10_isQuiet 11 = .ok (.getfield 46, 3) := by decide +kernel
theorem dX10_isQuiet_14 : decode cX10_isQuiet 14 = .ok (.invokevirtual 274, 3) := by decide +kernel
theorem dX10_isQuiet_17 : decode cX10_isQuiet 17 = .ok (.ifCond .ne 17, 3) := by decide +kernel
theorem dX10_isQuiet_20 : decode cX10_isQuiet 20 = .ok (.aload_n 0, 1) := by decide +kernel
theorem dX10_isQuiet_21 : decode cX10_isQuiet 21 = .ok (.getfield 21, 3) := by decide +kernel
theorem dX10_isQuiet_24 : decode cX10_isQuiet 24 = .ok (.invokevirtual 271, 3) := by decide +kernel
theorem dX10_isQuiet_27 : decode cX10_isQuiet 27 = .ok (.ifCond .ne 7, 3) := by decide +kernel
theorem dX10_isQuiet_30 : decode cX10_isQuiet 30 = .ok (.iconst 1, 1) := by decide +kernel
theorem dX10_isQuiet_31 : decode cX10_isQuiet 31 = .ok (.goto 4, 3) := by decide +kernel
theorem dX10_isQuiet_34 : decode cX10_isQuiet 34 = .ok (.iconst 0, 1) := by decide +kernel
theorem dX10_isQuiet_35 : decode cX10_isQuiet 35 = .ok (.ireturn, 1) := by decide +kernel
theorem dX10_entries_0 : decode cX10_entries 0 = .ok (.aload_n 0, 1) := by decide +kernel
theorem dX10_entries_1 : decode cX10_entries 1 = .ok (.getfield 37, 3) := by decide +kernel
theorem dX10_entries_4 : decode cX10_entries 4 = .ok (.invokevirtual 281, 3) := by decide +kernel
theorem dX10_entries_7 : decode cX10_entries 7 = .ok (.ireturn, 1) := by decide +kernel
theorem dX10_stale_0 : decode cX10_stale 0 = .ok (.aload_n 0, 1) := by decide +kernel
theorem dX10_stale_1 : decode cX10_stale 1 = .ok (.getfield 37, 3) := by decide +kernel
theorem dX10_stale_4 : decode cX10_stale 4 = .ok (.invokevirtual 288, 3) := by decide +kernel
theorem dX10_stale_7 : decode cX10_stale 7 = .ok (.ireturn, 1) := by decide +kernel
theorem dX10_segments_0 : decode cX10_segments 0 = .ok (.aload_n 0, 1) := by decide +kernel
theorem dX10_segments_1 : decode cX10_segments 1 = .ok (.getfield 46, 3) := by decide +kernel
theorem dX10_segments_4 : decode cX10_segments 4 = .ok (.invokevirtual 291, 3) := by decide +kernel
theorem dX10_segments_7 : decode cX10_segments 7 = .ok (.ireturn, 1) := by decide +kernel
theorem dX10_dead_0 : decode cX10_dead 0 = .ok (.aload_n 0, 1) := by decide +kernel
theorem dX10_dead_1 : decode cX10_dead 1 = .ok (.getfield 46, 3) := by decide +kernel
theorem dX10_dead_4 : decode cX10_dead 4 = .ok (.invokevirtual 294, 3) := by decide +kernel
theorem dX10_dead_7 : decode cX10_dead 7 = .ok (.ireturn, 1) := by decide +kernel
theorem dX10_answers_0 : decode cX10_answers 0 = .ok (.iload_n 1, 1) := by decide +kernel
theorem dX10_answers_1 : decode cX10_answers 1 = .ok (.invokestatic 189, 3) := by decide +kernel
theorem dX10_answers_4 : decode cX10_answers 4 = .ok (.ifCond .eq 12, 3) := by decide +kernel
theorem dX10_answers_7 : decode cX10_answers 7 = .ok (.aload_n 0, 1) := by decide +kernel
theorem dX10_answers_8 : decode cX10_answers 8 = .ok (.iload 4, 2) := by decide +kernel
theorem dX10_answers_10 : decode cX10_answers 10 = .ok (.invokevirtual 297, 3) := by decide +kernel
theorem dX10_answers_13 : decode cX10_answers 13 = .ok (.ifCond .ne 14, 3) := by decide +kernel
theorem dX10_answers_16 : decode cX10_answers 16 = .ok (.new 61, 3) := by decide +kernel
theorem dX10_answers_19 : decode cX10_answers 19 = .ok (.dup, 1) := by decide +kernel
theorem dX10_answers_20 : decode cX10_answers 20 = .ok (.ldc_w 300, 3) := by decide +kernel
theorem dX10_answers_23 : decode cX10_answers 23 = .ok (.invokespecial 65, 3) := by decide +kernel
theorem dX10_answers_26 : decode cX10_answers 26 = .ok (.athrow, 1) := by decide +kernel
theorem dX10_answers_27 : decode cX10_answers 27 = .ok (.iload_n 2, 1) := by decide +kernel
theorem dX10_answers_28 : decode cX10_answers 28 = .ok (.invokestatic 103, 3) := by decide +kernel
theorem dX10_answers_31 : decode cX10_answers 31 = .ok (.ifCond .eq 10, 3) := by decide +kernel
theorem dX10_answers_34 : decode cX10_answers 34 = .ok (.iload_n 3, 1) := by decide +kernel
theorem dX10_answers_35 : decode cX10_answers 35 = .ok (.invokestatic 302, 3) := by decide +kernel
theorem dX10_answers_38 : decode cX10_answers 38 = .ok (.ifCond .ne 14, 3) := by decide +kernel
theorem dX10_answers_41 : decode cX10_answers 41 = .ok (.new 72, 3) := by decide +kernel
theorem dX10_answers_44 : decode cX10_answers 44 = .ok (.dup, 1) := by decide +kernel
theorem dX10_answers_45 : decode cX10_answers 45 = .ok (.ldc_w 305, 3) := by decide +kernel
theorem dX10_answers_48 : decode cX10_answers 48 = .ok (.invokespecial 76, 3) := by decide +kernel
theorem dX10_answers_51 : decode cX10_answers 51 = .ok (.athrow, 1) := by decide +kernel
theorem dX10_answers_52 : decode cX10_answers 52 = .ok (.aload_n 0, 1) := by decide +kernel
theorem dX10_answers_53 : decode cX10_answers 53 = .ok (.getfield 53, 3) := by decide +kernel
theorem dX10_answers_56 : decode cX10_answers 56 = .ok (.iload_n 1, 1) := by decide +kernel
theorem dX10_answers_57 : decode cX10_answers 57 = .ok (.iload_n 2, 1) := by decide +kernel
theorem dX10_answers_58 : decode cX10_answers 58 = .ok (.iload_n 3, 1) := by decide +kernel
theorem dX10_answers_59 : decode cX10_answers 59 = .ok (.iload 4, 2) := by decide +kernel
theorem dX10_answers_61 : decode cX10_answers 61 = .ok (.invokevirtual 307, 3) := by decide +kernel
theorem dX10_answers_64 : decode cX10_answers 64 = .ok (.ireturn, 1) := by decide +kernel
theorem dX10_answersAnew_0 : decode cX10_answersAnew 0 = .ok (.iload_n 1, 1) := by decide +kernel
theorem dX10_answersAnew_1 : decode cX10_answersAnew 1 = .ok (.invokestatic 189, 3) := by decide +kernel
theorem dX10_answersAnew_4 : decode cX10_answersAnew 4 = .ok (.ifCond .eq 12, 3) := by decide +kernel
theorem dX10_answersAnew_7 : decode cX10_answersAnew 7 = .ok (.aload_n 0, 1) := by decide +kernel
theorem dX10_answersAnew_8 : decode cX10_answersAnew 8 = .ok (.iload 4, 2) := by decide +kernel
theorem dX10_answersAnew_10 : decode cX10_answersAnew 10 = .ok (.invokevirtual 297, 3) := by decide +kernel
theorem dX10_answersAnew_13 : decode cX10_answersAnew 13 = .ok (.ifCond .ne 14, 3) := by decide +kernel
theorem dX10_answersAnew_16 : decode cX10_answersAnew 16 = .ok (.new 61, 3) := by decide +kernel
theorem dX10_answersAnew_19 : decode cX10_answersAnew 19 = .ok (.dup, 1) := by decide +kernel
theorem dX10_answersAnew_20 : decode cX10_answersAnew 20 = .ok (.ldc_w 300, 3) := by decide +kernel
theorem dX10_answersAnew_23 : decode cX10_answersAnew 23 = .ok (.invokespecial 65, 3) := by decide +kernel
theorem dX10_answersAnew_26 : decode cX10_answersAnew 26 = .ok (.athrow, 1) := by decide +kernel
theorem dX10_answersAnew_27 : decode cX10_answersAnew 27 = .ok (.iload_n 2, 1) := by decide +kernel
theorem dX10_answersAnew_28 : decode cX10_answersAnew 28 = .ok (.invokestatic 103, 3) := by decide +kernel
theorem dX10_answersAnew_31 : decode cX10_answersAnew 31 = .ok (.ifCond .eq 10, 3) := by decide +kernel
theorem dX10_answersAnew_34 : decode cX10_answersAnew 34 = .ok (.iload_n 3, 1) := by decide +kernel
theorem dX10_answersAnew_35 : decode cX10_answersAnew 35 = .ok (.invokestatic 302, 3) := by decide +kernel
theorem dX10_answersAnew_38 : decode cX10_answersAnew 38 = .ok (.ifCond .ne 14, 3) := by decide +kernel
theorem dX10_answersAnew_41 : decode cX10_answersAnew 41 = .ok (.new 72, 3) := by decide +kernel
theorem dX10_answersAnew_44 : decode cX10_answersAnew 44 = .ok (.dup, 1) := by decide +kernel
theorem dX10_answersAnew_45 : decode cX10_answersAnew 45 = .ok (.ldc_w 305, 3) := by decide +kernel
theorem dX10_answersAnew_48 : decode cX10_answersAnew 48 = .ok (.invokespecial 76, 3) := by decide +kernel
theorem dX10_answersAnew_51 : decode cX10_answersAnew 51 = .ok (.athrow, 1) := by decide +kernel
theorem dX10_answersAnew_52 : decode cX10_answersAnew 52 = .ok (.aload_n 0, 1) := by decide +kernel
theorem dX10_answersAnew_53 : decode cX10_answersAnew 53 = .ok (.getfield 53, 3) := by decide +kernel
theorem dX10_answersAnew_56 : decode cX10_answersAnew 56 = .ok (.iload_n 1, 1) := by decide +kernel
theorem dX10_answersAnew_57 : decode cX10_answersAnew 57 = .ok (.iload_n 2, 1) := by decide +kernel
theorem dX10_answersAnew_58 : decode cX10_answersAnew 58 = .ok (.iload_n 3, 1) := by decide +kernel
theorem dX10_answersAnew_59 : decode cX10_answersAnew 59 = .ok (.iload 4, 2) := by decide +kernel
theorem dX10_answersAnew_61 : decode cX10_answersAnew 61 = .ok (.invokevirtual 310, 3) := by decide +kernel
theorem dX10_answersAnew_64 : decode cX10_answersAnew 64 = .ok (.ireturn, 1) := by decide +kernel
theorem dX10_answer_0 : decode cX10_answer 0 = .ok (.iload_n 1, 1) := by decide +kernel
theorem dX10_answer_1 : decode cX10_answer 1 = .ok (.invokestatic 189, 3) := by decide +kernel
theorem dX10_answer_4 : decode cX10_answer 4 = .ok (.ifCond .ne 14, 3) := by decide +kernel
theorem dX10_answer_7 : decode cX10_answer 7 = .ok (.new 61, 3) := by decide +kernel
theorem dX10_answer_10 : decode cX10_answer 10 = .ok (.dup, 1) := by decide +kernel
theorem dX10_answer_11 : decode cX10_answer 11 = .ok (.ldc_w 313, 3) := by decide +kernel
theorem dX10_answer_14 : decode cX10_answer 14 = .ok (.invokespecial 65, 3) := by decide +kernel
theorem dX10_answer_17 : decode cX10_answer 17 = .ok (.athrow, 1) := by decide +kernel
theorem dX10_answer_18 : decode cX10_answer 18 = .ok (.iload_n 2, 1) := by decide +kernel
theorem dX10_answer_19 : decode cX10_answer 19 = .ok (.invokestatic 103, 3) := by decide +kernel
theorem dX10_answer_22 : decode cX10_answer 22 = .ok (.ifCond .eq 10, 3) := by decide +kernel
theorem dX10_answer_25 : decode cX10_answer 25 = .ok (.iload_n 3, 1) := by decide +kernel
theorem dX10_answer_26 : decode cX10_answer 26 = .ok (.invokestatic 302, 3) := by decide +kernel
theorem dX10_answer_29 : decode cX10_answer 29 = .ok (.ifCond .ne 14, 3) := by decide +kernel
theorem dX10_answer_32 : decode cX10_answer 32 = .ok (.new 72, 3) := by decide +kernel
theorem dX10_answer_35 : decode cX10_answer 35 = .ok (.dup, 1) := by decide +kernel
theorem dX10_answer_36 : decode cX10_answer 36 = .ok (.ldc_w 305, 3) := by decide +kernel
theorem dX10_answer_39 : decode cX10_answer 39 = .ok (.invokespecial 76, 3) := by decide +kernel
theorem dX10_answer_42 : decode cX10_answer 42 = .ok (.athrow, 1) := by decide +kernel
theorem dX10_answer_43 : decode cX10_answer 43 = .ok (.aload_n 0, 1) := by decide +kernel
theorem dX10_answer_44 : decode cX10_answer 44 = .ok (.getfield 53, 3) := by decide +kernel
theorem dX10_answer_47 : decode cX10_answer 47 = .ok (.iload_n 1, 1) := by decide +kernel
theorem dX10_answer_48 : decode cX10_answer 48 = .ok (.iload_n 2, 1) := by decide +kernel
theorem dX10_answer_49 : decode cX10_answer 49 = .ok (.iload_n 3, 1) := by decide +kernel
theorem dX10_answer_50 : decode cX10_answer 50 = .ok (.iload 4, 2) := by decide +kernel
theorem dX10_answer_52 : decode cX10_answer 52 = .ok (.invokevirtual 315, 3) := by decide +kernel
theorem dX10_answer_55 : decode cX10_answer 55 = .ok (.istore 5, 2) := by decide +kernel
theorem dX10_answer_57 : decode cX10_answer 57 = .ok (.iload 5, 2) := by decide +kernel
theorem dX10_answer_59 : decode cX10_answer 59 = .ok (.iconst (-1), 1) := by decide +kernel
theorem dX10_answer_60 : decode cX10_answer 60 = .ok (.if_icmp .ne 14, 3) := by decide +kernel
theorem dX10_answer_63 : decode cX10_answer 63 = .ok (.new 61, 3) := by decide +kernel
theorem dX10_answer_66 : decode cX10_answer 66 = .ok (.dup, 1) := by decide +kernel
theorem dX10_answer_67 : decode cX10_answer 67 = .ok (.ldc_w 318, 3) := by decide +kernel
theorem dX10_answer_70 : decode cX10_answer 70 = .ok (.invokespecial 65, 3) := by decide +kernel
theorem dX10_answer_73 : decode cX10_answer 73 = .ok (.athrow, 1) := by decide +kernel
theorem dX10_answer_74 : decode cX10_answer 74 = .ok (.iload 5, 2) := by decide +kernel
theorem dX10_answer_76 : decode cX10_answer 76 = .ok (.ireturn, 1) := by decide +kernel
theorem dX10_isMadeOrNone_0 : decode cX10_isMadeOrNone 0 = .ok (.iload_n 1, 1) := by decide +kernel
theorem dX10_isMadeOrNone_1 : decode cX10_isMadeOrNone 1 = .ok (.iconst (-1), 1) := by decide +kernel
theorem dX10_isMadeOrNone_2 : decode cX10_isMadeOrNone 2 = .ok (.if_icmp .eq 14, 3) := by decide +kernel
theorem dX10_isMadeOrNone_5 : decode cX10_isMadeOrNone 5 = .ok (.aload_n 0, 1) := by decide +kernel
theorem dX10_isMadeOrNone_6 : decode cX10_isMadeOrNone 6 = .ok (.getfield 10, 3) := by decide +kernel
theorem dX10_isMadeOrNone_9 : decode cX10_isMadeOrNone 9 = .ok (.iload_n 1, 1) := by decide +kernel
theorem dX10_isMadeOrNone_10 : decode cX10_isMadeOrNone 10 = .ok (.invokevirtual 282, 3) := by decide +kernel
theorem dX10_isMadeOrNone_13 : decode cX10_isMadeOrNone 13 = .ok (.ifCond .eq 7, 3) := by decide +kernel
theorem dX10_isMadeOrNone_16 : decode cX10_isMadeOrNone 16 = .ok (.iconst 1, 1) := by decide +kernel
theorem dX10_isMadeOrNone_17 : decode cX10_isMadeOrNone 17 = .ok (.goto 4, 3) := by decide +kernel
theorem dX10_isMadeOrNone_20 : decode cX10_isMadeOrNone 20 = .ok (.iconst 0, 1) := by decide +kernel
theorem dX10_isMadeOrNone_21 : decode cX10_isMadeOrNone 21 = .ok (.ireturn, 1) := by decide +kernel
theorem dX10_isName_0 : decode cX10_isName 0 = .ok (.iload_n 0, 1) := by decide +kernel
theorem dX10_isName_1 : decode cX10_isName 1 = .ok (.bipush 97, 2) := by decide +kernel
theorem dX10_isName_3 : decode cX10_isName 3 = .ok (.if_icmp .lt 13, 3) := by decide +kernel
theorem dX10_isName_6 : decode cX10_isName 6 = .ok (.iload_n 0, 1) := by decide +kernel
theorem dX10_isName_7 : decode cX10_isName 7 = .ok (.bipush 122, 2) := by decide +kernel
theorem dX10_isName_9 : decode cX10_isName 9 = .ok (.if_icmp .gt 7, 3) := by decide +kernel
theorem dX10_isName_12 : decode cX10_isName 12 = .ok (.iconst 1, 1) := by decide +kernel
theorem dX10_isName_13 : decode cX10_isName 13 = .ok (.goto 4, 3) := by decide +kernel
theorem dX10_isName_16 : decode cX10_isName 16 = .ok (.iconst 0, 1) := by decide +kernel
theorem dX10_isName_17 : decode cX10_isName 17 = .ok (.ireturn, 1) := by decide +kernel
theorem dX10_isPerson_0 : decode cX10_isPerson 0 = .ok (.iload_n 0, 1) := by decide +kernel
theorem dX10_isPerson_1 : decode cX10_isPerson 1 = .ok (.ifCond .lt 12, 3) := by decide +kernel
theorem dX10_isPerson_4 : decode cX10_isPerson 4 = .ok (.iload_n 0, 1) := by decide +kernel
theorem dX10_isPerson_5 : decode cX10_isPerson 5 = .ok (.iconst 4, 1) := by decide +kernel
theorem dX10_isPerson_6 : decode cX10_isPerson 6 = .ok (.if_icmp .ge 7, 3) := by decide +kernel
theorem dX10_isPerson_9 : decode cX10_isPerson 9 = .ok (.iconst 1, 1) := by decide +kernel
theorem dX10_isPerson_10 : decode cX10_isPerson 10 = .ok (.goto 4, 3) := by decide +kernel
theorem dX10_isPerson_13 : decode cX10_isPerson 13 = .ok (.iconst 0, 1) := by decide +kernel
theorem dX10_isPerson_14 : decode cX10_isPerson 14 = .ok (.ireturn, 1) := by decide +kernel
theorem dX10_isWord_0 : decode cX10_isWord 0 = .ok (.iload_n 0, 1) := by decide +kernel
theorem dX10_isWord_1 : decode cX10_isWord 1 = .ok (.ifCond .lt 13, 3) := by decide +kernel
theorem dX10_isWord_4 : decode cX10_isWord 4 = .ok (.iload_n 0, 1) := by decide +kernel
theorem dX10_isWord_5 : decode cX10_isWord 5 = .ok (.bipush 99, 2) := by decide +kernel
theorem dX10_isWord_7 : decode cX10_isWord 7 = .ok (.if_icmp .gt 7, 3) := by decide +kernel
theorem dX10_isWord_10 : decode cX10_isWord 10 = .ok (.iconst 1, 1) := by decide +kernel
theorem dX10_isWord_11 : decode cX10_isWord 11 = .ok (.goto 4, 3) := by decide +kernel
theorem dX10_isWord_14 : decode cX10_isWord 14 = .ok (.iconst 0, 1) := by decide +kernel
theorem dX10_isWord_15 : decode cX10_isWord 15 = .ok (.ireturn, 1) := by decide +kernel
theorem dX10_isWordOrNone_0 : decode cX10_isWordOrNone 0 = .ok (.iload_n 0, 1) := by decide +kernel
theorem dX10_isWordOrNone_1 : decode cX10_isWordOrNone 1 = .ok (.iconst (-1), 1) := by decide +kernel
theorem dX10_isWordOrNone_2 : decode cX10_isWordOrNone 2 = .ok (.if_icmp .eq 10, 3) := by decide +kernel
theorem dX10_isWordOrNone_5 : decode cX10_isWordOrNone 5 = .ok (.iload_n 0, 1) := by decide +kernel
theorem dX10_isWordOrNone_6 : decode cX10_isWordOrNone 6 = .ok (.invokestatic 103, 3) := by decide +kernel
theorem dX10_isWordOrNone_9 : decode cX10_isWordOrNone 9 = .ok (.ifCond .eq 7, 3) := by decide +kernel
theorem dX10_isWordOrNone_12 : decode cX10_isWordOrNone 12 = .ok (.iconst 1, 1) := by decide +kernel
theorem dX10_isWordOrNone_13 : decode cX10_isWordOrNone 13 = .ok (.goto 4, 3) := by decide +kernel
theorem dX10_isWordOrNone_16 : decode cX10_isWordOrNone 16 = .ok (.iconst 0, 1) := by decide +kernel
theorem dX10_isWordOrNone_17 : decode cX10_isWordOrNone 17 = .ok (.ireturn, 1) := by decide +kernel
