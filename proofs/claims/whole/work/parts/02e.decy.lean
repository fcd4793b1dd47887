theorem dX11_thrown_0 : decode cX11_thrown 0 = .ok (.aload_n 0, 1) := by decide +kernel
theorem dX11_thrown_1 : decode cX11_thrown 1 = .ok (.getfield 121, 3) := by decide +kernel
theorem dX11_thrown_4 : decode cX11_thrown 4 = .ok (.ireturn, 1) := by decide +kernel
theorem dX11_fails_0 : decode cX11_fails 0 = .ok (.aload_n 0, 1) := by decide +kernel
theorem dX11_fails_1 : decode cX11_fails 1 = .ok (.iload_n 1, 1) := by decide +kernel
theorem dX11_fails_2 : decode cX11_fails 2 = .ok (.putfield 121, 3) := by decide +kernel
theorem dX11_fails_5 : decode cX11_fails 5 = .ok (.iconst 0, 1) := by decide +kernel
theorem dX11_fails_6 : decode cX11_fails 6 = .ok (.ireturn, 1) := by decide +kernel
theorem dX11_in_0 : decode cX11_in 0 = .ok (.iload_n 0, 1) := by decide +kernel
theorem dX11_in_1 : decode cX11_in 1 = .ok (.iload_n 1, 1) := by decide +kernel
theorem dX11_in_2 : decode cX11_in 2 = .ok (.if_icmp .lt 12, 3) := by decide +kernel
theorem dX11_in_5 : decode cX11_in 5 = .ok (.iload_n 0, 1) := by decide +kernel
theorem dX11_in_6 : decode cX11_in 6 = .ok (.iload_n 2, 1) := by decide +kernel
theorem dX11_in_7 : decode cX11_in 7 = .ok (.if_icmp .gt 7, 3) := by decide +kernel
theorem dX11_in_10 : decode cX11_in 10 = .ok (.iconst 1, 1) := by decide +kernel
theorem dX11_in_11 : decode cX11_in 11 = .ok (.goto 4, 3) := by decide +kernel
theorem dX11_in_14 : decode cX11_in 14 = .ok (.iconst 0, 1) := by decide +kernel
theorem dX11_in_15 : decode cX11_in 15 = .ok (.ireturn, 1) := by decide +kernel
theorem dX11_isNode_0 : decode cX11_isNode 0 = .ok (.iload_n 1, 1) := by decide +kernel
theorem dX11_isNode_1 : decode cX11_isNode 1 = .ok (.iconst 0, 1) := by decide +kernel
theorem dX11_isNode_2 : decode cX11_isNode 2 = .ok (.aload_n 0, 1) := by decide +kernel
theorem dX11_isNode_3 : decode cX11_isNode 3 = .ok (.getfield 118, 3) := by decide +kernel
theorem dX11_isNode_6 : decode cX11_isNode 6 = .ok (.iconst 1, 1) := by decide +kernel
theorem dX11_isNode_7 : decode cX11_isNode 7 = .ok (.isub, 1) := by decide +kernel
theorem dX11_isNode_8 : decode cX11_isNode 8 = .ok (.invokestatic 124, 3) := by decide +kernel
theorem dX11_isNode_11 : decode cX11_isNode 11 = .ok (.ifCond .eq 16, 3) := by decide +kernel
theorem dX11_isNode_14 : decode cX11_isNode 14 = .ok (.aload_n 0, 1) := by decide +kernel
theorem dX11_isNode_15 : decode cX11_isNode 15 = .ok (.getfield 7, 3) := by decide +kernel
theorem dX11_isNode_18 : decode cX11_isNode 18 = .ok (.iload_n 1, 1) := by decide +kernel
theorem dX11_isNode_19 : decode cX11_isNode 19 = .ok (.baload, 1) := by decide +kernel
theorem dX11_isNode_20 : decode cX11_isNode 20 = .ok (.ifCond .eq 7, 3) := by decide +kernel
theorem dX11_isNode_23 : decode cX11_isNode 23 = .ok (.iconst 1, 1) := by decide +kernel
theorem dX11_isNode_24 : decode cX11_isNode 24 = .ok (.goto 4, 3) := by decide +kernel
theorem dX11_isNode_27 : decode cX11_isNode 27 = .ok (.iconst 0, 1) := by decide +kernel
theorem dX11_isNode_28 : decode cX11_isNode 28 = .ok (.ireturn, 1) := by decide +kernel
theorem dX11_isFolderAt_0 : decode cX11_isFolderAt 0 = .ok (.aload_n 0, 1) := by decide +kernel
theorem dX11_isFolderAt_1 : decode cX11_isFolderAt 1 = .ok (.iload_n 1, 1) := by decide +kernel
theorem dX11_isFolderAt_2 : decode cX11_isFolderAt 2 = .ok (.invokevirtual 128, 3) := by decide +kernel
theorem dX11_isFolderAt_5 : decode cX11_isFolderAt 5 = .ok (.ifCond .eq 16, 3) := by decide +kernel
theorem dX11_isFolderAt_8 : decode cX11_isFolderAt 8 = .ok (.aload_n 0, 1) := by decide +kernel
theorem dX11_isFolderAt_9 : decode cX11_isFolderAt 9 = .ok (.getfield 13, 3) := by decide +kernel
theorem dX11_isFolderAt_12 : decode cX11_isFolderAt 12 = .ok (.iload_n 1, 1) := by decide +kernel
theorem dX11_isFolderAt_13 : decode cX11_isFolderAt 13 = .ok (.baload, 1) := by decide +kernel
theorem dX11_isFolderAt_14 : decode cX11_isFolderAt 14 = .ok (.ifCond .eq 7, 3) := by decide +kernel
theorem dX11_isFolderAt_17 : decode cX11_isFolderAt 17 = .ok (.iconst 1, 1) := by decide +kernel
theorem dX11_isFolderAt_18 : decode cX11_isFolderAt 18 = .ok (.goto 4, 3) := by decide +kernel
theorem dX11_isFolderAt_21 : decode cX11_isFolderAt 21 = .ok (.iconst 0, 1) := by decide +kernel
theorem dX11_isFolderAt_22 : decode cX11_isFolderAt 22 = .ok (.ireturn, 1) := by decide +kernel
theorem dX11_isFileAt_0 : decode cX11_isFileAt 0 = .ok (.aload_n 0, 1) := by decide +kernel
theorem dX11_isFileAt_1 : decode cX11_isFileAt 1 = .ok (.iload_n 1, 1) := by decide +kernel
theorem dX11_isFileAt_2 : decode cX11_isFileAt 2 = .ok (.invokevirtual 128, 3) := by decide +kernel
theorem dX11_isFileAt_5 : decode cX11_isFileAt 5 = .ok (.ifCond .eq 16, 3) := by decide +kernel
theorem dX11_isFileAt_8 : decode cX11_isFileAt 8 = .ok (.aload_n 0, 1) := by decide +kernel
theorem dX11_isFileAt_9 : decode cX11_isFileAt 9 = .ok (.getfield 13, 3) := by decide +kernel
theorem dX11_isFileAt_12 : decode cX11_isFileAt 12 = .ok (.iload_n 1, 1) := by decide +kernel
theorem dX11_isFileAt_13 : decode cX11_isFileAt 13 = .ok (.baload, 1) := by decide +kernel
theorem dX11_isFileAt_14 : decode cX11_isFileAt 14 = .ok (.ifCond .ne 7, 3) := by decide +kernel
theorem dX11_isFileAt_17 : decode cX11_isFileAt 17 = .ok (.iconst 1, 1) := by decide +kernel
theorem dX11_isFileAt_18 : decode cX11_isFileAt 18 = .ok (.goto 4, 3) := by decide +kernel
theorem dX11_isFileAt_21 : decode cX11_isFileAt 21 = .ok (.iconst 0, 1) := by decide +kernel
theorem dX11_isFileAt_22 : decode cX11_isFileAt 22 = .ok (.ireturn, 1) := by decide +kernel
theorem dX11_isBelow_0 : decode cX11_isBelow 0 = .ok (.iconst 0, 1) := by decide +kernel
theorem dX11_isBelow_1 : decode cX11_isBelow 1 = .ok (.istore_n 3, 1) := by decide +kernel
theorem dX11_isBelow_2 : decode cX11_isBelow 2 = .ok (.aload_n 0, 1) := by decide +kernel
theorem dX11_isBelow_3 : decode cX11_isBelow 3 = .ok (.getfield 16, 3) := by decide +kernel
theorem dX11_isBelow_6 : decode cX11_isBelow 6 = .ok (.iload_n 1, 1) := by decide +kernel
theorem dX11_isBelow_7 : decode cX11_isBelow 7 = .ok (.iaload, 1) := by decide +kernel
theorem dX11_isBelow_8 : decode cX11_isBelow 8 = .ok (.istore 4, 2) := by decide +kernel
theorem dX11_isBelow_10 : decode cX11_isBelow 10 = .ok (.iload 4, 2) := by decide +kernel
theorem dX11_isBelow_12 : decode cX11_isBelow 12 = .ok (.iconst (-1), 1) := by decide +kernel
theorem dX11_isBelow_13 : decode cX11_isBelow 13 = .ok (.if_icmp .eq 31, 3) := by decide +kernel
theorem dX11_isBelow_16 : decode cX11_isBelow 16 = .ok (.iload_n 3, 1) := by decide +kernel
theorem dX11_isBelow_17 : decode cX11_isBelow 17 = .ok (.ifCond .ne 9, 3) := by decide +kernel
theorem dX11_isBelow_20 : decode cX11_isBelow 20 = .ok (.iload 4, 2) := by decide +kernel
theorem dX11_isBelow_22 : decode cX11_isBelow 22 = .ok (.iload_n 2, 1) := by decide +kernel
theorem dX11_isBelow_23 : decode cX11_isBelow 23 = .ok (.if_icmp .ne 7, 3) := by decide +kernel
theorem dX11_isBelow_26 : decode cX11_isBelow 26 = .ok (.iconst 1, 1) := by decide +kernel
theorem dX11_isBelow_27 : decode cX11_isBelow 27 = .ok (.goto 4, 3) := by decide +kernel
theorem dX11_isBelow_30 : decode cX11_isBelow 30 = .ok (.iconst 0, 1) := by decide +kernel
theorem dX11_isBelow_31 : decode cX11_isBelow 31 = .ok (.istore_n 3, 1) := by decide +kernel
theorem dX11_isBelow_32 : decode cX11_isBelow 32 = .ok (.aload_n 0, 1) := by decide +kernel
theorem dX11_isBelow_33 : decode cX11_isBelow 33 = .ok (.getfield 16, 3) := by decide +kernel
theorem dX11_isBelow_36 : decode cX11_isBelow 36 = .ok (.iload 4, 2) := by decide +kernel
theorem dX11_isBelow_38 : decode cX11_isBelow 38 = .ok (.iaload, 1) := by decide +kernel
theorem dX11_isBelow_39 : decode cX11_isBelow 39 = .ok (.istore 4, 2) := by decide +kernel
theorem dX11_isBelow_41 : decode cX11_isBelow 41 = .ok (.goto (-31), 3) := by decide +kernel
theorem dX11_isBelow_44 : decode cX11_isBelow 44 = .ok (.iload_n 3, 1) := by decide +kernel
theorem dX11_isBelow_45 : decode cX11_isBelow 45 = .ok (.ireturn, 1) := by decide +kernel
theorem dX11_rootAt_0 : decode cX11_rootAt 0 = .ok (.iconst (-1), 1) := by decide +kernel
theorem dX11_rootAt_1 : decode cX11_rootAt 1 = .ok (.istore_n 2, 1) := by decide +kernel
theorem dX11_rootAt_2 : decode cX11_rootAt 2 = .ok (.iconst 0, 1) := by decide +kernel
theorem dX11_rootAt_3 : decode cX11_rootAt 3 = .ok (.istore_n 3, 1) := by decide +kernel
theorem dX11_rootAt_4 : decode cX11_rootAt 4 = .ok (.iload_n 3, 1) := by decide +kernel
theorem dX11_rootAt_5 : decode cX11_rootAt 5 = .ok (.aload_n 0, 1) := by decide +kernel
theorem dX11_rootAt_6 : decode cX11_rootAt 6 = .ok (.getfield 132, 3) := by decide +kernel
theorem dX11_rootAt_9 : decode cX11_rootAt 9 = .ok (.if_icmp .ge 25, 3) := by decide +kernel
theorem dX11_rootAt_12 : decode cX11_rootAt 12 = .ok (.aload_n 0, 1) := by decide +kernel
theorem dX11_rootAt_13 : decode cX11_rootAt 13 = .ok (.getfield 39, 3) := by decide +kernel
theorem dX11_rootAt_16 : decode cX11_rootAt 16 = .ok (.iload_n 3, 1) := by decide +kernel
theorem dX11_rootAt_17 : decode cX11_rootAt 17 = .ok (.iaload, 1) := by decide +kernel
theorem dX11_rootAt_18 : decode cX11_rootAt 18 = .ok (.iload_n 1, 1) := by decide +kernel
theorem dX11_rootAt_19 : decode cX11_rootAt 19 = .ok (.if_icmp .ne 7, 3) := by decide +kernel
theorem dX11_rootAt_22 : decode cX11_rootAt 22 = .ok (.iload_n 3, 1) := by decide +kernel
theorem dX11_rootAt_23 : decode cX11_rootAt 23 = .ok (.goto 4, 3) := by decide +kernel
theorem dX11_rootAt_26 : decode cX11_rootAt 26 = .ok (.iload_n 2, 1) := by decide +kernel
theorem dX11_rootAt_27 : decode cX11_rootAt 27 = .ok (.istore_n 2, 1) := by decide +kernel
theorem dX11_rootAt_28 : decode cX11_rootAt 28 = .ok (.iinc 3 1, 3) := by decide +kernel
theorem dX11_rootAt_31 : decode cX11_rootAt 31 = .ok (.goto (-27), 3) := by decide +kernel
theorem dX11_rootAt_34 : decode cX11_rootAt 34 = .ok (.iload_n 2, 1) := by decide +kernel
theorem dX11_rootAt_35 : decode cX11_rootAt 35 = .ok (.ireturn, 1) := by decide +kernel
theorem dX11_over_0 : decode cX11_over 0 = .ok (.iconst (-1), 1) := by decide +kernel
theorem dX11_over_1 : decode cX11_over 1 = .ok (.istore_n 2, 1) := by decide +kernel
theorem dX11_over_2 : decode cX11_over 2 = .ok (.iconst 0, 1) := by decide +kernel
theorem dX11_over_3 : decode cX11_over 3 = .ok (.istore_n 3, 1) := by decide +kernel
theorem dX11_over_4 : decode cX11_over 4 = .ok (.iload_n 3, 1) := by decide +kernel
theorem dX11_over_5 : decode cX11_over 5 = .ok (.aload_n 0, 1) := by decide +kernel
theorem dX11_over_6 : decode cX11_over 6 = .ok (.getfield 132, 3) := by decide +kernel
theorem dX11_over_9 : decode cX11_over 9 = .ok (.if_icmp .ge 38, 3) := by decide +kernel
theorem dX11_over_12 : decode cX11_over 12 = .ok (.aload_n 0, 1) := by decide +kernel
theorem dX11_over_13 : decode cX11_over 13 = .ok (.getfield 7, 3) := by decide +kernel
theorem dX11_over_16 : decode cX11_over 16 = .ok (.iload_n 1, 1) := by decide +kernel
theorem dX11_over_17 : decode cX11_over 17 = .ok (.baload, 1) := by decide +kernel
theorem dX11_over_18 : decode cX11_over 18 = .ok (.ifCond .eq 29, 3) := by decide +kernel
theorem dX11_over_21 : decode cX11_over 21 = .ok (.aload_n 0, 1) := by decide +kernel
theorem dX11_over_22 : decode cX11_over 22 = .ok (.iload_n 1, 1) := by decide +kernel
theorem dX11_over_23 : decode cX11_over 23 = .ok (.aload_n 0, 1) := by decide +kernel
theorem dX11_over_24 : decode cX11_over 24 = .ok (.getfield 39, 3) := by decide +kernel
theorem dX11_over_27 : decode cX11_over 27 = .ok (.iload_n 3, 1) := by decide +kernel
theorem dX11_over_28 : decode cX11_over 28 = .ok (.iaload, 1) := by decide +kernel
theorem dX11_over_29 : decode cX11_over 29 = .ok (.invokevirtual 135, 3) := by decide +kernel
theorem dX11_over_32 : decode cX11_over 32 = .ok (.ifCond .eq 7, 3) := by decide +kernel
theorem dX11_over_35 : decode cX11_over 35 = .ok (.iload_n 3, 1) := by decide +kernel
theorem dX11_over_36 : decode cX11_over 36 = .ok (.goto 4, 3) := by decide +kernel
theorem dX11_over_39 : decode cX11_over 39 = .ok (.iload_n 2, 1) := by decide +kernel
theorem dX11_over_40 : decode cX11_over 40 = .ok (.istore_n 2, 1) := by decide +kernel
theorem dX11_over_41 : decode cX11_over 41 = .ok (.iinc 3 1, 3) := by decide +kernel
theorem dX11_over_44 : decode cX11_over 44 = .ok (.goto (-40), 3) := by decide +kernel
theorem dX11_over_47 : decode cX11_over 47 = .ok (.iload_n 2, 1) := by decide +kernel
theorem dX11_over_48 : decode cX11_over 48 = .ok (.ireturn, 1) := by decide +kernel
theorem dX11_isTaken_0 : decode cX11_isTaken 0 = .ok (.iconst 0, 1) := by decide +kernel
theorem dX11_isTaken_1 : decode cX11_isTaken 1 = .ok (.istore 4, 2) := by decide +kernel
theorem dX11_isTaken_3 : decode cX11_isTaken 3 = .ok (.iconst 0, 1) := by decide +kernel
theorem dX11_isTaken_4 : decode cX11_isTaken 4 = .ok (.istore 5, 2) := by decide +kernel
theorem dX11_isTaken_6 : decode cX11_isTaken 6 = .ok (.iload 5, 2) := by decide +kernel
theorem dX11_isTaken_8 : decode cX11_isTaken 8 = .ok (.aload_n 0, 1) := by decide +kernel
theorem dX11_isTaken_9 : decode cX11_isTaken 9 = .ok (.getfield 118, 3) := by decide +kernel
theorem dX11_isTaken_12 : decode cX11_isTaken 12 = .ok (.if_icmp .ge 59, 3) := by decide +kernel
theorem dX11_isTaken_15 : decode cX11_isTaken 15 = .ok (.iload 4, 2) := by decide +kernel
theorem dX11_isTaken_17 : decode cX11_isTaken 17 = .ok (.ifCond .ne 41, 3) := by decide +kernel
theorem dX11_isTaken_20 : decode cX11_isTaken 20 = .ok (.iload 5, 2) := by decide +kernel
theorem dX11_isTaken_22 : decode cX11_isTaken 22 = .ok (.iload_n 3, 1) := by decide +kernel
theorem dX11_isTaken_23 : decode cX11_isTaken 23 = .ok (.if_icmp .eq 39, 3) := by decide +kernel
theorem dX11_isTaken_26 : decode cX11_isTaken 26 = .ok (.aload_n 0, 1) := by decide +kernel
theorem dX11_isTaken_27 : decode cX11_isTaken 27 = .ok (.getfield 7, 3) := by decide +kernel
theorem dX11_isTaken_30 : decode cX11_isTaken 30 = .ok (.iload 5, 2) := by decide +kernel
theorem dX11_isTaken_32 : decode cX11_isTaken 32 = .ok (.baload, 1) := by decide +kernel
theorem dX11_isTaken_33 : decode cX11_isTaken 33 = .ok (.ifCond .eq 29, 3) := by decide +kernel
theorem dX11_isTaken_36 : decode cX11_isTaken 36 = .ok (.aload_n 0, 1) := by decide +kernel
theorem dX11_isTaken_37 : decode cX11_isTaken 37 = .ok (.getfield 16, 3) := by decide +kernel
theorem dX11_isTaken_40 : decode cX11_isTaken 40 = .ok (.iload 5, 2) := by decide +kernel
theorem dX11_isTaken_42 : decode cX11_isTaken 42 = .ok (.iaload, 1) := by decide +kernel
theorem dX11_isTaken_43 : decode cX11_isTaken 43 = .ok (.iload_n 1, 1) := by decide +kernel
theorem dX11_isTaken_44 : decode cX11_isTaken 44 = .ok (.if_icmp .ne 18, 3) := by decide +kernel
theorem dX11_isTaken_47 : decode cX11_isTaken 47 = .ok (.aload_n 0, 1) := by decide +kernel
theorem dX11_isTaken_48 : decode cX11_isTaken 48 = .ok (.getfield 20, 3) := by decide +kernel
theorem dX11_isTaken_51 : decode cX11_isTaken 51 = .ok (.iload 5, 2) := by decide +kernel
theorem dX11_isTaken_53 : decode cX11_isTaken 53 = .ok (.caload, 1) := by decide +kernel
theorem dX11_isTaken_54 : decode cX11_isTaken 54 = .ok (.iload_n 2, 1) := by decide +kernel
theorem dX11_isTaken_55 : decode cX11_isTaken 55 = .ok (.if_icmp .ne 7, 3) := by decide +kernel
theorem dX11_isTaken_58 : decode cX11_isTaken 58 = .ok (.iconst 1, 1) := by decide +kernel
theorem dX11_isTaken_59 : decode cX11_isTaken 59 = .ok (.goto 4, 3) := by decide +kernel
theorem dX11_isTaken_62 : decode cX11_isTaken 62 = .ok (.iconst 0, 1) := by decide +kernel
theorem dX11_isTaken_63 : decode cX11_isTaken 63 = .ok (.istore 4, 2) := by decide +kernel
theorem dX11_isTaken_65 : decode cX11_isTaken 65 = .ok (.iinc 5 1, 3) := by decide +kernel
theorem dX11_isTaken_68 : decode cX11_isTaken 68 = .ok (.goto (-62), 3) := by decide +kernel
theorem dX11_isTaken_71 : decode cX11_isTaken 71 = .ok (.iload 4, 2) := by decide +kernel
theorem dX11_isTaken_73 : decode cX11_isTaken 73 = .ok (.ireturn, 1) := by decide +kernel
theorem dX11_comes_0 : decode cX11_comes 0 = .ok (.iload_n 1, 1) := by decide +kernel
theorem dX11_comes_1 : decode cX11_comes 1 = .ok (.iconst (-1), 1) := by decide +kernel
theorem dX11_comes_2 : decode cX11_comes 2 = .ok (.if_icmp .eq 12, 3) := by decide +kernel
theorem dX11_comes_5 : decode cX11_comes 5 = .ok (.aload_n 0, 1) := by decide +kernel
theorem dX11_comes_6 : decode cX11_comes 6 = .ok (.getfield 51, 3) := by decide +kernel
theorem dX11_comes_9 : decode cX11_comes 9 = .ok (.iload_n 1, 1) := by decide +kernel
theorem dX11_comes_10 : decode cX11_comes 10 = .ok (.baload, 1) := by decide +kernel
theorem dX11_comes_11 : decode cX11_comes 11 = .ok (.ifCond .eq 4, 3) := by decide +kernel
theorem dX11_comes_14 : decode cX11_comes 14 = .ok (.return_, 1) := by decide +kernel
theorem dX11_comes_15 : decode cX11_comes 15 = .ok (.aload_n 0, 1) := by decide +kernel
theorem dX11_comes_16 : decode cX11_comes 16 = .ok (.getfield 42, 3) := by decide +kernel
theorem dX11_comes_19 : decode cX11_comes 19 = .ok (.iload_n 1, 1) := by decide +kernel
theorem dX11_comes_20 : decode cX11_comes 20 = .ok (.iaload, 1) := by decide +kernel
theorem dX11_comes_21 : decode cX11_comes 21 = .ok (.bipush 8, 2) := by decide +kernel
theorem dX11_comes_23 : decode cX11_comes 23 = .ok (.if_icmp .ne 18, 3) := by decide +kernel
theorem dX11_comes_26 : decode cX11_comes 26 = .ok (.aload_n 0, 1) := by decide +kernel
theorem dX11_comes_27 : decode cX11_comes 27 = .ok (.getfield 42, 3) := by decide +kernel
theorem dX11_comes_30 : decode cX11_comes 30 = .ok (.iload_n 1, 1) := by decide +kernel
theorem dX11_comes_31 : decode cX11_comes 31 = .ok (.iconst 0, 1) := by decide +kernel
theorem dX11_comes_32 : decode cX11_comes 32 = .ok (.iastore, 1) := by decide +kernel
theorem dX11_comes_33 : decode cX11_comes 33 = .ok (.aload_n 0, 1) := by decide +kernel
theorem dX11_comes_34 : decode cX11_comes 34 = .ok (.getfield 51, 3) := by decide +kernel
theorem dX11_comes_37 : decode cX11_comes 37 = .ok (.iload_n 1, 1) := by decide +kernel
theorem dX11_comes_38 : decode cX11_comes 38 = .ok (.iconst 1, 1) := by decide +kernel
theorem dX11_comes_39 : decode cX11_comes 39 = .ok (.bastore, 1) := by decide +kernel
theorem dX11_comes_40 : decode cX11_comes 40 = .ok (.return_, 1) := by decide +kernel
theorem dX11_comes_41 : decode cX11_comes 41 = .ok (.aload_n 0, 1) := by decide +kernel
theorem dX11_comes_42 : decode cX11_comes 42 = .ok (.getfield 45, 3) := by decide +kernel
theorem dX11_comes_45 : decode cX11_comes 45 = .ok (.bipush 8, 2) := by decide +kernel
theorem dX11_comes_47 : decode cX11_comes 47 = .ok (.iload_n 1, 1) := by decide +kernel
theorem dX11_comes_48 : decode cX11_comes 48 = .ok (.imul, 1) := by decide +kernel
theorem dX11_comes_49 : decode cX11_comes 49 = .ok (.aload_n 0, 1) := by decide +kernel
theorem dX11_comes_50 : decode cX11_comes 50 = .ok (.getfield 42, 3) := by decide +kernel
theorem dX11_comes_53 : decode cX11_comes 53 = .ok (.iload_n 1, 1) := by decide +kernel
theorem dX11_comes_54 : decode cX11_comes 54 = .ok (.iaload, 1) := by decide +kernel
theorem dX11_comes_55 : decode cX11_comes 55 = .ok (.iadd, 1) := by decide +kernel
theorem dX11_comes_56 : decode cX11_comes 56 = .ok (.iload_n 2, 1) := by decide +kernel
theorem dX11_comes_57 : decode cX11_comes 57 = .ok (.iastore, 1) := by decide +kernel
theorem dX11_comes_58 : decode cX11_comes 58 = .ok (.aload_n 0, 1) := by decide +kernel
theorem dX11_comes_59 : decode cX11_comes 59 = .ok (.getfield 48, 3) := by decide +kernel
theorem dX11_comes_62 : decode cX11_comes 62 = .ok (.bipush 8, 2) := by decide +kernel
theorem dX11_comes_64 : decode cX11_comes 64 = .ok (.iload_n 1, 1) := by decide +kernel
theorem dX11_comes_65 : decode cX11_comes 65 = .ok (.imul, 1) := by decide +kernel
theorem dX11_comes_66 : decode cX11_comes 66 = .ok (.aload_n 0, 1) := by decide +kernel
theorem dX11_comes_67 : decode cX11_comes 67 = .ok (.getfield 42, 3) := by decide +kernel
theorem dX11_comes_70 : decode cX11_comes 70 = .ok (.iload_n 1, 1) := by decide +kernel
theorem dX11_comes_71 : decode cX11_comes 71 = .ok (.iaload, 1) := by decide +kernel
theorem dX11_comes_72 : decode cX11_comes 72 = .ok (.iadd, 1) := by decide +kernel
theorem dX11_comes_73 : decode cX11_comes 73 = .ok (.iload_n 3, 1) := by decide +kernel
theorem dX11_comes_74 : decode cX11_comes 74 = .ok (.iastore, 1) := by decide +kernel
theorem dX11_comes_75 : decode cX11_comes 75 = .ok (.aload_n 0, 1) := by decide +kernel
theorem dX11_comes_76 : decode cX11_comes 76 = .ok (.getfield 42, 3) := by decide +kernel
theorem dX11_comes_79 : decode cX11_comes 79 = .ok (.iload_n 1, 1) := by decide +kernel
theorem dX11_comes_80 : decode cX11_comes 80 = .ok (.dup2, 1) := by decide +kernel
theorem dX11_comes_81 : decode cX11_comes 81 = .ok (.iaload, 1) := by decide +kernel
theorem dX11_comes_82 : decode cX11_comes 82 = .ok (.iconst 1, 1) := by decide +kernel
theorem dX11_comes_83 : decode cX11_comes 83 = .ok (.iadd, 1) := by decide +kernel
theorem dX11_comes_84 : decode cX11_comes 84 = .ok (.iastore, 1) := by decide +kernel
theorem dX11_comes_85 : decode cX11_comes 85 = .ok (.return_, 1) := by decide +kernel
theorem dX11_make_0 : decode cX11_make 0 = .ok (.aload_n 0, 1) := by decide +kernel
theorem dX11_make_1 : decode cX11_make 1 = .ok (.iload_n 1, 1) := by decide +kernel
theorem dX11_make_2 : decode cX11_make 2 = .ok (.invokevirtual 139, 3) := by decide +kernel
theorem dX11_make_5 : decode cX11_make 5 = .ok (.ifCond .ne 9, 3) := by decide +kernel
theorem dX11_make_8 : decode cX11_make 8 = .ok (.aload_n 0, 1) := by decide +kernel
theorem dX11_make_9 : decode cX11_make 9 = .ok (.iconst 1, 1) := by decide +kernel
theorem dX11_make_10 : decode cX11_make 10 = .ok (.invokevirtual 142, 3) := by decide +kernel
theorem dX11_make_13 : decode cX11_make 13 = .ok (.ireturn, 1) := by decide +kernel
theorem dX11_make_14 : decode cX11_make 14 = .ok (.aload_n 0, 1) := by decide +kernel
theorem dX11_make_15 : decode cX11_make 15 = .ok (.iload_n 2, 1) := by decide +kernel
theorem dX11_make_16 : decode cX11_make 16 = .ok (.bipush 97, 2) := by decide +kernel
theorem dX11_make_18 : decode cX11_make 18 = .ok (.bipush 122, 2) := by decide +kernel
theorem dX11_make_20 : decode cX11_make 20 = .ok (.invokestatic 124, 3) := by decide +kernel
theorem dX11_make_23 : decode cX11_make 23 = .ok (.ifCond .ne 7, 3) := by decide +kernel
theorem dX11_make_26 : decode cX11_make 26 = .ok (.iconst 2, 1) := by decide +kernel
theorem dX11_make_27 : decode cX11_make 27 = .ok (.goto 27, 3) := by decide +kernel
theorem dX11_make_30 : decode cX11_make 30 = .ok (.aload_n 0, 1) := by decide +kernel
theorem dX11_make_31 : decode cX11_make 31 = .ok (.iload_n 1, 1) := by decide +kernel
theorem dX11_make_32 : decode cX11_make 32 = .ok (.iload_n 2, 1) := by decide +kernel
theorem dX11_make_33 : decode cX11_make 33 = .ok (.iconst (-1), 1) := by decide +kernel
theorem dX11_make_34 : decode cX11_make 34 = .ok (.invokevirtual 146, 3) := by decide +kernel
theorem dX11_make_37 : decode cX11_make 37 = .ok (.ifCond .ne 12, 3) := by decide +kernel
theorem dX11_make_40 : decode cX11_make 40 = .ok (.aload_n 0, 1) := by decide +kernel
theorem dX11_make_41 : decode cX11_make 41 = .ok (.getfield 118, 3) := by decide +kernel
theorem dX11_make_44 : decode cX11_make 44 = .ok (.bipush 60, 2) := by decide +kernel
theorem dX11_make_46 : decode cX11_make 46 = .ok (.if_icmp .ne 7, 3) := by decide +kernel
theorem dX11_make_49 : decode cX11_make 49 = .ok (.iconst 3, 1) := by decide +kernel
theorem dX11_make_50 : decode cX11_make 50 = .ok (.goto 4, 3) := by decide +kernel
theorem dX11_make_53 : decode cX11_make 53 = .ok (.iconst 0, 1) := by decide +kernel
theorem dX11_make_54 : decode cX11_make 54 = .ok (.putfield 121, 3) := by decide +kernel
theorem dX11_make_57 : decode cX11_make 57 = .ok (.aload_n 0, 1) := by decide +kernel
theorem dX11_make_58 : decode cX11_make 58 = .ok (.getfield 121, 3) := by decide +kernel
theorem dX11_make_61 : decode cX11_make 61 = .ok (.ifCond .le 5, 3) := by decide +kernel
theorem dX11_make_64 : decode cX11_make 64 = .ok (.iconst 0, 1) := by decide +kernel
theorem dX11_make_65 : decode cX11_make 65 = .ok (.ireturn, 1) := by decide +kernel
theorem dX11_make_66 : decode cX11_make 66 = .ok (.aload_n 0, 1) := by decide +kernel
theorem dX11_make_67 : decode cX11_make 67 = .ok (.getfield 118, 3) := by decide +kernel
theorem dX11_make_70 : decode cX11_make 70 = .ok (.istore 4, 2) := by decide +kernel
theorem dX11_make_72 : decode cX11_make 72 = .ok (.aload_n 0, 1) := by decide +kernel
theorem dX11_make_73 : decode cX11_make 73 = .ok (.getfield 7, 3) := by decide +kernel
theorem dX11_make_76 : decode cX11_make 76 = .ok (.iload 4, 2) := by decide +kernel
theorem dX11_make_78 : decode cX11_make 78 = .ok (.iconst 1, 1) := by decide +kernel
theorem dX11_make_79 : decode cX11_make 79 = .ok (.bastore, 1) := by decide +kernel
theorem dX11_make_80 : decode cX11_make 80 = .ok (.aload_n 0, 1) := by decide +kernel
theorem dX11_make_81 : decode cX11_make 81 = .ok (.getfield 13, 3) := by decide +kernel
theorem dX11_make_84 : decode cX11_make 84 = .ok (.iload 4, 2) := by decide +kernel
theorem dX11_make_86 : decode cX11_make 86 = .ok (.iload_n 3, 1) := by decide +kernel
theorem dX11_make_87 : decode cX11_make 87 = .ok (.bastore, 1) := by decide +kernel
theorem dX11_make_88 : decode cX11_make 88 = .ok (.aload_n 0, 1) := by decide +kernel
theorem dX11_make_89 : decode cX11_make 89 = .ok (.getfield 16, 3) := by decide +kernel
theorem dX11_make_92 : decode cX11_make 92 = .ok (.iload 4, 2) := by decide +kernel
theorem dX11_make_94 : decode cX11_make 94 = .ok (.iload_n 1, 1) := by decide +kernel
theorem dX11_make_95 : decode cX11_make 95 = .ok (.iastore, 1) := by decide +kernel
theorem dX11_make_96 : decode cX11_make 96 = .ok (.aload_n 0, 1) := by decide +kernel
theorem dX11_make_97 : decode cX11_make 97 = .ok (.getfield 20, 3) := by decide +kernel
theorem dX11_make_100 : decode cX11_make 100 = .ok (.iload 4, 2) := by decide +kernel
theorem dX11_make_102 : decode cX11_make 102 = .ok (.iload_n 2, 1) := by decide +kernel
theorem dX11_make_103 : decode cX11_make 103 = .ok (.castore, 1) := by decide +kernel
theorem dX11_make_104 : decode cX11_make 104 = .ok (.aload_n 0, 1) := by decide +kernel
theorem dX11_make_105 : decode cX11_make 105 = .ok (.getfield 24, 3) := by decide +kernel
theorem dX11_make_108 : decode cX11_make 108 = .ok (.iload 4, 2) := by decide +kernel
theorem dX11_make_110 : decode cX11_make 110 = .ok (.iconst 1, 1) := by decide +kernel
theorem dX11_make_111 : decode cX11_make 111 = .ok (.iastore, 1) := by decide +kernel
theorem dX11_make_112 : decode cX11_make 112 = .ok (.aload_n 0, 1) := by decide +kernel
theorem dX11_make_113 : decode cX11_make 113 = .ok (.getfield 36, 3) := by decide +kernel
theorem dX11_make_116 : decode cX11_make 116 = .ok (.iload 4, 2) := by decide +kernel
theorem dX11_make_118 : decode cX11_make 118 = .ok (.bipush 15, 2) := by decide +kernel
theorem dX11_make_120 : decode cX11_make 120 = .ok (.iastore, 1) := by decide +kernel
theorem dX11_make_121 : decode cX11_make 121 = .ok (.aload_n 0, 1) := by decide +kernel
theorem dX11_make_122 : decode cX11_make 122 = .ok (.dup, 1) := by decide +kernel
theorem dX11_make_123 : decode cX11_make 123 = .ok (.getfield 118, 3) := by decide +kernel
theorem dX11_make_126 : decode cX11_make 126 = .ok (.iconst 1, 1) := by decide +kernel
theorem dX11_make_127 : decode cX11_make 127 = .ok (.iadd, 1) := by decide +kernel
theorem dX11_make_128 : decode cX11_make 128 = .ok (.putfield 118, 3) := by decide +kernel
theorem dX11_make_131 : decode cX11_make 131 = .ok (.aload_n 0, 1) := by decide +kernel
theorem dX11_make_132 : decode cX11_make 132 = .ok (.aload_n 0, 1) := by decide +kernel
theorem dX11_make_133 : decode cX11_make 133 = .ok (.iload 4, 2) := by decide +kernel
theorem dX11_make_135 : decode cX11_make 135 = .ok (.invokevirtual 150, 3) := by decide +kernel
theorem dX11_make_138 : decode cX11_make 138 = .ok (.iconst 0, 1) := by decide +kernel
theorem dX11_make_139 : decode cX11_make 139 = .ok (.iload 4, 2) := by decide +kernel
theorem dX11_make_141 : decode cX11_make 141 = .ok (.invokevirtual 153, 3) := by decide +kernel
theorem dX11_make_144 : decode cX11_make 144 = .ok (.iload 4, 2) := by decide +kernel
theorem dX11_make_146 : decode cX11_make 146 = .ok (.ireturn, 1) := by decide +kernel
theorem dX11_write_0 : decode cX11_write 0 = .ok (.aload_n 0, 1) := by decide +kernel
theorem dX11_write_1 : decode cX11_write 1 = .ok (.aload_n 0, 1) := by decide +kernel
theorem dX11_write_2 : decode cX11_write 2 = .ok (.iload_n 1, 1) := by decide +kernel
theorem dX11_write_3 : decode cX11_write 3 = .ok (.invokevirtual 157, 3) := by decide +kernel
theorem dX11_write_6 : decode cX11_write 6 = .ok (.ifCond .ne 7, 3) := by decide +kernel
theorem dX11_write_9 : decode cX11_write 9 = .ok (.iconst 1, 1) := by decide +kernel
theorem dX11_write_10 : decode cX11_write 10 = .ok (.goto 48, 3) := by decide +kernel
theorem dX11_write_13 : decode cX11_write 13 = .ok (.iload_n 2, 1) := by decide +kernel
theorem dX11_write_14 : decode cX11_write 14 = .ok (.bipush (-3), 2) := by decide +kernel
theorem dX11_write_16 : decode cX11_write 16 = .ok (.bipush 99, 2) := by decide +kernel
theorem dX11_write_18 : decode cX11_write 18 = .ok (.invokestatic 124, 3) := by decide +kernel
theorem dX11_write_21 : decode cX11_write 21 = .ok (.ifCond .eq 8, 3) := by decide +kernel
theorem dX11_write_24 : decode cX11_write 24 = .ok (.iload_n 2, 1) := by decide +kernel
theorem dX11_write_25 : decode cX11_write 25 = .ok (.iconst (-1), 1) := by decide +kernel
theorem dX11_write_26 : decode cX11_write 26 = .ok (.if_icmp .ne 7, 3) := by decide +kernel
theorem dX11_write_29 : decode cX11_write 29 = .ok (.iconst 2, 1) := by decide +kernel
theorem dX11_write_30 : decode cX11_write 30 = .ok (.goto 28, 3) := by decide +kernel
theorem dX11_write_33 : decode cX11_write 33 = .ok (.aload_n 0, 1) := by decide +kernel
theorem dX11_write_34 : decode cX11_write 34 = .ok (.getfield 33, 3) := by decide +kernel
theorem dX11_write_37 : decode cX11_write 37 = .ok (.iload_n 1, 1) := by decide +kernel
theorem dX11_write_38 : decode cX11_write 38 = .ok (.baload, 1) := by decide +kernel
theorem dX11_write_39 : decode cX11_write 39 = .ok (.ifCond .ne 14, 3) := by decide +kernel
theorem dX11_write_42 : decode cX11_write 42 = .ok (.aload_n 0, 1) := by decide +kernel
theorem dX11_write_43 : decode cX11_write 43 = .ok (.getfield 27, 3) := by decide +kernel
theorem dX11_write_46 : decode cX11_write 46 = .ok (.iload_n 1, 1) := by decide +kernel
theorem dX11_write_47 : decode cX11_write 47 = .ok (.iaload, 1) := by decide +kernel
theorem dX11_write_48 : decode cX11_write 48 = .ok (.bipush 20, 2) := by decide +kernel
theorem dX11_write_50 : decode cX11_write 50 = .ok (.if_icmp .ne 7, 3) := by decide +kernel
theorem dX11_write_53 : decode cX11_write 53 = .ok (.iconst 3, 1) := by decide +kernel
theorem dX11_write_54 : decode cX11_write 54 = .ok (.goto 4, 3) := by decide +kernel
theorem dX11_write_57 : decode cX11_write 57 = .ok (.iconst 0, 1) := by decide +kernel
theorem dX11_write_58 : decode cX11_write 58 = .ok (.putfield 121, 3) := by decide +kernel
theorem dX11_write_61 : decode cX11_write 61 = .ok (.aload_n 0, 1) := by decide +kernel
theorem dX11_write_62 : decode cX11_write 62 = .ok (.getfield 121, 3) := by decide +kernel
theorem dX11_write_65 : decode cX11_write 65 = .ok (.ifCond .le 5, 3) := by decide +kernel
theorem dX11_write_68 : decode cX11_write 68 = .ok (.iconst 0, 1) := by decide +kernel
theorem dX11_write_69 : decode cX11_write 69 = .ok (.ireturn, 1) := by decide +kernel
theorem dX11_write_70 : decode cX11_write 70 = .ok (.aload_n 0, 1) := by decide +kernel
theorem dX11_write_71 : decode cX11_write 71 = .ok (.getfield 30, 3) := by decide +kernel
theorem dX11_write_74 : decode cX11_write 74 = .ok (.bipush 20, 2) := by decide +kernel
theorem dX11_write_76 : decode cX11_write 76 = .ok (.iload_n 1, 1) := by decide +kernel
theorem dX11_write_77 : decode cX11_write 77 = .ok (.imul, 1) := by decide +kernel
theorem dX11_write_78 : decode cX11_write 78 = .ok (.aload_n 0, 1) := by decide +kernel
theorem dX11_write_79 : decode cX11_write 79 = .ok (.getfield 27, 3) := by decide +kernel
theorem dX11_write_82 : decode cX11_write 82 = .ok (.iload_n 1, 1) := by decide +kernel
theorem dX11_write_83 : decode cX11_write 83 = .ok (.iaload, 1) := by decide +kernel
theorem dX11_write_84 : decode cX11_write 84 = .ok (.iadd, 1) := by decide +kernel
theorem dX11_write_85 : decode cX11_write 85 = .ok (.iload_n 2, 1) := by decide +kernel
theorem dX11_write_86 : decode cX11_write 86 = .ok (.iastore, 1) := by decide +kernel
theorem dX11_write_87 : decode cX11_write 87 = .ok (.aload_n 0, 1) := by decide +kernel
theorem dX11_write_88 : decode cX11_write 88 = .ok (.getfield 27, 3) := by decide +kernel
theorem dX11_write_91 : decode cX11_write 91 = .ok (.iload_n 1, 1) := by decide +kernel
theorem dX11_write_92 : decode cX11_write 92 = .ok (.dup2, 1) := by decide +kernel
theorem dX11_write_93 : decode cX11_write 93 = .ok (.iaload, 1) := by decide +kernel
theorem dX11_write_94 : decode cX11_write 94 = .ok (.iconst 1, 1) := by decide +kernel
theorem dX11_write_95 : decode cX11_write 95 = .ok (.iadd, 1) := by decide +kernel
theorem dX11_write_96 : decode cX11_write 96 = .ok (.iastore, 1) := by decide +kernel
theorem dX11_write_97 : decode cX11_write 97 = .ok (.aload_n 0, 1) := by decide +kernel
theorem dX11_write_98 : decode cX11_write 98 = .ok (.getfield 24, 3) := by decide +kernel
theorem dX11_write_101 : decode cX11_write 101 = .ok (.iload_n 1, 1) := by decide +kernel
theorem dX11_write_102 : decode cX11_write 102 = .ok (.dup2, 1) := by decide +kernel
theorem dX11_write_103 : decode cX11_write 103 = .ok (.iaload, 1) := by decide +kernel
theorem dX11_write_104 : decode cX11_write 104 = .ok (.iconst 1, 1) := by decide +kernel
theorem dX11_write_105 : decode cX11_write 105 = .ok (.iadd, 1) := by decide +kernel
theorem dX11_write_106 : decode cX11_write 106 = .ok (.iastore, 1) := by decide +kernel
theorem dX11_write_107 : decode cX11_write 107 = .ok (.aload_n 0, 1) := by decide +kernel
theorem dX11_write_108 : decode cX11_write 108 = .ok (.aload_n 0, 1) := by decide +kernel
theorem dX11_write_109 : decode cX11_write 109 = .ok (.iload_n 1, 1) := by decide +kernel
theorem dX11_write_110 : decode cX11_write 110 = .ok (.invokevirtual 150, 3) := by decide +kernel
theorem dX11_write_113 : decode cX11_write 113 = .ok (.iconst 1, 1) := by decide +kernel
theorem dX11_write_114 : decode cX11_write 114 = .ok (.iload_n 1, 1) := by decide +kernel
theorem dX11_write_115 : decode cX11_write 115 = .ok (.invokevirtual 153, 3) := by decide +kernel
theorem dX11_write_118 : decode cX11_write 118 = .ok (.aload_n 0, 1) := by decide +kernel
theorem dX11_write_119 : decode cX11_write 119 = .ok (.getfield 24, 3) := by decide +kernel
theorem dX11_write_122 : decode cX11_write 122 = .ok (.iload_n 1, 1) := by decide +kernel
theorem dX11_write_123 : decode cX11_write 123 = .ok (.iaload, 1) := by decide +kernel
theorem dX11_write_124 : decode cX11_write 124 = .ok (.ireturn, 1) := by decide +kernel
theorem dX11_empty_0 : decode cX11_empty 0 = .ok (.aload_n 0, 1) := by decide +kernel
theorem dX11_empty_1 : decode cX11_empty 1 = .ok (.aload_n 0, 1) := by decide +kernel
theorem dX11_empty_2 : decode cX11_empty 2 = .ok (.iload_n 1, 1) := by decide +kernel
theorem dX11_empty_3 : decode cX11_empty 3 = .ok (.invokevirtual 157, 3) := by decide +kernel
theorem dX11_empty_6 : decode cX11_empty 6 = .ok (.ifCond .ne 7, 3) := by decide +kernel
theorem dX11_empty_9 : decode cX11_empty 9 = .ok (.iconst 1, 1) := by decide +kernel
theorem dX11_empty_10 : decode cX11_empty 10 = .ok (.goto 17, 3) := by decide +kernel
theorem dX11_empty_13 : decode cX11_empty 13 = .ok (.aload_n 0, 1) := by decide +kernel
theorem dX11_empty_14 : decode cX11_empty 14 = .ok (.getfield 33, 3) := by decide +kernel
theorem dX11_empty_17 : decode cX11_empty 17 = .ok (.iload_n 1, 1) := by decide +kernel
theorem dX11_empty_18 : decode cX11_empty 18 = .ok (.baload, 1) := by decide +kernel
theorem dX11_empty_19 : decode cX11_empty 19 = .ok (.ifCond .eq 7, 3) := by decide +kernel
theorem dX11_empty_22 : decode cX11_empty 22 = .ok (.iconst 2, 1) := by decide +kernel
theorem dX11_empty_23 : decode cX11_empty 23 = .ok (.goto 4, 3) := by decide +kernel
theorem dX11_empty_26 : decode cX11_empty 26 = .ok (.iconst 0, 1) := by decide +kernel
theorem dX11_empty_27 : decode cX11_empty 27 = .ok (.putfield 121, 3) := by decide +kernel
theorem dX11_empty_30 : decode cX11_empty 30 = .ok (.aload_n 0, 1) := by decide +kernel
theorem dX11_empty_31 : decode cX11_empty 31 = .ok (.getfield 121, 3) := by decide +kernel
theorem dX11_empty_34 : decode cX11_empty 34 = .ok (.ifCond .le 5, 3) := by decide +kernel
theorem dX11_empty_37 : decode cX11_empty 37 = .ok (.iconst 0, 1) := by decide +kernel
theorem dX11_empty_38 : decode cX11_empty 38 = .ok (.ireturn, 1) := by decide +kernel
theorem dX11_empty_39 : decode cX11_empty 39 = .ok (.aload_n 0, 1) := by decide +kernel
theorem dX11_empty_40 : decode cX11_empty 40 = .ok (.getfield 27, 3) := by decide +kernel
theorem dX11_empty_43 : decode cX11_empty 43 = .ok (.iload_n 1, 1) := by decide +kernel
theorem dX11_empty_44 : decode cX11_empty 44 = .ok (.iaload, 1) := by decide +kernel
theorem dX11_empty_45 : decode cX11_empty 45 = .ok (.istore_n 2, 1) := by decide +kernel
theorem dX11_empty_46 : decode cX11_empty 46 = .ok (.aload_n 0, 1) := by decide +kernel
theorem dX11_empty_47 : decode cX11_empty 47 = .ok (.getfield 27, 3) := by decide +kernel
theorem dX11_empty_50 : decode cX11_empty 50 = .ok (.iload_n 1, 1) := by decide +kernel
theorem dX11_empty_51 : decode cX11_empty 51 = .ok (.iconst 0, 1) := by decide +kernel
theorem dX11_empty_52 : decode cX11_empty 52 = .ok (.iastore, 1) := by decide +kernel
theorem dX11_empty_53 : decode cX11_empty 53 = .ok (.aload_n 0, 1) := by decide +kernel
theorem dX11_empty_54 : decode cX11_empty 54 = .ok (.getfield 24, 3) := by decide +kernel
theorem dX11_empty_57 : decode cX11_empty 57 = .ok (.iload_n 1, 1) := by decide +kernel
theorem dX11_empty_58 : decode cX11_empty 58 = .ok (.dup2, 1) := by decide +kernel
theorem dX11_empty_59 : decode cX11_empty 59 = .ok (.iaload, 1) := by decide +kernel
theorem dX11_empty_60 : decode cX11_empty 60 = .ok (.iconst 1, 1) := by decide +kernel
theorem dX11_empty_61 : decode cX11_empty 61 = .ok (.iadd, 1) := by decide +kernel
theorem dX11_empty_62 : decode cX11_empty 62 = .ok (.iastore, 1) := by decide +kernel
theorem dX11_empty_63 : decode cX11_empty 63 = .ok (.aload_n 0, 1) := by decide +kernel
theorem dX11_empty_64 : decode cX11_empty 64 = .ok (.aload_n 0, 1) := by decide +kernel
theorem dX11_empty_65 : decode cX11_empty 65 = .ok (.iload_n 1, 1) := by decide +kernel
theorem dX11_empty_66 : decode cX11_empty 66 = .ok (.invokevirtual 150, 3) := by decide +kernel
theorem dX11_empty_69 : decode cX11_empty 69 = .ok (.iconst 1, 1) := by decide +kernel
theorem dX11_empty_70 : decode cX11_empty 70 = .ok (.iload_n 1, 1) := by decide +kernel
theorem dX11_empty_71 : decode cX11_empty 71 = .ok (.invokevirtual 153, 3) := by decide +kernel
theorem dX11_empty_74 : decode cX11_empty 74 = .ok (.iload_n 2, 1) := by decide +kernel
theorem dX11_empty_75 : decode cX11_empty 75 = .ok (.ireturn, 1) := by decide +kernel
theorem dX11_holdsRoot_0 : decode cX11_holdsRoot 0 = .ok (.iconst 0, 1) := by decide +kernel
theorem dX11_holdsRoot_1 : decode cX11_holdsRoot 1 = .ok (.istore_n 2, 1) := by decide +kernel
theorem dX11_holdsRoot_2 : decode cX11_holdsRoot 2 = .ok (.iconst 0, 1) := by decide +kernel
theorem dX11_holdsRoot_3 : decode cX11_holdsRoot 3 = .ok (.istore_n 3, 1) := by decide +kernel
theorem dX11_holdsRoot_4 : decode cX11_holdsRoot 4 = .ok (.iload_n 3, 1) := by decide +kernel
theorem dX11_holdsRoot_5 : decode cX11_holdsRoot 5 = .ok (.aload_n 0, 1) := by decide +kernel
theorem dX11_holdsRoot_6 : decode cX11_holdsRoot 6 = .ok (.getfield 132, 3) := by decide +kernel
theorem dX11_holdsRoot_9 : decode cX11_holdsRoot 9 = .ok (.if_icmp .ge 43, 3) := by decide +kernel
theorem dX11_holdsRoot_12 : decode cX11_holdsRoot 12 = .ok (.iload_n 2, 1) := by decide +kernel
theorem dX11_holdsRoot_13 : decode cX11_holdsRoot 13 = .ok (.ifCond .ne 27, 3) := by decide +kernel
theorem dX11_holdsRoot_16 : decode cX11_holdsRoot 16 = .ok (.aload_n 0, 1) := by decide +kernel
theorem dX11_holdsRoot_17 : decode cX11_holdsRoot 17 = .ok (.getfield 39, 3) := by decide +kernel
theorem dX11_holdsRoot_20 : decode cX11_holdsRoot 20 = .ok (.iload_n 3, 1) := by decide +kernel
theorem dX11_holdsRoot_21 : decode cX11_holdsRoot 21 = .ok (.iaload, 1) := by decide +kernel
theorem dX11_holdsRoot_22 : decode cX11_holdsRoot 22 = .ok (.iload_n 1, 1) := by decide +kernel
theorem dX11_holdsRoot_23 : decode cX11_holdsRoot 23 = .ok (.if_icmp .eq 17, 3) := by decide +kernel
theorem dX11_holdsRoot_26 : decode cX11_holdsRoot 26 = .ok (.aload_n 0, 1) := by decide +kernel
theorem dX11_holdsRoot_27 : decode cX11_holdsRoot 27 = .ok (.aload_n 0, 1) := by decide +kernel
theorem dX11_holdsRoot_28 : decode cX11_holdsRoot 28 = .ok (.getfield 39, 3) := by decide +kernel
theorem dX11_holdsRoot_31 : decode cX11_holdsRoot 31 = .ok (.iload_n 3, 1) := by decide +kernel
theorem dX11_holdsRoot_32 : decode cX11_holdsRoot 32 = .ok (.iaload, 1) := by decide +kernel
theorem dX11_holdsRoot_33 : decode cX11_holdsRoot 33 = .ok (.iload_n 1, 1) := by decide +kernel
theorem dX11_holdsRoot_34 : decode cX11_holdsRoot 34 = .ok (.invokevirtual 135, 3) := by decide +kernel
theorem dX11_holdsRoot_37 : decode cX11_holdsRoot 37 = .ok (.ifCond .eq 7, 3) := by decide +kernel
theorem dX11_holdsRoot_40 : decode cX11_holdsRoot 40 = .ok (.iconst 1, 1) := by decide +kernel
theorem dX11_holdsRoot_41 : decode cX11_holdsRoot 41 = .ok (.goto 4, 3) := by decide +kernel
theorem dX11_holdsRoot_44 : decode cX11_holdsRoot 44 = .ok (.iconst 0, 1) := by decide +kernel
theorem dX11_holdsRoot_45 : decode cX11_holdsRoot 45 = .ok (.istore_n 2, 1) := by decide +kernel
theorem dX11_holdsRoot_46 : decode cX11_holdsRoot 46 = .ok (.iinc 3 1, 3) := by decide +kernel
theorem dX11_holdsRoot_49 : decode cX11_holdsRoot 49 = .ok (.goto (-45), 3) := by decide +kernel
theorem dX11_holdsRoot_52 : decode cX11_holdsRoot 52 = .ok (.iload_n 2, 1) := by decide +kernel
theorem dX11_holdsRoot_53 : decode cX11_holdsRoot 53 = .ok (.ireturn, 1) := by decide +kernel
theorem dX11_move_0 : decode cX11_move 0 = .ok (.aload_n 0, 1) := by decide +kernel
theorem dX11_move_1 : decode cX11_move 1 = .ok (.iload_n 1, 1) := by decide +kernel
theorem dX11_move_2 : decode cX11_move 2 = .ok (.invokevirtual 128, 3) := by decide +kernel
theorem dX11_move_5 : decode cX11_move 5 = .ok (.ifCond .eq 15, 3) := by decide +kernel
theorem dX11_move_8 : decode cX11_move 8 = .ok (.iload_n 1, 1) := by decide +kernel
theorem dX11_move_9 : decode cX11_move 9 = .ok (.ifCond .eq 11, 3) := by decide +kernel
theorem dX11_move_12 : decode cX11_move 12 = .ok (.aload_n 0, 1) := by decide +kernel
theorem dX11_move_13 : decode cX11_move 13 = .ok (.iload_n 2, 1) := by decide +kernel
theorem dX11_move_14 : decode cX11_move 14 = .ok (.invokevirtual 139, 3) := by decide +kernel
theorem dX11_move_17 : decode cX11_move 17 = .ok (.ifCond .ne 9, 3) := by decide +kernel
theorem dX11_move_20 : decode cX11_move 20 = .ok (.aload_n 0, 1) := by decide +kernel
theorem dX11_move_21 : decode cX11_move 21 = .ok (.iconst 1, 1) := by decide +kernel
theorem dX11_move_22 : decode cX11_move 22 = .ok (.invokevirtual 142, 3) := by decide +kernel
theorem dX11_move_25 : decode cX11_move 25 = .ok (.ireturn, 1) := by decide +kernel
theorem dX11_move_26 : decode cX11_move 26 = .ok (.iload_n 2, 1) := by decide +kernel
theorem dX11_move_27 : decode cX11_move 27 = .ok (.iload_n 1, 1) := by decide +kernel
theorem dX11_move_28 : decode cX11_move 28 = .ok (.if_icmp .eq 12, 3) := by decide +kernel
theorem dX11_move_31 : decode cX11_move 31 = .ok (.aload_n 0, 1) := by decide +kernel
theorem dX11_move_32 : decode cX11_move 32 = .ok (.iload_n 2, 1) := by decide +kernel
theorem dX11_move_33 : decode cX11_move 33 = .ok (.iload_n 1, 1) := by decide +kernel
theorem dX11_move_34 : decode cX11_move 34 = .ok (.invokevirtual 135, 3) := by decide +kernel
theorem dX11_move_37 : decode cX11_move 37 = .ok (.ifCond .eq 7, 3) := by decide +kernel
theorem dX11_move_40 : decode cX11_move 40 = .ok (.iconst 1, 1) := by decide +kernel
theorem dX11_move_41 : decode cX11_move 41 = .ok (.goto 4, 3) := by decide +kernel
theorem dX11_move_44 : decode cX11_move 44 = .ok (.iconst 0, 1) := by decide +kernel
theorem dX11_move_45 : decode cX11_move 45 = .ok (.istore 4, 2) := by decide +kernel
theorem dX11_move_47 : decode cX11_move 47 = .ok (.aload_n 0, 1) := by decide +kernel
theorem dX11_move_48 : decode cX11_move 48 = .ok (.iload_n 1, 1) := by decide +kernel
theorem dX11_move_49 : decode cX11_move 49 = .ok (.invokevirtual 160, 3) := by decide +kernel
theorem dX11_move_52 : decode cX11_move 52 = .ok (.ifCond .eq 25, 3) := by decide +kernel
theorem dX11_move_55 : decode cX11_move 55 = .ok (.aload_n 0, 1) := by decide +kernel
theorem dX11_move_56 : decode cX11_move 56 = .ok (.iload_n 2, 1) := by decide +kernel
theorem dX11_move_57 : decode cX11_move 57 = .ok (.invokevirtual 163, 3) := by decide +kernel
theorem dX11_move_60 : decode cX11_move 60 = .ok (.iconst (-1), 1) := by decide +kernel
theorem dX11_move_61 : decode cX11_move 61 = .ok (.if_icmp .ne 12, 3) := by decide +kernel
theorem dX11_move_64 : decode cX11_move 64 = .ok (.aload_n 0, 1) := by decide +kernel
theorem dX11_move_65 : decode cX11_move 65 = .ok (.iload_n 2, 1) := by decide +kernel
theorem dX11_move_66 : decode cX11_move 66 = .ok (.invokevirtual 150, 3) := by decide +kernel
theorem dX11_move_69 : decode cX11_move 69 = .ok (.iconst (-1), 1) := by decide +kernel
theorem dX11_move_70 : decode cX11_move 70 = .ok (.if_icmp .eq 7, 3) := by decide +kernel
theorem dX11_move_73 : decode cX11_move 73 = .ok (.iconst 1, 1) := by decide +kernel
theorem dX11_move_74 : decode cX11_move 74 = .ok (.goto 4, 3) := by decide +kernel
theorem dX11_move_77 : decode cX11_move 77 = .ok (.iconst 0, 1) := by decide +kernel
theorem dX11_move_78 : decode cX11_move 78 = .ok (.istore 5, 2) := by decide +kernel
theorem dX11_move_80 : decode cX11_move 80 = .ok (.aload_n 0, 1) := by decide +kernel
theorem dX11_move_81 : decode cX11_move 81 = .ok (.iload_n 3, 1) := by decide +kernel
theorem dX11_move_82 : decode cX11_move 82 = .ok (.bipush 97, 2) := by decide +kernel
theorem dX11_move_84 : decode cX11_move 84 = .ok (.bipush 122, 2) := by decide +kernel
theorem dX11_move_86 : decode cX11_move 86 = .ok (.invokestatic 124, 3) := by decide +kernel
theorem dX11_move_89 : decode cX11_move 89 = .ok (.ifCond .ne 7, 3) := by decide +kernel
theorem dX11_move_92 : decode cX11_move 92 = .ok (.iconst 2, 1) := by decide +kernel
theorem dX11_move_93 : decode cX11_move 93 = .ok (.goto 28, 3) := by decide +kernel
theorem dX11_move_96 : decode cX11_move 96 = .ok (.iload 4, 2) := by decide +kernel
theorem dX11_move_98 : decode cX11_move 98 = .ok (.ifCond .ne 18, 3) := by decide +kernel
theorem dX11_move_101 : decode cX11_move 101 = .ok (.aload_n 0, 1) := by decide +kernel
theorem dX11_move_102 : decode cX11_move 102 = .ok (.iload_n 2, 1) := by decide +kernel
theorem dX11_move_103 : decode cX11_move 103 = .ok (.iload_n 3, 1) := by decide +kernel
theorem dX11_move_104 : decode cX11_move 104 = .ok (.iload_n 1, 1) := by decide +kernel
theorem dX11_move_105 : decode cX11_move 105 = .ok (.invokevirtual 146, 3) := by decide +kernel
theorem dX11_move_108 : decode cX11_move 108 = .ok (.ifCond .ne 8, 3) := by decide +kernel
theorem dX11_move_111 : decode cX11_move 111 = .ok (.iload 5, 2) := by decide +kernel
theorem dX11_move_113 : decode cX11_move 113 = .ok (.ifCond .eq 7, 3) := by decide +kernel
theorem dX11_move_116 : decode cX11_move 116 = .ok (.iconst 3, 1) := by decide +kernel
theorem dX11_move_117 : decode cX11_move 117 = .ok (.goto 4, 3) := by decide +kernel
theorem dX11_move_120 : decode cX11_move 120 = .ok (.iconst 0, 1) := by decide +kernel
theorem dX11_move_121 : decode cX11_move 121 = .ok (.putfield 121, 3) := by decide +kernel
theorem dX11_move_124 : decode cX11_move 124 = .ok (.aload_n 0, 1) := by decide +kernel
theorem dX11_move_125 : decode cX11_move 125 = .ok (.getfield 121, 3) := by decide +kernel
theorem dX11_move_128 : decode cX11_move 128 = .ok (.ifCond .le 5, 3) := by decide +kernel
theorem dX11_move_131 : decode cX11_move 131 = .ok (.iconst 0, 1) := by decide +kernel
theorem dX11_move_132 : decode cX11_move 132 = .ok (.ireturn, 1) := by decide +kernel
theorem dX11_move_133 : decode cX11_move 133 = .ok (.aload_n 0, 1) := by decide +kernel
theorem dX11_move_134 : decode cX11_move 134 = .ok (.getfield 16, 3) := by decide +kernel
theorem dX11_move_137 : decode cX11_move 137 = .ok (.iload_n 1, 1) := by decide +kernel
theorem dX11_move_138 : decode cX11_move 138 = .ok (.iaload, 1) := by decide +kernel
theorem dX11_move_139 : decode cX11_move 139 = .ok (.istore 6, 2) := by decide +kernel
theorem dX11_move_141 : decode cX11_move 141 = .ok (.aload_n 0, 1) := by decide +kernel
theorem dX11_move_142 : decode cX11_move 142 = .ok (.iload_n 1, 1) := by decide +kernel
theorem dX11_move_143 : decode cX11_move 143 = .ok (.invokevirtual 150, 3) := by decide +kernel
theorem dX11_move_146 : decode cX11_move 146 = .ok (.istore 7, 2) := by decide +kernel
theorem dX11_move_148 : decode cX11_move 148 = .ok (.aload_n 0, 1) := by decide +kernel
theorem dX11_move_149 : decode cX11_move 149 = .ok (.getfield 16, 3) := by decide +kernel
theorem dX11_move_152 : decode cX11_move 152 = .ok (.iload_n 1, 1) := by decide +kernel
theorem dX11_move_153 : decode cX11_move 153 = .ok (.iload_n 2, 1) := by decide +kernel
theorem dX11_move_154 : decode cX11_move 154 = .ok (.iastore, 1) := by decide +kernel
theorem dX11_move_155 : decode cX11_move 155 = .ok (.aload_n 0, 1) := by decide +kernel
theorem dX11_move_156 : decode cX11_move 156 = .ok (.getfield 20, 3) := by decide +kernel
theorem dX11_move_159 : decode cX11_move 159 = .ok (.iload_n 1, 1) := by decide +kernel
theorem dX11_move_160 : decode cX11_move 160 = .ok (.iload_n 3, 1) := by decide +kernel
theorem dX11_move_161 : decode cX11_move 161 = .ok (.castore, 1) := by decide +kernel
theorem dX11_move_162 : decode cX11_move 162 = .ok (.aload_n 0, 1) := by decide +kernel
theorem dX11_move_163 : decode cX11_move 163 = .ok (.iload_n 1, 1) := by decide +kernel
theorem dX11_move_164 : decode cX11_move 164 = .ok (.invokevirtual 150, 3) := by decide +kernel
theorem dX11_move_167 : decode cX11_move 167 = .ok (.istore 8, 2) := by decide +kernel
theorem dX11_move_169 : decode cX11_move 169 = .ok (.iload 7, 2) := by decide +kernel
theorem dX11_move_171 : decode cX11_move 171 = .ok (.iload 8, 2) := by decide +kernel
theorem dX11_move_173 : decode cX11_move 173 = .ok (.if_icmp .eq 11, 3) := by decide +kernel
theorem dX11_move_176 : decode cX11_move 176 = .ok (.aload_n 0, 1) := by decide +kernel
theorem dX11_move_177 : decode cX11_move 177 = .ok (.iload 7, 2) := by decide +kernel
theorem dX11_move_179 : decode cX11_move 179 = .ok (.iconst 2, 1) := by decide +kernel
theorem dX11_move_180 : decode cX11_move 180 = .ok (.iload_n 1, 1) := by decide +kernel
theorem dX11_move_181 : decode cX11_move 181 = .ok (.invokevirtual 153, 3) := by decide +kernel
theorem dX11_move_184 : decode cX11_move 184 = .ok (.aload_n 0, 1) := by decide +kernel
theorem dX11_move_185 : decode cX11_move 185 = .ok (.iload 8, 2) := by decide +kernel
theorem dX11_move_187 : decode cX11_move 187 = .ok (.iconst 0, 1) := by decide +kernel
theorem dX11_move_188 : decode cX11_move 188 = .ok (.iload_n 1, 1) := by decide +kernel
theorem dX11_move_189 : decode cX11_move 189 = .ok (.invokevirtual 153, 3) := by decide +kernel
theorem dX11_move_192 : decode cX11_move 192 = .ok (.iload 6, 2) := by decide +kernel
theorem dX11_move_194 : decode cX11_move 194 = .ok (.ireturn, 1) := by decide +kernel
theorem dX11_remove_0 : decode cX11_remove 0 = .ok (.aload_n 0, 1) := by decide +kernel
theorem dX11_remove_1 : decode cX11_remove 1 = .ok (.aload_n 0, 1) := by decide +kernel
theorem dX11_remove_2 : decode cX11_remove 2 = .ok (.iload_n 1, 1) := by decide +kernel
theorem dX11_remove_3 : decode cX11_remove 3 = .ok (.invokevirtual 128, 3) := by decide +kernel
theorem dX11_remove_6 : decode cX11_remove 6 = .ok (.ifCond .eq 11, 3) := by decide +kernel
theorem dX11_remove_9 : decode cX11_remove 9 = .ok (.iload_n 1, 1) := by decide +kernel
theorem dX11_remove_10 : decode cX11_remove 10 = .ok (.ifCond .eq 7, 3) := by decide +kernel
theorem dX11_remove_13 : decode cX11_remove 13 = .ok (.iconst 0, 1) := by decide +kernel
theorem dX11_remove_14 : decode cX11_remove 14 = .ok (.goto 4, 3) := by decide +kernel
theorem dX11_remove_17 : decode cX11_remove 17 = .ok (.iconst 1, 1) := by decide +kernel
theorem dX11_remove_18 : decode cX11_remove 18 = .ok (.putfield 121, 3) := by decide +kernel
theorem dX11_remove_21 : decode cX11_remove 21 = .ok (.aload_n 0, 1) := by decide +kernel
theorem dX11_remove_22 : decode cX11_remove 22 = .ok (.getfield 121, 3) := by decide +kernel
theorem dX11_remove_25 : decode cX11_remove 25 = .ok (.ifCond .le 5, 3) := by decide +kernel
theorem dX11_remove_28 : decode cX11_remove 28 = .ok (.iconst 0, 1) := by decide +kernel
theorem dX11_remove_29 : decode cX11_remove 29 = .ok (.ireturn, 1) := by decide +kernel
theorem dX11_remove_30 : decode cX11_remove 30 = .ok (.aload_n 0, 1) := by decide +kernel
theorem dX11_remove_31 : decode cX11_remove 31 = .ok (.aload_n 0, 1) := by decide +kernel
theorem dX11_remove_32 : decode cX11_remove 32 = .ok (.iload_n 1, 1) := by decide +kernel
theorem dX11_remove_33 : decode cX11_remove 33 = .ok (.invokevirtual 150, 3) := by decide +kernel
theorem dX11_remove_36 : decode cX11_remove 36 = .ok (.iconst 2, 1) := by decide +kernel
theorem dX11_remove_37 : decode cX11_remove 37 = .ok (.iload_n 1, 1) := by decide +kernel
theorem dX11_remove_38 : decode cX11_remove 38 = .ok (.invokevirtual 153, 3) := by decide +kernel
theorem dX11_remove_41 : decode cX11_remove 41 = .ok (.iconst 0, 1) := by decide +kernel
theorem dX11_remove_42 : decode cX11_remove 42 = .ok (.istore_n 2, 1) := by decide +kernel
theorem dX11_remove_43 : decode cX11_remove 43 = .ok (.iconst 0, 1) := by decide +kernel
theorem dX11_remove_44 : decode cX11_remove 44 = .ok (.istore_n 3, 1) := by decide +kernel
theorem dX11_remove_45 : decode cX11_remove 45 = .ok (.iload_n 3, 1) := by decide +kernel
theorem dX11_remove_46 : decode cX11_remove 46 = .ok (.aload_n 0, 1) := by decide +kernel
theorem dX11_remove_47 : decode cX11_remove 47 = .ok (.getfield 118, 3) := by decide +kernel
theorem dX11_remove_50 : decode cX11_remove 50 = .ok (.if_icmp .ge 60, 3) := by decide +kernel
theorem dX11_remove_53 : decode cX11_remove 53 = .ok (.aload_n 0, 1) := by decide +kernel
theorem dX11_remove_54 : decode cX11_remove 54 = .ok (.getfield 112, 3) := by decide +kernel
theorem dX11_remove_57 : decode cX11_remove 57 = .ok (.iload_n 3, 1) := by decide +kernel
theorem dX11_remove_58 : decode cX11_remove 58 = .ok (.aload_n 0, 1) := by decide +kernel
theorem dX11_remove_59 : decode cX11_remove 59 = .ok (.getfield 7, 3) := by decide +kernel
theorem dX11_remove_62 : decode cX11_remove 62 = .ok (.iload_n 3, 1) := by decide +kernel
theorem dX11_remove_63 : decode cX11_remove 63 = .ok (.baload, 1) := by decide +kernel
theorem dX11_remove_64 : decode cX11_remove 64 = .ok (.ifCond .eq 21, 3) := by decide +kernel
theorem dX11_remove_67 : decode cX11_remove 67 = .ok (.iload_n 3, 1) := by decide +kernel
theorem dX11_remove_68 : decode cX11_remove 68 = .ok (.iload_n 1, 1) := by decide +kernel
theorem dX11_remove_69 : decode cX11_remove 69 = .ok (.if_icmp .eq 12, 3) := by decide +kernel
theorem dX11_remove_72 : decode cX11_remove 72 = .ok (.aload_n 0, 1) := by decide +kernel
theorem dX11_remove_73 : decode cX11_remove 73 = .ok (.iload_n 3, 1) := by decide +kernel
theorem dX11_remove_74 : decode cX11_remove 74 = .ok (.iload_n 1, 1) := by decide +kernel
theorem dX11_remove_75 : decode cX11_remove 75 = .ok (.invokevirtual 135, 3) := by decide +kernel
theorem dX11_remove_78 : decode cX11_remove 78 = .ok (.ifCond .eq 7, 3) := by decide +kernel
theorem dX11_remove_81 : decode cX11_remove 81 = .ok (.iconst 1, 1) := by decide +kernel
theorem dX11_remove_82 : decode cX11_remove 82 = .ok (.goto 4, 3) := by decide +kernel
theorem dX11_remove_85 : decode cX11_remove 85 = .ok (.iconst 0, 1) := by decide +kernel
theorem dX11_remove_86 : decode cX11_remove 86 = .ok (.bastore, 1) := by decide +kernel
theorem dX11_remove_87 : decode cX11_remove 87 = .ok (.iload_n 2, 1) := by decide +kernel
theorem dX11_remove_88 : decode cX11_remove 88 = .ok (.aload_n 0, 1) := by decide +kernel
theorem dX11_remove_89 : decode cX11_remove 89 = .ok (.getfield 112, 3) := by decide +kernel
theorem dX11_remove_92 : decode cX11_remove 92 = .ok (.iload_n 3, 1) := by decide +kernel
theorem dX11_remove_93 : decode cX11_remove 93 = .ok (.baload, 1) := by decide +kernel
theorem dX11_remove_94 : decode cX11_remove 94 = .ok (.ifCond .eq 7, 3) := by decide +kernel
theorem dX11_remove_97 : decode cX11_remove 97 = .ok (.iconst 1, 1) := by decide +kernel
theorem dX11_remove_98 : decode cX11_remove 98 = .ok (.goto 4, 3) := by decide +kernel
theorem dX11_remove_101 : decode cX11_remove 101 = .ok (.iconst 0, 1) := by decide +kernel
theorem dX11_remove_102 : decode cX11_remove 102 = .ok (.iadd, 1) := by decide +kernel
theorem dX11_remove_103 : decode cX11_remove 103 = .ok (.istore_n 2, 1) := by decide +kernel
theorem dX11_remove_104 : decode cX11_remove 104 = .ok (.iinc 3 1, 3) := by decide +kernel
theorem dX11_remove_107 : decode cX11_remove 107 = .ok (.goto (-62), 3) := by decide +kernel
theorem dX11_remove_110 : decode cX11_remove 110 = .ok (.iconst 0, 1) := by decide +kernel
theorem dX11_remove_111 : decode cX11_remove 111 = .ok (.istore_n 3, 1) := by decide +kernel
theorem dX11_remove_112 : decode cX11_remove 112 = .ok (.iload_n 3, 1) := by decide +kernel
theorem dX11_remove_113 : decode cX11_remove 113 = .ok (.aload_n 0, 1) := by decide +kernel
theorem dX11_remove_114 : decode cX11_remove 114 = .ok (.getfield 118, 3) := by decide +kernel
theorem dX11_remove_117 : decode cX11_remove 117 = .ok (.if_icmp .ge 38, 3) := by decide +kernel
theorem dX11_remove_120 : decode cX11_remove 120 = .ok (.aload_n 0, 1) := by decide +kernel
theorem dX11_remove_121 : decode cX11_remove 121 = .ok (.getfield 7, 3) := by decide +kernel
theorem dX11_remove_124 : decode cX11_remove 124 = .ok (.iload_n 3, 1) := by decide +kernel
theorem dX11_remove_125 : decode cX11_remove 125 = .ok (.aload_n 0, 1) := by decide +kernel
theorem dX11_remove_126 : decode cX11_remove 126 = .ok (.getfield 7, 3) := by decide +kernel
theorem dX11_remove_129 : decode cX11_remove 129 = .ok (.iload_n 3, 1) := by decide +kernel
theorem dX11_remove_130 : decode cX11_remove 130 = .ok (.baload, 1) := by decide +kernel
theorem dX11_remove_131 : decode cX11_remove 131 = .ok (.ifCond .eq 16, 3) := by decide +kernel
theorem dX11_remove_134 : decode cX11_remove 134 = .ok (.aload_n 0, 1) := by decide +kernel
theorem dX11_remove_135 : decode cX11_remove 135 = .ok (.getfield 112, 3) := by decide +kernel
theorem dX11_remove_138 : decode cX11_remove 138 = .ok (.iload_n 3, 1) := by decide +kernel
theorem dX11_remove_139 : decode cX11_remove 139 = .ok (.baload, 1) := by decide +kernel
theorem dX11_remove_140 : decode cX11_remove 140 = .ok (.ifCond .ne 7, 3) := by decide +kernel
theorem dX11_remove_143 : decode cX11_remove 143 = .ok (.iconst 1, 1) := by decide +kernel
theorem dX11_remove_144 : decode cX11_remove 144 = .ok (.goto 4, 3) := by decide +kernel
theorem dX11_remove_147 : decode cX11_remove 147 = .ok (.iconst 0, 1) := by decide +kernel
theorem dX11_remove_148 : decode cX11_remove 148 = .ok (.bastore, 1) := by decide +kernel
theorem dX11_remove_149 : decode cX11_remove 149 = .ok (.iinc 3 1, 3) := by decide +kernel
theorem dX11_remove_152 : decode cX11_remove 152 = .ok (.goto (-40), 3) := by decide +kernel
theorem dX11_remove_155 : decode cX11_remove 155 = .ok (.aload_n 0, 1) := by decide +kernel
theorem dX11_remove_156 : decode cX11_remove 156 = .ok (.getfield 132, 3) := by decide +kernel
theorem dX11_remove_159 : decode cX11_remove 159 = .ok (.istore_n 3, 1) := by decide +kernel
theorem dX11_remove_160 : decode cX11_remove 160 = .ok (.aload_n 0, 1) := by decide +kernel
theorem dX11_remove_161 : decode cX11_remove 161 = .ok (.getfield 132, 3) := by decide +kernel
theorem dX11_remove_164 : decode cX11_remove 164 = .ok (.iconst 1, 1) := by decide +kernel
theorem dX11_remove_165 : decode cX11_remove 165 = .ok (.isub, 1) := by decide +kernel
theorem dX11_remove_166 : decode cX11_remove 166 = .ok (.istore 4, 2) := by decide +kernel
theorem dX11_remove_168 : decode cX11_remove 168 = .ok (.iload 4, 2) := by decide +kernel
theorem dX11_remove_170 : decode cX11_remove 170 = .ok (.ifCond .lt 30, 3) := by decide +kernel
theorem dX11_remove_173 : decode cX11_remove 173 = .ok (.aload_n 0, 1) := by decide +kernel
theorem dX11_remove_174 : decode cX11_remove 174 = .ok (.getfield 7, 3) := by decide +kernel
theorem dX11_remove_177 : decode cX11_remove 177 = .ok (.aload_n 0, 1) := by decide +kernel
theorem dX11_remove_178 : decode cX11_remove 178 = .ok (.getfield 39, 3) := by decide +kernel
theorem dX11_remove_181 : decode cX11_remove 181 = .ok (.iload 4, 2) := by decide +kernel
theorem dX11_remove_183 : decode cX11_remove 183 = .ok (.iaload, 1) := by decide +kernel
theorem dX11_remove_184 : decode cX11_remove 184 = .ok (.baload, 1) := by decide +kernel
theorem dX11_remove_185 : decode cX11_remove 185 = .ok (.ifCond .ne 9, 3) := by decide +kernel
theorem dX11_remove_188 : decode cX11_remove 188 = .ok (.aload_n 0, 1) := by decide +kernel
theorem dX11_remove_189 : decode cX11_remove 189 = .ok (.iload 4, 2) := by decide +kernel
theorem dX11_remove_191 : decode cX11_remove 191 = .ok (.invokevirtual 166, 3) := by decide +kernel
theorem dX11_remove_194 : decode cX11_remove 194 = .ok (.iinc 4 (-1), 3) := by decide +kernel
theorem dX11_remove_197 : decode cX11_remove 197 = .ok (.goto (-29), 3) := by decide +kernel
theorem dX11_remove_200 : decode cX11_remove 200 = .ok (.aload_n 0, 1) := by decide +kernel
theorem dX11_remove_201 : decode cX11_remove 201 = .ok (.getfield 132, 3) := by decide +kernel
theorem dX11_remove_204 : decode cX11_remove 204 = .ok (.iload_n 3, 1) := by decide +kernel
theorem dX11_remove_205 : decode cX11_remove 205 = .ok (.if_icmp .ge 7, 3) := by decide +kernel
theorem dX11_remove_208 : decode cX11_remove 208 = .ok (.aload_n 0, 1) := by decide +kernel
theorem dX11_remove_209 : decode cX11_remove 209 = .ok (.invokevirtual 170, 3) := by decide +kernel
theorem dX11_remove_212 : decode cX11_remove 212 = .ok (.iload_n 2, 1) := by decide +kernel
theorem dX11_remove_213 : decode cX11_remove 213 = .ok (.ireturn, 1) := by decide +kernel
theorem dX11_lock_0 : decode cX11_lock 0 = .ok (.aload_n 0, 1) := by decide +kernel
theorem dX11_lock_1 : decode cX11_lock 1 = .ok (.aload_n 0, 1) := by decide +kernel
theorem dX11_lock_2 : decode cX11_lock 2 = .ok (.iload_n 1, 1) := by decide +kernel
theorem dX11_lock_3 : decode cX11_lock 3 = .ok (.invokevirtual 157, 3) := by decide +kernel
theorem dX11_lock_6 : decode cX11_lock 6 = .ok (.ifCond .eq 7, 3) := by decide +kernel
theorem dX11_lock_9 : decode cX11_lock 9 = .ok (.iconst 0, 1) := by decide +kernel
theorem dX11_lock_10 : decode cX11_lock 10 = .ok (.goto 4, 3) := by decide +kernel
theorem dX11_lock_13 : decode cX11_lock 13 = .ok (.iconst 1, 1) := by decide +kernel
theorem dX11_lock_14 : decode cX11_lock 14 = .ok (.putfield 121, 3) := by decide +kernel
theorem dX11_lock_17 : decode cX11_lock 17 = .ok (.aload_n 0, 1) := by decide +kernel
theorem dX11_lock_18 : decode cX11_lock 18 = .ok (.getfield 121, 3) := by decide +kernel
theorem dX11_lock_21 : decode cX11_lock 21 = .ok (.ifCond .le 5, 3) := by decide +kernel
theorem dX11_lock_24 : decode cX11_lock 24 = .ok (.iconst 0, 1) := by decide +kernel
theorem dX11_lock_25 : decode cX11_lock 25 = .ok (.ireturn, 1) := by decide +kernel
theorem dX11_lock_26 : decode cX11_lock 26 = .ok (.aload_n 0, 1) := by decide +kernel
theorem dX11_lock_27 : decode cX11_lock 27 = .ok (.getfield 33, 3) := by decide +kernel
theorem dX11_lock_30 : decode cX11_lock 30 = .ok (.iload_n 1, 1) := by decide +kernel
theorem dX11_lock_31 : decode cX11_lock 31 = .ok (.baload, 1) := by decide +kernel
theorem dX11_lock_32 : decode cX11_lock 32 = .ok (.istore_n 3, 1) := by decide +kernel
theorem dX11_lock_33 : decode cX11_lock 33 = .ok (.aload_n 0, 1) := by decide +kernel
theorem dX11_lock_34 : decode cX11_lock 34 = .ok (.getfield 33, 3) := by decide +kernel
theorem dX11_lock_37 : decode cX11_lock 37 = .ok (.iload_n 1, 1) := by decide +kernel
theorem dX11_lock_38 : decode cX11_lock 38 = .ok (.iload_n 2, 1) := by decide +kernel
theorem dX11_lock_39 : decode cX11_lock 39 = .ok (.bastore, 1) := by decide +kernel
theorem dX11_lock_40 : decode cX11_lock 40 = .ok (.iload_n 3, 1) := by decide +kernel
theorem dX11_lock_41 : decode cX11_lock 41 = .ok (.ireturn, 1) := by decide +kernel
theorem dX11_people_0 : decode cX11_people 0 = .ok (.aload_n 0, 1) := by decide +kernel
theorem dX11_people_1 : decode cX11_people 1 = .ok (.aload_n 0, 1) := by decide +kernel
theorem dX11_people_2 : decode cX11_people 2 = .ok (.iload_n 1, 1) := by decide +kernel
theorem dX11_people_3 : decode cX11_people 3 = .ok (.invokevirtual 128, 3) := by decide +kernel
theorem dX11_people_6 : decode cX11_people 6 = .ok (.ifCond .ne 7, 3) := by decide +kernel
theorem dX11_people_9 : decode cX11_people 9 = .ok (.iconst 1, 1) := by decide +kernel
theorem dX11_people_10 : decode cX11_people 10 = .ok (.goto 18, 3) := by decide +kernel
theorem dX11_people_13 : decode cX11_people 13 = .ok (.iload_n 2, 1) := by decide +kernel
theorem dX11_people_14 : decode cX11_people 14 = .ok (.iconst 0, 1) := by decide +kernel
theorem dX11_people_15 : decode cX11_people 15 = .ok (.bipush 15, 2) := by decide +kernel
theorem dX11_people_17 : decode cX11_people 17 = .ok (.invokestatic 124, 3) := by decide +kernel
theorem dX11_people_20 : decode cX11_people 20 = .ok (.ifCond .eq 7, 3) := by decide +kernel
theorem dX11_people_23 : decode cX11_people 23 = .ok (.iconst 0, 1) := by decide +kernel
theorem dX11_people_24 : decode cX11_people 24 = .ok (.goto 4, 3) := by decide +kernel
theorem dX11_people_27 : decode cX11_people 27 = .ok (.iconst 2, 1) := by decide +kernel
theorem dX11_people_28 : decode cX11_people 28 = .ok (.putfield 121, 3) := by decide +kernel
theorem dX11_people_31 : decode cX11_people 31 = .ok (.aload_n 0, 1) := by decide +kernel
theorem dX11_people_32 : decode cX11_people 32 = .ok (.getfield 121, 3) := by decide +kernel
theorem dX11_people_35 : decode cX11_people 35 = .ok (.ifCond .le 5, 3) := by decide +kernel
theorem dX11_people_38 : decode cX11_people 38 = .ok (.iconst 0, 1) := by decide +kernel
theorem dX11_people_39 : decode cX11_people 39 = .ok (.ireturn, 1) := by decide +kernel
theorem dX11_people_40 : decode cX11_people 40 = .ok (.aload_n 0, 1) := by decide +kernel
theorem dX11_people_41 : decode cX11_people 41 = .ok (.getfield 36, 3) := by decide +kernel
theorem dX11_people_44 : decode cX11_people 44 = .ok (.iload_n 1, 1) := by decide +kernel
theorem dX11_people_45 : decode cX11_people 45 = .ok (.iaload, 1) := by decide +kernel
theorem dX11_people_46 : decode cX11_people 46 = .ok (.istore_n 3, 1) := by decide +kernel
theorem dX11_people_47 : decode cX11_people 47 = .ok (.aload_n 0, 1) := by decide +kernel
theorem dX11_people_48 : decode cX11_people 48 = .ok (.getfield 36, 3) := by decide +kernel
theorem dX11_people_51 : decode cX11_people 51 = .ok (.iload_n 1, 1) := by decide +kernel
theorem dX11_people_52 : decode cX11_people 52 = .ok (.iload_n 2, 1) := by decide +kernel
theorem dX11_people_53 : decode cX11_people 53 = .ok (.iastore, 1) := by decide +kernel
theorem dX11_people_54 : decode cX11_people 54 = .ok (.iload_n 3, 1) := by decide +kernel
theorem dX11_people_55 : decode cX11_people 55 = .ok (.ireturn, 1) := by decide +kernel
theorem dX11_mayReadAt_0 : decode cX11_mayReadAt 0 = .ok (.iconst 1, 1) := by decide +kernel
theorem dX11_mayReadAt_1 : decode cX11_mayReadAt 1 = .ok (.istore_n 3, 1) := by decide +kernel
theorem dX11_mayReadAt_2 : decode cX11_mayReadAt 2 = .ok (.iload_n 2, 1) := by decide +kernel
theorem dX11_mayReadAt_3 : decode cX11_mayReadAt 3 = .ok (.istore 4, 2) := by decide +kernel
theorem dX11_mayReadAt_5 : decode cX11_mayReadAt 5 = .ok (.iload 4, 2) := by decide +kernel
theorem dX11_mayReadAt_7 : decode cX11_mayReadAt 7 = .ok (.iconst (-1), 1) := by decide +kernel
theorem dX11_mayReadAt_8 : decode cX11_mayReadAt 8 = .ok (.if_icmp .eq 40, 3) := by decide +kernel
theorem dX11_mayReadAt_11 : decode cX11_mayReadAt 11 = .ok (.iload_n 3, 1) := by decide +kernel
theorem dX11_mayReadAt_12 : decode cX11_mayReadAt 12 = .ok (.ifCond .eq 22, 3) := by decide +kernel
theorem dX11_mayReadAt_15 : decode cX11_mayReadAt 15 = .ok (.aload_n 0, 1) := by decide +kernel
theorem dX11_mayReadAt_16 : decode cX11_mayReadAt 16 = .ok (.getfield 36, 3) := by decide +kernel
theorem dX11_mayReadAt_19 : decode cX11_mayReadAt 19 = .ok (.iload 4, 2) := by decide +kernel
theorem dX11_mayReadAt_21 : decode cX11_mayReadAt 21 = .ok (.iaload, 1) := by decide +kernel
theorem dX11_mayReadAt_22 : decode cX11_mayReadAt 22 = .ok (.iload_n 1, 1) := by decide +kernel
theorem dX11_mayReadAt_23 : decode cX11_mayReadAt 23 = .ok (.ishr, 1) := by decide +kernel
theorem dX11_mayReadAt_24 : decode cX11_mayReadAt 24 = .ok (.iconst 1, 1) := by decide +kernel
theorem dX11_mayReadAt_25 : decode cX11_mayReadAt 25 = .ok (.iand, 1) := by decide +kernel
theorem dX11_mayReadAt_26 : decode cX11_mayReadAt 26 = .ok (.iconst 1, 1) := by decide +kernel
theorem dX11_mayReadAt_27 : decode cX11_mayReadAt 27 = .ok (.if_icmp .ne 7, 3) := by decide +kernel
theorem dX11_mayReadAt_30 : decode cX11_mayReadAt 30 = .ok (.iconst 1, 1) := by decide +kernel
theorem dX11_mayReadAt_31 : decode cX11_mayReadAt 31 = .ok (.goto 4, 3) := by decide +kernel
theorem dX11_mayReadAt_34 : decode cX11_mayReadAt 34 = .ok (.iconst 0, 1) := by decide +kernel
theorem dX11_mayReadAt_35 : decode cX11_mayReadAt 35 = .ok (.istore_n 3, 1) := by decide +kernel
theorem dX11_mayReadAt_36 : decode cX11_mayReadAt 36 = .ok (.aload_n 0, 1) := by decide +kernel
theorem dX11_mayReadAt_37 : decode cX11_mayReadAt 37 = .ok (.getfield 16, 3) := by decide +kernel
theorem dX11_mayReadAt_40 : decode cX11_mayReadAt 40 = .ok (.iload 4, 2) := by decide +kernel
theorem dX11_mayReadAt_42 : decode cX11_mayReadAt 42 = .ok (.iaload, 1) := by decide +kernel
theorem dX11_mayReadAt_43 : decode cX11_mayReadAt 43 = .ok (.istore 4, 2) := by decide +kernel
theorem dX11_mayReadAt_45 : decode cX11_mayReadAt 45 = .ok (.goto (-40), 3) := by decide +kernel
theorem dX11_mayReadAt_48 : decode cX11_mayReadAt 48 = .ok (.iload_n 3, 1) := by decide +kernel
theorem dX11_mayReadAt_49 : decode cX11_mayReadAt 49 = .ok (.ireturn, 1) := by decide +kernel
theorem dX11_mayRead_0 : decode cX11_mayRead 0 = .ok (.aload_n 0, 1) := by decide +kernel
theorem dX11_mayRead_1 : decode cX11_mayRead 1 = .ok (.iload_n 1, 1) := by decide +kernel
theorem dX11_mayRead_2 : decode cX11_mayRead 2 = .ok (.iconst 0, 1) := by decide +kernel
theorem dX11_mayRead_3 : decode cX11_mayRead 3 = .ok (.iconst 3, 1) := by decide +kernel
theorem dX11_mayRead_4 : decode cX11_mayRead 4 = .ok (.invokestatic 124, 3) := by decide +kernel
theorem dX11_mayRead_7 : decode cX11_mayRead 7 = .ok (.ifCond .eq 15, 3) := by decide +kernel
theorem dX11_mayRead_10 : decode cX11_mayRead 10 = .ok (.aload_n 0, 1) := by decide +kernel
theorem dX11_mayRead_11 : decode cX11_mayRead 11 = .ok (.iload_n 2, 1) := by decide +kernel
theorem dX11_mayRead_12 : decode cX11_mayRead 12 = .ok (.invokevirtual 128, 3) := by decide +kernel
theorem dX11_mayRead_15 : decode cX11_mayRead 15 = .ok (.ifCond .eq 7, 3) := by decide +kernel
theorem dX11_mayRead_18 : decode cX11_mayRead 18 = .ok (.iconst 0, 1) := by decide +kernel
theorem dX11_mayRead_19 : decode cX11_mayRead 19 = .ok (.goto 4, 3) := by decide +kernel
theorem dX11_mayRead_22 : decode cX11_mayRead 22 = .ok (.iconst 1, 1) := by decide +kernel
theorem dX11_mayRead_23 : decode cX11_mayRead 23 = .ok (.putfield 121, 3) := by decide +kernel
theorem dX11_mayRead_26 : decode cX11_mayRead 26 = .ok (.aload_n 0, 1) := by decide +kernel
theorem dX11_mayRead_27 : decode cX11_mayRead 27 = .ok (.getfield 121, 3) := by decide +kernel
theorem dX11_mayRead_30 : decode cX11_mayRead 30 = .ok (.ifCond .ne 16, 3) := by decide +kernel
theorem dX11_mayRead_33 : decode cX11_mayRead 33 = .ok (.aload_n 0, 1) := by decide +kernel
theorem dX11_mayRead_34 : decode cX11_mayRead 34 = .ok (.iload_n 1, 1) := by decide +kernel
theorem dX11_mayRead_35 : decode cX11_mayRead 35 = .ok (.iload_n 2, 1) := by decide +kernel
theorem dX11_mayRead_36 : decode cX11_mayRead 36 = .ok (.invokevirtual 173, 3) := by decide +kernel
theorem dX11_mayRead_39 : decode cX11_mayRead 39 = .ok (.ifCond .eq 7, 3) := by decide +kernel
theorem dX11_mayRead_42 : decode cX11_mayRead 42 = .ok (.iconst 1, 1) := by decide +kernel
theorem dX11_mayRead_43 : decode cX11_mayRead 43 = .ok (.goto 4, 3) := by decide +kernel
theorem dX11_mayRead_46 : decode cX11_mayRead 46 = .ok (.iconst 0, 1) := by decide +kernel
theorem dX11_mayRead_47 : decode cX11_mayRead 47 = .ok (.ireturn, 1) := by decide +kernel
theorem dX11_nodes_0 : decode cX11_nodes 0 = .ok (.aload_n 0, 1) := by decide +kernel
theorem dX11_nodes_1 : decode cX11_nodes 1 = .ok (.iconst 0, 1) := by decide +kernel
theorem dX11_nodes_2 : decode cX11_nodes 2 = .ok (.putfield 121, 3) := by decide +kernel
theorem dX11_nodes_5 : decode cX11_nodes 5 = .ok (.iconst 0, 1) := by decide +kernel
theorem dX11_nodes_6 : decode cX11_nodes 6 = .ok (.istore_n 1, 1) := by decide +kernel
theorem dX11_nodes_7 : decode cX11_nodes 7 = .ok (.iconst 0, 1) := by decide +kernel
theorem dX11_nodes_8 : decode cX11_nodes 8 = .ok (.istore_n 2, 1) := by decide +kernel
theorem dX11_nodes_9 : decode cX11_nodes 9 = .ok (.iload_n 2, 1) := by decide +kernel
theorem dX11_nodes_10 : decode cX11_nodes 10 = .ok (.aload_n 0, 1) := by decide +kernel
theorem dX11_nodes_11 : decode cX11_nodes 11 = .ok (.getfield 118, 3) := by decide +kernel
theorem dX11_nodes_14 : decode cX11_nodes 14 = .ok (.if_icmp .ge 26, 3) := by decide +kernel
theorem dX11_nodes_17 : decode cX11_nodes 17 = .ok (.iload_n 1, 1) := by decide +kernel
theorem dX11_nodes_18 : decode cX11_nodes 18 = .ok (.aload_n 0, 1) := by decide +kernel
theorem dX11_nodes_19 : decode cX11_nodes 19 = .ok (.getfield 7, 3) := by decide +kernel
theorem dX11_nodes_22 : decode cX11_nodes 22 = .ok (.iload_n 2, 1) := by decide +kernel
theorem dX11_nodes_23 : decode cX11_nodes 23 = .ok (.baload, 1) := by decide +kernel
theorem dX11_nodes_24 : decode cX11_nodes 24 = .ok (.ifCond .eq 7, 3) := by decide +kernel
theorem dX11_nodes_27 : decode cX11_nodes 27 = .ok (.iconst 1, 1) := by decide +kernel
theorem dX11_nodes_28 : decode cX11_nodes 28 = .ok (.goto 4, 3) := by decide +kernel
theorem dX11_nodes_31 : decode cX11_nodes 31 = .ok (.iconst 0, 1) := by decide +kernel
theorem dX11_nodes_32 : decode cX11_nodes 32 = .ok (.iadd, 1) := by decide +kernel
theorem dX11_nodes_33 : decode cX11_nodes 33 = .ok (.istore_n 1, 1) := by decide +kernel
theorem dX11_nodes_34 : decode cX11_nodes 34 = .ok (.iinc 2 1, 3) := by decide +kernel
theorem dX11_nodes_37 : decode cX11_nodes 37 = .ok (.goto (-28), 3) := by decide +kernel
theorem dX11_nodes_40 : decode cX11_nodes 40 = .ok (.iload_n 1, 1) := by decide +kernel
theorem dX11_nodes_41 : decode cX11_nodes 41 = .ok (.ireturn, 1) := by decide +kernel
theorem dX11_drops_0 : decode cX11_drops 0 = .ok (.aload_n 0, 1) := by decide +kernel
theorem dX11_drops_1 : decode cX11_drops 1 = .ok (.dup, 1) := by decide +kernel
theorem dX11_drops_2 : decode cX11_drops 2 = .ok (.getfield 132, 3) := by decide +kernel
theorem dX11_drops_5 : decode cX11_drops 5 = .ok (.iconst 1, 1) := by decide +kernel
theorem dX11_drops_6 : decode cX11_drops 6 = .ok (.isub, 1) := by decide +kernel
theorem dX11_drops_7 : decode cX11_drops 7 = .ok (.putfield 132, 3) := by decide +kernel
theorem dX11_drops_10 : decode cX11_drops 10 = .ok (.iload_n 1, 1) := by decide +kernel
theorem dX11_drops_11 : decode cX11_drops 11 = .ok (.istore_n 2, 1) := by decide +kernel
theorem dX11_drops_12 : decode cX11_drops 12 = .ok (.iload_n 2, 1) := by decide +kernel
theorem dX11_drops_13 : decode cX11_drops 13 = .ok (.aload_n 0, 1) := by decide +kernel
theorem dX11_drops_14 : decode cX11_drops 14 = .ok (.getfield 132, 3) := by decide +kernel
theorem dX11_drops_17 : decode cX11_drops 17 = .ok (.if_icmp .ge 217, 3) := by decide +kernel
theorem dX11_drops_20 : decode cX11_drops 20 = .ok (.aload_n 0, 1) := by decide +kernel
theorem dX11_drops_21 : decode cX11_drops 21 = .ok (.getfield 39, 3) := by decide +kernel
theorem dX11_drops_24 : decode cX11_drops 24 = .ok (.iload_n 2, 1) := by decide +kernel
theorem dX11_drops_25 : decode cX11_drops 25 = .ok (.aload_n 0, 1) := by decide +kernel
theorem dX11_drops_26 : decode cX11_drops 26 = .ok (.getfield 39, 3) := by decide +kernel
theorem dX11_drops_29 : decode cX11_drops 29 = .ok (.iload_n 2, 1) := by decide +kernel
theorem dX11_drops_30 : decode cX11_drops 30 = .ok (.iconst 1, 1) := by decide +kernel
theorem dX11_drops_31 : decode cX11_drops 31 = .ok (.iadd, 1) := by decide +kernel
theorem dX11_drops_32 : decode cX11_drops 32 = .ok (.iaload, 1) := by decide +kernel
theorem dX11_drops_33 : decode cX11_drops 33 = .ok (.iastore, 1) := by decide +kernel
theorem dX11_drops_34 : decode cX11_drops 34 = .ok (.aload_n 0, 1) := by decide +kernel
theorem dX11_drops_35 : decode cX11_drops 35 = .ok (.getfield 42, 3) := by decide +kernel
theorem dX11_drops_38 : decode cX11_drops 38 = .ok (.iload_n 2, 1) := by decide +kernel
theorem dX11_drops_39 : decode cX11_drops 39 = .ok (.aload_n 0, 1) := by decide +kernel
theorem dX11_drops_40 : decode cX11_drops 40 = .ok (.getfield 42, 3) := by decide +kernel
theorem dX11_drops_43 : decode cX11_drops 43 = .ok (.iload_n 2, 1) := by decide +kernel
theorem dX11_drops_44 : decode cX11_drops 44 = .ok (.iconst 1, 1) := by decide +kernel
theorem dX11_drops_45 : decode cX11_drops 45 = .ok (.iadd, 1) := by decide +kernel
theorem dX11_drops_46 : decode cX11_drops 46 = .ok (.iaload, 1) := by decide +kernel
theorem dX11_drops_47 : decode cX11_drops 47 = .ok (.iastore, 1) := by decide +kernel
theorem dX11_drops_48 : decode cX11_drops 48 = .ok (.aload_n 0, 1) := by decide +kernel
theorem dX11_drops_49 : decode cX11_drops 49 = .ok (.getfield 51, 3) := by decide +kernel
theorem dX11_drops_52 : decode cX11_drops 52 = .ok (.iload_n 2, 1) := by decide +kernel
theorem dX11_drops_53 : decode cX11_drops 53 = .ok (.aload_n 0, 1) := by decide +kernel
theorem dX11_drops_54 : decode cX11_drops 54 = .ok (.getfield 51, 3) := by decide +kernel
theorem dX11_drops_57 : decode cX11_drops 57 = .ok (.iload_n 2, 1) := by decide +kernel
theorem dX11_drops_58 : decode cX11_drops 58 = .ok (.iconst 1, 1) := by decide +kernel
theorem dX11_drops_59 : decode cX11_drops 59 = .ok (.iadd, 1) := by decide +kernel
theorem dX11_drops_60 : decode cX11_drops 60 = .ok (.baload, 1) := by decide +kernel
theorem dX11_drops_61 : decode cX11_drops 61 = .ok (.bastore, 1) := by decide +kernel
theorem dX11_drops_62 : decode cX11_drops 62 = .ok (.aload_n 0, 1) := by decide +kernel
theorem dX11_drops_63 : decode cX11_drops 63 = .ok (.getfield 54, 3) := by decide +kernel
theorem dX11_drops_66 : decode cX11_drops 66 = .ok (.iload_n 2, 1) := by decide +kernel
theorem dX11_drops_67 : decode cX11_drops 67 = .ok (.aload_n 0, 1) := by decide +kernel
theorem dX11_drops_68 : decode cX11_drops 68 = .ok (.getfield 54, 3) := by decide +kernel
theorem dX11_drops_71 : decode cX11_drops 71 = .ok (.iload_n 2, 1) := by decide +kernel
theorem dX11_drops_72 : decode cX11_drops 72 = .ok (.iconst 1, 1) := by decide +kernel
theorem dX11_drops_73 : decode cX11_drops 73 = .ok (.iadd, 1) := by decide +kernel
theorem dX11_drops_74 : decode cX11_drops 74 = .ok (.baload, 1) := by decide +kernel
theorem dX11_drops_75 : decode cX11_drops 75 = .ok (.bastore, 1) := by decide +kernel
theorem dX11_drops_76 : decode cX11_drops 76 = .ok (.aload_n 0, 1) := by decide +kernel
theorem dX11_drops_77 : decode cX11_drops 77 = .ok (.getfield 57, 3) := by decide +kernel
theorem dX11_drops_80 : decode cX11_drops 80 = .ok (.iload_n 2, 1) := by decide +kernel
theorem dX11_drops_81 : decode cX11_drops 81 = .ok (.aload_n 0, 1) := by decide +kernel
theorem dX11_drops_82 : decode cX11_drops 82 = .ok (.getfield 57, 3) := by decide +kernel
theorem dX11_drops_85 : decode cX11_drops 85 = .ok (.iload_n 2, 1) := by decide +kernel
theorem dX11_drops_86 : decode cX11_drops 86 = .ok (.iconst 1, 1) := by decide +kernel
theorem dX11_drops_87 : decode cX11_drops 87 = .ok (.iadd, 1) := by decide +kernel
theorem dX11_drops_88 : decode cX11_drops 88 = .ok (.iaload, 1) := by decide +kernel
theorem dX11_drops_89 : decode cX11_drops 89 = .ok (.iastore, 1) := by decide +kernel
theorem dX11_drops_90 : decode cX11_drops 90 = .ok (.iconst 0, 1) := by decide +kernel
theorem dX11_drops_91 : decode cX11_drops 91 = .ok (.istore_n 3, 1) := by decide +kernel
theorem dX11_drops_92 : decode cX11_drops 92 = .ok (.iload_n 3, 1) := by decide +kernel
theorem dX11_drops_93 : decode cX11_drops 93 = .ok (.bipush 8, 2) := by decide +kernel
theorem dX11_drops_95 : decode cX11_drops 95 = .ok (.if_icmp .ge 57, 3) := by decide +kernel
theorem dX11_drops_98 : decode cX11_drops 98 = .ok (.aload_n 0, 1) := by decide +kernel
theorem dX11_drops_99 : decode cX11_drops 99 = .ok (.getfield 45, 3) := by decide +kernel
theorem dX11_drops_102 : decode cX11_drops 102 = .ok (.bipush 8, 2) := by decide +kernel
theorem dX11_drops_104 : decode cX11_drops 104 = .ok (.iload_n 2, 1) := by decide +kernel
theorem dX11_drops_105 : decode cX11_drops 105 = .ok (.imul, 1) := by decide +kernel
theorem dX11_drops_106 : decode cX11_drops 106 = .ok (.iload_n 3, 1) := by decide +kernel
theorem dX11_drops_107 : decode cX11_drops 107 = .ok (.iadd, 1) := by decide +kernel
theorem dX11_drops_108 : decode cX11_drops 108 = .ok (.aload_n 0, 1) := by decide +kernel
theorem dX11_drops_109 : decode cX11_drops 109 = .ok (.getfield 45, 3) := by decide +kernel
theorem dX11_drops_112 : decode cX11_drops 112 = .ok (.bipush 8, 2) := by decide +kernel
theorem dX11_drops_114 : decode cX11_drops 114 = .ok (.iload_n 2, 1) := by decide +kernel
theorem dX11_drops_115 : decode cX11_drops 115 = .ok (.iconst 1, 1) := by decide +kernel
theorem dX11_drops_116 : decode cX11_drops 116 = .ok (.iadd, 1) := by decide +kernel
theorem dX11_drops_117 : decode cX11_drops 117 = .ok (.imul, 1) := by decide +kernel
theorem dX11_drops_118 : decode cX11_drops 118 = .ok (.iload_n 3, 1) := by decide +kernel
theorem dX11_drops_119 : decode cX11_drops 119 = .ok (.iadd, 1) := by decide +kernel
theorem dX11_drops_120 : decode cX11_drops 120 = .ok (.iaload, 1) := by decide +kernel
theorem dX11_drops_121 : decode cX11_drops 121 = .ok (.iastore, 1) := by decide +kernel
theorem dX11_drops_122 : decode cX11_drops 122 = .ok (.aload_n 0, 1) := by decide +kernel
theorem dX11_drops_123 : decode cX11_drops 123 = .ok (.getfield 48, 3) := by decide +kernel
theorem dX11_drops_126 : decode cX11_drops 126 = .ok (.bipush 8, 2) := by decide +kernel
theorem dX11_drops_128 : decode cX11_drops 128 = .ok (.iload_n 2, 1) := by decide +kernel
theorem dX11_drops_129 : decode cX11_drops 129 = .ok (.imul, 1) := by decide +kernel
theorem dX11_drops_130 : decode cX11_drops 130 = .ok (.iload_n 3, 1) := by decide +kernel
theorem dX11_drops_131 : decode cX11_drops 131 = .ok (.iadd, 1) := by decide +kernel
theorem dX11_drops_132 : decode cX11_drops 132 = .ok (.aload_n 0, 1) := by decide +kernel
theorem dX11_drops_133 : decode cX11_drops 133 = .ok (.getfield 48, 3) := by decide +kernel
theorem dX11_drops_136 : decode cX11_drops 136 = .ok (.bipush 8, 2) := by decide +kernel
theorem dX11_drops_138 : decode cX11_drops 138 = .ok (.iload_n 2, 1) := by decide +kernel
theorem dX11_drops_139 : decode cX11_drops 139 = .ok (.iconst 1, 1) := by decide +kernel
theorem dX11_drops_140 : decode cX11_drops 140 = .ok (.iadd, 1) := by decide +kernel
theorem dX11_drops_141 : decode cX11_drops 141 = .ok (.imul, 1) := by decide +kernel
theorem dX11_drops_142 : decode cX11_drops 142 = .ok (.iload_n 3, 1) := by decide +kernel
theorem dX11_drops_143 : decode cX11_drops 143 = .ok (.iadd, 1) := by decide +kernel
theorem dX11_drops_144 : decode cX11_drops 144 = .ok (.iaload, 1) := by decide +kernel
theorem dX11_drops_145 : decode cX11_drops 145 = .ok (.iastore, 1) := by decide +kernel
theorem dX11_drops_146 : decode cX11_drops 146 = .ok (.iinc 3 1, 3) := by decide +kernel
theorem dX11_drops_149 : decode cX11_drops 149 = .ok (.goto (-57), 3) := by decide +kernel
theorem dX11_drops_152 : decode cX11_drops 152 = .ok (.iconst 0, 1) := by decide +kernel
theorem dX11_drops_153 : decode cX11_drops 153 = .ok (.istore_n 3, 1) := by decide +kernel
theorem dX11_drops_154 : decode cX11_drops 154 = .ok (.iload_n 3, 1) := by decide +kernel
theorem dX11_drops_155 : decode cX11_drops 155 = .ok (.bipush 60, 2) := by decide +kernel
theorem dX11_drops_157 : decode cX11_drops 157 = .ok (.if_icmp .ge 33, 3) := by decide +kernel
theorem dX11_drops_160 : decode cX11_drops 160 = .ok (.aload_n 0, 1) := by decide +kernel
theorem dX11_drops_161 : decode cX11_drops 161 = .ok (.getfield 60, 3) := by decide +kernel
theorem dX11_drops_164 : decode cX11_drops 164 = .ok (.bipush 60, 2) := by decide +kernel
theorem dX11_drops_166 : decode cX11_drops 166 = .ok (.iload_n 2, 1) := by decide +kernel
theorem dX11_drops_167 : decode cX11_drops 167 = .ok (.imul, 1) := by decide +kernel
theorem dX11_drops_168 : decode cX11_drops 168 = .ok (.iload_n 3, 1) := by decide +kernel
theorem dX11_drops_169 : decode cX11_drops 169 = .ok (.iadd, 1) := by decide +kernel
theorem dX11_drops_170 : decode cX11_drops 170 = .ok (.aload_n 0, 1) := by decide +kernel
theorem dX11_drops_171 : decode cX11_drops 171 = .ok (.getfield 60, 3) := by decide +kernel
theorem dX11_drops_174 : decode cX11_drops 174 = .ok (.bipush 60, 2) := by decide +kernel
theorem dX11_drops_176 : decode cX11_drops 176 = .ok (.iload_n 2, 1) := by decide +kernel
theorem dX11_drops_177 : decode cX11_drops 177 = .ok (.iconst 1, 1) := by decide +kernel
theorem dX11_drops_178 : decode cX11_drops 178 = .ok (.iadd, 1) := by decide +kernel
theorem dX11_drops_179 : decode cX11_drops 179 = .ok (.imul, 1) := by decide +kernel
theorem dX11_drops_180 : decode cX11_drops 180 = .ok (.iload_n 3, 1) := by decide +kernel
theorem dX11_drops_181 : decode cX11_drops 181 = .ok (.iadd, 1) := by decide +kernel
theorem dX11_drops_182 : decode cX11_drops 182 = .ok (.iaload, 1) := by decide +kernel
theorem dX11_drops_183 : decode cX11_drops 183 = .ok (.iastore, 1) := by decide +kernel
theorem dX11_drops_184 : decode cX11_drops 184 = .ok (.iinc 3 1, 3) := by decide +kernel
theorem dX11_drops_187 : decode cX11_drops 187 = .ok (.goto (-33), 3) := by decide +kernel
theorem dX11_drops_190 : decode cX11_drops 190 = .ok (.iconst 0, 1) := by decide +kernel
theorem dX11_drops_191 : decode cX11_drops 191 = .ok (.istore_n 3, 1) := by decide +kernel
theorem dX11_drops_192 : decode cX11_drops 192 = .ok (.iload_n 3, 1) := by decide +kernel
theorem dX11_drops_193 : decode cX11_drops 193 = .ok (.bipush 60, 2) := by decide +kernel
theorem dX11_drops_195 : decode cX11_drops 195 = .ok (.if_icmp .ge 33, 3) := by decide +kernel
theorem dX11_drops_198 : decode cX11_drops 198 = .ok (.aload_n 0, 1) := by decide +kernel
theorem dX11_drops_199 : decode cX11_drops 199 = .ok (.getfield 63, 3) := by decide +kernel
theorem dX11_drops_202 : decode cX11_drops 202 = .ok (.bipush 60, 2) := by decide +kernel
theorem dX11_drops_204 : decode cX11_drops 204 = .ok (.iload_n 2, 1) := by decide +kernel
theorem dX11_drops_205 : decode cX11_drops 205 = .ok (.imul, 1) := by decide +kernel
theorem dX11_drops_206 : decode cX11_drops 206 = .ok (.iload_n 3, 1) := by decide +kernel
theorem dX11_drops_207 : decode cX11_drops 207 = .ok (.iadd, 1) := by decide +kernel
theorem dX11_drops_208 : decode cX11_drops 208 = .ok (.aload_n 0, 1) := by decide +kernel
theorem dX11_drops_209 : decode cX11_drops 209 = .ok (.getfield 63, 3) := by decide +kernel
theorem dX11_drops_212 : decode cX11_drops 212 = .ok (.bipush 60, 2) := by decide +kernel
theorem dX11_drops_214 : decode cX11_drops 214 = .ok (.iload_n 2, 1) := by decide +kernel
theorem dX11_drops_215 : decode cX11_drops 215 = .ok (.iconst 1, 1) := by decide +kernel
theorem dX11_drops_216 : decode cX11_drops 216 = .ok (.iadd, 1) := by decide +kernel
theorem dX11_drops_217 : decode cX11_drops 217 = .ok (.imul, 1) := by decide +kernel
theorem dX11_drops_218 : decode cX11_drops 218 = .ok (.iload_n 3, 1) := by decide +kernel
theorem dX11_drops_219 : decode cX11_drops 219 = .ok (.iadd, 1) := by decide +kernel
theorem dX11_drops_220 : decode cX11_drops 220 = .ok (.baload, 1) := by decide +kernel
theorem dX11_drops_221 : decode cX11_drops 221 = .ok (.bastore, 1) := by decide +kernel
theorem dX11_drops_222 : decode cX11_drops 222 = .ok (.iinc 3 1, 3) := by decide +kernel
theorem dX11_drops_225 : decode cX11_drops 225 = .ok (.goto (-33), 3) := by decide +kernel
theorem dX11_drops_228 : decode cX11_drops 228 = .ok (.iinc 2 1, 3) := by decide +kernel
theorem dX11_drops_231 : decode cX11_drops 231 = .ok (.goto (-219), 3) := by decide +kernel
theorem dX11_drops_234 : decode cX11_drops 234 = .ok (.return_, 1) := by decide +kernel
theorem dX11_looksAtLost_0 : decode cX11_looksAtLost 0 = .ok (.iconst 0, 1) := by decide +kernel
theorem dX11_looksAtLost_1 : decode cX11_looksAtLost 1 = .ok (.istore_n 1, 1) := by decide +kernel
theorem dX11_looksAtLost_2 : decode cX11_looksAtLost 2 = .ok (.iload_n 1, 1) := by decide +kernel
theorem dX11_looksAtLost_3 : decode cX11_looksAtLost 3 = .ok (.aload_n 0, 1) := by decide +kernel
theorem dX11_looksAtLost_4 : decode cX11_looksAtLost 4 = .ok (.getfield 118, 3) := by decide +kernel
theorem dX11_looksAtLost_7 : decode cX11_looksAtLost 7 = .ok (.if_icmp .ge 24, 3) := by decide +kernel
theorem dX11_looksAtLost_10 : decode cX11_looksAtLost 10 = .ok (.aload_n 0, 1) := by decide +kernel
theorem dX11_looksAtLost_11 : decode cX11_looksAtLost 11 = .ok (.getfield 66, 3) := by decide +kernel
theorem dX11_looksAtLost_14 : decode cX11_looksAtLost 14 = .ok (.iload_n 1, 1) := by decide +kernel
theorem dX11_looksAtLost_15 : decode cX11_looksAtLost 15 = .ok (.baload, 1) := by decide +kernel
theorem dX11_looksAtLost_16 : decode cX11_looksAtLost 16 = .ok (.ifCond .eq 9, 3) := by decide +kernel
theorem dX11_looksAtLost_19 : decode cX11_looksAtLost 19 = .ok (.aload_n 0, 1) := by decide +kernel
theorem dX11_looksAtLost_20 : decode cX11_looksAtLost 20 = .ok (.iload_n 1, 1) := by decide +kernel
theorem dX11_looksAtLost_21 : decode cX11_looksAtLost 21 = .ok (.iconst 1, 1) := by decide +kernel
theorem dX11_looksAtLost_22 : decode cX11_looksAtLost 22 = .ok (.invokevirtual 176, 3) := by decide +kernel
theorem dX11_looksAtLost_25 : decode cX11_looksAtLost 25 = .ok (.iinc 1 1, 3) := by decide +kernel
theorem dX11_looksAtLost_28 : decode cX11_looksAtLost 28 = .ok (.goto (-26), 3) := by decide +kernel
theorem dX11_looksAtLost_31 : decode cX11_looksAtLost 31 = .ok (.return_, 1) := by decide +kernel
theorem dX11_beginsCrawl_0 : decode cX11_beginsCrawl 0 = .ok (.aload_n 0, 1) := by decide +kernel
theorem dX11_beginsCrawl_1 : decode cX11_beginsCrawl 1 = .ok (.getfield 54, 3) := by decide +kernel
theorem dX11_beginsCrawl_4 : decode cX11_beginsCrawl 4 = .ok (.iload_n 1, 1) := by decide +kernel
theorem dX11_beginsCrawl_5 : decode cX11_beginsCrawl 5 = .ok (.iconst 1, 1) := by decide +kernel
theorem dX11_beginsCrawl_6 : decode cX11_beginsCrawl 6 = .ok (.bastore, 1) := by decide +kernel
theorem dX11_beginsCrawl_7 : decode cX11_beginsCrawl 7 = .ok (.aload_n 0, 1) := by decide +kernel
theorem dX11_beginsCrawl_8 : decode cX11_beginsCrawl 8 = .ok (.getfield 57, 3) := by decide +kernel
theorem dX11_beginsCrawl_11 : decode cX11_beginsCrawl 11 = .ok (.iload_n 1, 1) := by decide +kernel
theorem dX11_beginsCrawl_12 : decode cX11_beginsCrawl 12 = .ok (.iconst 1, 1) := by decide +kernel
theorem dX11_beginsCrawl_13 : decode cX11_beginsCrawl 13 = .ok (.iastore, 1) := by decide +kernel
theorem dX11_beginsCrawl_14 : decode cX11_beginsCrawl 14 = .ok (.aload_n 0, 1) := by decide +kernel
theorem dX11_beginsCrawl_15 : decode cX11_beginsCrawl 15 = .ok (.getfield 60, 3) := by decide +kernel
theorem dX11_beginsCrawl_18 : decode cX11_beginsCrawl 18 = .ok (.bipush 60, 2) := by decide +kernel
theorem dX11_beginsCrawl_20 : decode cX11_beginsCrawl 20 = .ok (.iload_n 1, 1) := by decide +kernel
theorem dX11_beginsCrawl_21 : decode cX11_beginsCrawl 21 = .ok (.imul, 1) := by decide +kernel
theorem dX11_beginsCrawl_22 : decode cX11_beginsCrawl 22 = .ok (.aload_n 0, 1) := by decide +kernel
theorem dX11_beginsCrawl_23 : decode cX11_beginsCrawl 23 = .ok (.getfield 39, 3) := by decide +kernel
theorem dX11_beginsCrawl_26 : decode cX11_beginsCrawl 26 = .ok (.iload_n 1, 1) := by decide +kernel
theorem dX11_beginsCrawl_27 : decode cX11_beginsCrawl 27 = .ok (.iaload, 1) := by decide +kernel
theorem dX11_beginsCrawl_28 : decode cX11_beginsCrawl 28 = .ok (.iastore, 1) := by decide +kernel
theorem dX11_beginsCrawl_29 : decode cX11_beginsCrawl 29 = .ok (.iconst 0, 1) := by decide +kernel
theorem dX11_beginsCrawl_30 : decode cX11_beginsCrawl 30 = .ok (.istore_n 2, 1) := by decide +kernel
theorem dX11_beginsCrawl_31 : decode cX11_beginsCrawl 31 = .ok (.iload_n 2, 1) := by decide +kernel
theorem dX11_beginsCrawl_32 : decode cX11_beginsCrawl 32 = .ok (.bipush 60, 2) := by decide +kernel
theorem dX11_beginsCrawl_34 : decode cX11_beginsCrawl 34 = .ok (.if_icmp .ge 21, 3) := by decide +kernel
theorem dX11_beginsCrawl_37 : decode cX11_beginsCrawl 37 = .ok (.aload_n 0, 1) := by decide +kernel
theorem dX11_beginsCrawl_38 : decode cX11_beginsCrawl 38 = .ok (.getfield 63, 3) := by decide +kernel
theorem dX11_beginsCrawl_41 : decode cX11_beginsCrawl 41 = .ok (.bipush 60, 2) := by decide +kernel
theorem dX11_beginsCrawl_43 : decode cX11_beginsCrawl 43 = .ok (.iload_n 1, 1) := by decide +kernel
theorem dX11_beginsCrawl_44 : decode cX11_beginsCrawl 44 = .ok (.imul, 1) := by decide +kernel
theorem dX11_beginsCrawl_45 : decode cX11_beginsCrawl 45 = .ok (.iload_n 2, 1) := by decide +kernel
theorem dX11_beginsCrawl_46 : decode cX11_beginsCrawl 46 = .ok (.iadd, 1) := by decide +kernel
theorem dX11_beginsCrawl_47 : decode cX11_beginsCrawl 47 = .ok (.iconst 0, 1) := by decide +kernel
theorem dX11_beginsCrawl_48 : decode cX11_beginsCrawl 48 = .ok (.bastore, 1) := by decide +kernel
theorem dX11_beginsCrawl_49 : decode cX11_beginsCrawl 49 = .ok (.iinc 2 1, 3) := by decide +kernel
theorem dX11_beginsCrawl_52 : decode cX11_beginsCrawl 52 = .ok (.goto (-21), 3) := by decide +kernel
theorem dX11_beginsCrawl_55 : decode cX11_beginsCrawl 55 = .ok (.return_, 1) := by decide +kernel
theorem dX11_watch_0 : decode cX11_watch 0 = .ok (.aload_n 0, 1) := by decide +kernel
theorem dX11_watch_1 : decode cX11_watch 1 = .ok (.iload_n 1, 1) := by decide +kernel
theorem dX11_watch_2 : decode cX11_watch 2 = .ok (.invokevirtual 139, 3) := by decide +kernel
theorem dX11_watch_5 : decode cX11_watch 5 = .ok (.ifCond .ne 9, 3) := by decide +kernel
theorem dX11_watch_8 : decode cX11_watch 8 = .ok (.aload_n 0, 1) := by decide +kernel
theorem dX11_watch_9 : decode cX11_watch 9 = .ok (.iconst 1, 1) := by decide +kernel
theorem dX11_watch_10 : decode cX11_watch 10 = .ok (.invokevirtual 142, 3) := by decide +kernel
theorem dX11_watch_13 : decode cX11_watch 13 = .ok (.ireturn, 1) := by decide +kernel
theorem dX11_watch_14 : decode cX11_watch 14 = .ok (.aload_n 0, 1) := by decide +kernel
theorem dX11_watch_15 : decode cX11_watch 15 = .ok (.iload_n 1, 1) := by decide +kernel
theorem dX11_watch_16 : decode cX11_watch 16 = .ok (.invokevirtual 163, 3) := by decide +kernel
theorem dX11_watch_19 : decode cX11_watch 19 = .ok (.istore_n 2, 1) := by decide +kernel
theorem dX11_watch_20 : decode cX11_watch 20 = .ok (.aload_n 0, 1) := by decide +kernel
theorem dX11_watch_21 : decode cX11_watch 21 = .ok (.iload_n 2, 1) := by decide +kernel
theorem dX11_watch_22 : decode cX11_watch 22 = .ok (.iconst (-1), 1) := by decide +kernel
theorem dX11_watch_23 : decode cX11_watch 23 = .ok (.if_icmp .ne 32, 3) := by decide +kernel
theorem dX11_watch_26 : decode cX11_watch 26 = .ok (.aload_n 0, 1) := by decide +kernel
theorem dX11_watch_27 : decode cX11_watch 27 = .ok (.getfield 132, 3) := by decide +kernel
theorem dX11_watch_30 : decode cX11_watch 30 = .ok (.iconst 3, 1) := by decide +kernel
theorem dX11_watch_31 : decode cX11_watch 31 = .ok (.if_icmp .eq 20, 3) := by decide +kernel
theorem dX11_watch_34 : decode cX11_watch 34 = .ok (.aload_n 0, 1) := by decide +kernel
theorem dX11_watch_35 : decode cX11_watch 35 = .ok (.iload_n 1, 1) := by decide +kernel
theorem dX11_watch_36 : decode cX11_watch 36 = .ok (.invokevirtual 160, 3) := by decide +kernel
theorem dX11_watch_39 : decode cX11_watch 39 = .ok (.ifCond .ne 12, 3) := by decide +kernel
theorem dX11_watch_42 : decode cX11_watch 42 = .ok (.aload_n 0, 1) := by decide +kernel
theorem dX11_watch_43 : decode cX11_watch 43 = .ok (.iload_n 1, 1) := by decide +kernel
theorem dX11_watch_44 : decode cX11_watch 44 = .ok (.invokevirtual 150, 3) := by decide +kernel
theorem dX11_watch_47 : decode cX11_watch 47 = .ok (.iconst (-1), 1) := by decide +kernel
theorem dX11_watch_48 : decode cX11_watch 48 = .ok (.if_icmp .eq 7, 3) := by decide +kernel
theorem dX11_watch_51 : decode cX11_watch 51 = .ok (.iconst 2, 1) := by decide +kernel
theorem dX11_watch_52 : decode cX11_watch 52 = .ok (.goto 4, 3) := by decide +kernel
theorem dX11_watch_55 : decode cX11_watch 55 = .ok (.iconst 0, 1) := by decide +kernel
theorem dX11_watch_56 : decode cX11_watch 56 = .ok (.putfield 121, 3) := by decide +kernel
theorem dX11_watch_59 : decode cX11_watch 59 = .ok (.aload_n 0, 1) := by decide +kernel
theorem dX11_watch_60 : decode cX11_watch 60 = .ok (.getfield 121, 3) := by decide +kernel
theorem dX11_watch_63 : decode cX11_watch 63 = .ok (.ifCond .le 5, 3) := by decide +kernel
theorem dX11_watch_66 : decode cX11_watch 66 = .ok (.iconst 0, 1) := by decide +kernel
theorem dX11_watch_67 : decode cX11_watch 67 = .ok (.ireturn, 1) := by decide +kernel
theorem dX11_watch_68 : decode cX11_watch 68 = .ok (.iload_n 2, 1) := by decide +kernel
theorem dX11_watch_69 : decode cX11_watch 69 = .ok (.iconst (-1), 1) := by decide +kernel
theorem dX11_watch_70 : decode cX11_watch 70 = .ok (.if_icmp .ne 56, 3) := by decide +kernel
theorem dX11_watch_73 : decode cX11_watch 73 = .ok (.aload_n 0, 1) := by decide +kernel
theorem dX11_watch_74 : decode cX11_watch 74 = .ok (.getfield 39, 3) := by decide +kernel
theorem dX11_watch_77 : decode cX11_watch 77 = .ok (.aload_n 0, 1) := by decide +kernel
theorem dX11_watch_78 : decode cX11_watch 78 = .ok (.getfield 132, 3) := by decide +kernel
theorem dX11_watch_81 : decode cX11_watch 81 = .ok (.iload_n 1, 1) := by decide +kernel
theorem dX11_watch_82 : decode cX11_watch 82 = .ok (.iastore, 1) := by decide +kernel
theorem dX11_watch_83 : decode cX11_watch 83 = .ok (.aload_n 0, 1) := by decide +kernel
theorem dX11_watch_84 : decode cX11_watch 84 = .ok (.getfield 42, 3) := by decide +kernel
theorem dX11_watch_87 : decode cX11_watch 87 = .ok (.aload_n 0, 1) := by decide +kernel
theorem dX11_watch_88 : decode cX11_watch 88 = .ok (.getfield 132, 3) := by decide +kernel
theorem dX11_watch_91 : decode cX11_watch 91 = .ok (.iconst 0, 1) := by decide +kernel
theorem dX11_watch_92 : decode cX11_watch 92 = .ok (.iastore, 1) := by decide +kernel
theorem dX11_watch_93 : decode cX11_watch 93 = .ok (.aload_n 0, 1) := by decide +kernel
theorem dX11_watch_94 : decode cX11_watch 94 = .ok (.getfield 51, 3) := by decide +kernel
theorem dX11_watch_97 : decode cX11_watch 97 = .ok (.aload_n 0, 1) := by decide +kernel
theorem dX11_watch_98 : decode cX11_watch 98 = .ok (.getfield 132, 3) := by decide +kernel
theorem dX11_watch_101 : decode cX11_watch 101 = .ok (.iconst 0, 1) := by decide +kernel
theorem dX11_watch_102 : decode cX11_watch 102 = .ok (.bastore, 1) := by decide +kernel
theorem dX11_watch_103 : decode cX11_watch 103 = .ok (.aload_n 0, 1) := by decide +kernel
theorem dX11_watch_104 : decode cX11_watch 104 = .ok (.dup, 1) := by decide +kernel
theorem dX11_watch_105 : decode cX11_watch 105 = .ok (.getfield 132, 3) := by decide +kernel
theorem dX11_watch_108 : decode cX11_watch 108 = .ok (.iconst 1, 1) := by decide +kernel
theorem dX11_watch_109 : decode cX11_watch 109 = .ok (.iadd, 1) := by decide +kernel
theorem dX11_watch_110 : decode cX11_watch 110 = .ok (.putfield 132, 3) := by decide +kernel
theorem dX11_watch_113 : decode cX11_watch 113 = .ok (.aload_n 0, 1) := by decide +kernel
theorem dX11_watch_114 : decode cX11_watch 114 = .ok (.aload_n 0, 1) := by decide +kernel
theorem dX11_watch_115 : decode cX11_watch 115 = .ok (.getfield 132, 3) := by decide +kernel
theorem dX11_watch_118 : decode cX11_watch 118 = .ok (.iconst 1, 1) := by decide +kernel
theorem dX11_watch_119 : decode cX11_watch 119 = .ok (.isub, 1) := by decide +kernel
theorem dX11_watch_120 : decode cX11_watch 120 = .ok (.invokevirtual 180, 3) := by decide +kernel
theorem dX11_watch_123 : decode cX11_watch 123 = .ok (.goto 12, 3) := by decide +kernel
theorem dX11_watch_126 : decode cX11_watch 126 = .ok (.aload_n 0, 1) := by decide +kernel
theorem dX11_watch_127 : decode cX11_watch 127 = .ok (.iload_n 2, 1) := by decide +kernel
theorem dX11_watch_128 : decode cX11_watch 128 = .ok (.invokevirtual 166, 3) := by decide +kernel
theorem dX11_watch_131 : decode cX11_watch 131 = .ok (.aload_n 0, 1) := by decide +kernel
theorem dX11_watch_132 : decode cX11_watch 132 = .ok (.invokevirtual 170, 3) := by decide +kernel
theorem dX11_watch_135 : decode cX11_watch 135 = .ok (.aload_n 0, 1) := by decide +kernel
theorem dX11_watch_136 : decode cX11_watch 136 = .ok (.getfield 132, 3) := by decide +kernel
theorem dX11_watch_139 : decode cX11_watch 139 = .ok (.ireturn, 1) := by decide +kernel
theorem dX11_notices_0 : decode cX11_notices 0 = .ok (.iload_n 1, 1) := by decide +kernel
theorem dX11_notices_1 : decode cX11_notices 1 = .ok (.iconst 0, 1) := by decide +kernel
theorem dX11_notices_2 : decode cX11_notices 2 = .ok (.aload_n 0, 1) := by decide +kernel
theorem dX11_notices_3 : decode cX11_notices 3 = .ok (.getfield 118, 3) := by decide +kernel
theorem dX11_notices_6 : decode cX11_notices 6 = .ok (.iconst 1, 1) := by decide +kernel
theorem dX11_notices_7 : decode cX11_notices 7 = .ok (.isub, 1) := by decide +kernel
theorem dX11_notices_8 : decode cX11_notices 8 = .ok (.invokestatic 124, 3) := by decide +kernel
theorem dX11_notices_11 : decode cX11_notices 11 = .ok (.ifCond .eq 11, 3) := by decide +kernel
theorem dX11_notices_14 : decode cX11_notices 14 = .ok (.aload_n 0, 1) := by decide +kernel
theorem dX11_notices_15 : decode cX11_notices 15 = .ok (.iload_n 1, 1) := by decide +kernel
theorem dX11_notices_16 : decode cX11_notices 16 = .ok (.invokevirtual 163, 3) := by decide +kernel
theorem dX11_notices_19 : decode cX11_notices 19 = .ok (.goto 4, 3) := by decide +kernel
theorem dX11_notices_22 : decode cX11_notices 22 = .ok (.iconst (-1), 1) := by decide +kernel
theorem dX11_notices_23 : decode cX11_notices 23 = .ok (.istore_n 2, 1) := by decide +kernel
theorem dX11_notices_24 : decode cX11_notices 24 = .ok (.aload_n 0, 1) := by decide +kernel
theorem dX11_notices_25 : decode cX11_notices 25 = .ok (.iload_n 2, 1) := by decide +kernel
theorem dX11_notices_26 : decode cX11_notices 26 = .ok (.iconst (-1), 1) := by decide +kernel
theorem dX11_notices_27 : decode cX11_notices 27 = .ok (.if_icmp .ne 7, 3) := by decide +kernel
theorem dX11_notices_30 : decode cX11_notices 30 = .ok (.iconst 1, 1) := by decide +kernel
theorem dX11_notices_31 : decode cX11_notices 31 = .ok (.goto 4, 3) := by decide +kernel
theorem dX11_notices_34 : decode cX11_notices 34 = .ok (.iconst 0, 1) := by decide +kernel
theorem dX11_notices_35 : decode cX11_notices 35 = .ok (.putfield 121, 3) := by decide +kernel
theorem dX11_notices_38 : decode cX11_notices 38 = .ok (.aload_n 0, 1) := by decide +kernel
theorem dX11_notices_39 : decode cX11_notices 39 = .ok (.getfield 121, 3) := by decide +kernel
theorem dX11_notices_42 : decode cX11_notices 42 = .ok (.ifCond .le 7, 3) := by decide +kernel
theorem dX11_notices_45 : decode cX11_notices 45 = .ok (.iconst 0, 1) := by decide +kernel
theorem dX11_notices_46 : decode cX11_notices 46 = .ok (.goto 22, 3) := by decide +kernel
theorem dX11_notices_49 : decode cX11_notices 49 = .ok (.aload_n 0, 1) := by decide +kernel
theorem dX11_notices_50 : decode cX11_notices 50 = .ok (.getfield 51, 3) := by decide +kernel
theorem dX11_notices_53 : decode cX11_notices 53 = .ok (.iload_n 2, 1) := by decide +kernel
theorem dX11_notices_54 : decode cX11_notices 54 = .ok (.baload, 1) := by decide +kernel
theorem dX11_notices_55 : decode cX11_notices 55 = .ok (.ifCond .eq 7, 3) := by decide +kernel
theorem dX11_notices_58 : decode cX11_notices 58 = .ok (.iconst (-1), 1) := by decide +kernel
theorem dX11_notices_59 : decode cX11_notices 59 = .ok (.goto 9, 3) := by decide +kernel
theorem dX11_notices_62 : decode cX11_notices 62 = .ok (.aload_n 0, 1) := by decide +kernel
theorem dX11_notices_63 : decode cX11_notices 63 = .ok (.getfield 42, 3) := by decide +kernel
theorem dX11_notices_66 : decode cX11_notices 66 = .ok (.iload_n 2, 1) := by decide +kernel
theorem dX11_notices_67 : decode cX11_notices 67 = .ok (.iaload, 1) := by decide +kernel
theorem dX11_notices_68 : decode cX11_notices 68 = .ok (.ireturn, 1) := by decide +kernel
theorem dX11_twice_0 : decode cX11_twice 0 = .ok (.aload_n 0, 1) := by decide +kernel
theorem dX11_twice_1 : decode cX11_twice 1 = .ok (.iload_n 1, 1) := by decide +kernel
theorem dX11_twice_2 : decode cX11_twice 2 = .ok (.invokevirtual 163, 3) := by decide +kernel
theorem dX11_twice_5 : decode cX11_twice 5 = .ok (.istore_n 2, 1) := by decide +kernel
theorem dX11_twice_6 : decode cX11_twice 6 = .ok (.aload_n 0, 1) := by decide +kernel
theorem dX11_twice_7 : decode cX11_twice 7 = .ok (.iload_n 2, 1) := by decide +kernel
theorem dX11_twice_8 : decode cX11_twice 8 = .ok (.iconst (-1), 1) := by decide +kernel
theorem dX11_twice_9 : decode cX11_twice 9 = .ok (.if_icmp .ne 7, 3) := by decide +kernel
theorem dX11_twice_12 : decode cX11_twice 12 = .ok (.iconst 1, 1) := by decide +kernel
theorem dX11_twice_13 : decode cX11_twice 13 = .ok (.goto 17, 3) := by decide +kernel
theorem dX11_twice_16 : decode cX11_twice 16 = .ok (.aload_n 0, 1) := by decide +kernel
theorem dX11_twice_17 : decode cX11_twice 17 = .ok (.getfield 42, 3) := by decide +kernel
theorem dX11_twice_20 : decode cX11_twice 20 = .ok (.iload_n 2, 1) := by decide +kernel
theorem dX11_twice_21 : decode cX11_twice 21 = .ok (.iaload, 1) := by decide +kernel
theorem dX11_twice_22 : decode cX11_twice 22 = .ok (.ifCond .ne 7, 3) := by decide +kernel
theorem dX11_twice_25 : decode cX11_twice 25 = .ok (.iconst 2, 1) := by decide +kernel
theorem dX11_twice_26 : decode cX11_twice 26 = .ok (.goto 4, 3) := by decide +kernel
theorem dX11_twice_29 : decode cX11_twice 29 = .ok (.iconst 0, 1) := by decide +kernel
theorem dX11_twice_30 : decode cX11_twice 30 = .ok (.putfield 121, 3) := by decide +kernel
theorem dX11_twice_33 : decode cX11_twice 33 = .ok (.aload_n 0, 1) := by decide +kernel
theorem dX11_twice_34 : decode cX11_twice 34 = .ok (.getfield 121, 3) := by decide +kernel
theorem dX11_twice_37 : decode cX11_twice 37 = .ok (.ifCond .le 5, 3) := by decide +kernel
theorem dX11_twice_40 : decode cX11_twice 40 = .ok (.iconst 0, 1) := by decide +kernel
theorem dX11_twice_41 : decode cX11_twice 41 = .ok (.ireturn, 1) := by decide +kernel
theorem dX11_twice_42 : decode cX11_twice 42 = .ok (.aload_n 0, 1) := by decide +kernel
theorem dX11_twice_43 : decode cX11_twice 43 = .ok (.iload_n 2, 1) := by decide +kernel
theorem dX11_twice_44 : decode cX11_twice 44 = .ok (.aload_n 0, 1) := by decide +kernel
theorem dX11_twice_45 : decode cX11_twice 45 = .ok (.getfield 45, 3) := by decide +kernel
theorem dX11_twice_48 : decode cX11_twice 48 = .ok (.bipush 8, 2) := by decide +kernel
theorem dX11_twice_50 : decode cX11_twice 50 = .ok (.iload_n 2, 1) := by decide +kernel
theorem dX11_twice_51 : decode cX11_twice 51 = .ok (.imul, 1) := by decide +kernel
theorem dX11_twice_52 : decode cX11_twice 52 = .ok (.aload_n 0, 1) := by decide +kernel
theorem dX11_twice_53 : decode cX11_twice 53 = .ok (.getfield 42, 3) := by decide +kernel
theorem dX11_twice_56 : decode cX11_twice 56 = .ok (.iload_n 2, 1) := by decide +kernel
theorem dX11_twice_57 : decode cX11_twice 57 = .ok (.iaload, 1) := by decide +kernel
theorem dX11_twice_58 : decode cX11_twice 58 = .ok (.iadd, 1) := by decide +kernel
theorem dX11_twice_59 : decode cX11_twice 59 = .ok (.iconst 1, 1) := by decide +kernel
theorem dX11_twice_60 : decode cX11_twice 60 = .ok (.isub, 1) := by decide +kernel
theorem dX11_twice_61 : decode cX11_twice 61 = .ok (.iaload, 1) := by decide +kernel
theorem dX11_twice_62 : decode cX11_twice 62 = .ok (.aload_n 0, 1) := by decide +kernel
theorem dX11_twice_63 : decode cX11_twice 63 = .ok (.getfield 48, 3) := by decide +kernel
theorem dX11_twice_66 : decode cX11_twice 66 = .ok (.bipush 8, 2) := by decide +kernel
theorem dX11_twice_68 : decode cX11_twice 68 = .ok (.iload_n 2, 1) := by decide +kernel
theorem dX11_twice_69 : decode cX11_twice 69 = .ok (.imul, 1) := by decide +kernel
theorem dX11_twice_70 : decode cX11_twice 70 = .ok (.aload_n 0, 1) := by decide +kernel
theorem dX11_twice_71 : decode cX11_twice 71 = .ok (.getfield 42, 3) := by decide +kernel
theorem dX11_twice_74 : decode cX11_twice 74 = .ok (.iload_n 2, 1) := by decide +kernel
theorem dX11_twice_75 : decode cX11_twice 75 = .ok (.iaload, 1) := by decide +kernel
theorem dX11_twice_76 : decode cX11_twice 76 = .ok (.iadd, 1) := by decide +kernel
theorem dX11_twice_77 : decode cX11_twice 77 = .ok (.iconst 1, 1) := by decide +kernel
theorem dX11_twice_78 : decode cX11_twice 78 = .ok (.isub, 1) := by decide +kernel
theorem dX11_twice_79 : decode cX11_twice 79 = .ok (.iaload, 1) := by decide +kernel
theorem dX11_twice_80 : decode cX11_twice 80 = .ok (.invokevirtual 153, 3) := by decide +kernel
theorem dX11_twice_83 : decode cX11_twice 83 = .ok (.aload_n 0, 1) := by decide +kernel
theorem dX11_twice_84 : decode cX11_twice 84 = .ok (.getfield 51, 3) := by decide +kernel
theorem dX11_twice_87 : decode cX11_twice 87 = .ok (.iload_n 2, 1) := by decide +kernel
theorem dX11_twice_88 : decode cX11_twice 88 = .ok (.baload, 1) := by decide +kernel
theorem dX11_twice_89 : decode cX11_twice 89 = .ok (.ifCond .eq 7, 3) := by decide +kernel
theorem dX11_twice_92 : decode cX11_twice 92 = .ok (.iconst (-1), 1) := by decide +kernel
theorem dX11_twice_93 : decode cX11_twice 93 = .ok (.goto 9, 3) := by decide +kernel
theorem dX11_twice_96 : decode cX11_twice 96 = .ok (.aload_n 0, 1) := by decide +kernel
theorem dX11_twice_97 : decode cX11_twice 97 = .ok (.getfield 42, 3) := by decide +kernel
theorem dX11_twice_100 : decode cX11_twice 100 = .ok (.iload_n 2, 1) := by decide +kernel
theorem dX11_twice_101 : decode cX11_twice 101 = .ok (.iaload, 1) := by decide +kernel
theorem dX11_twice_102 : decode cX11_twice 102 = .ok (.ireturn, 1) := by decide +kernel
theorem dX11_lose_0 : decode cX11_lose 0 = .ok (.aload_n 0, 1) := by decide +kernel
theorem dX11_lose_1 : decode cX11_lose 1 = .ok (.iload_n 1, 1) := by decide +kernel
theorem dX11_lose_2 : decode cX11_lose 2 = .ok (.invokevirtual 163, 3) := by decide +kernel
theorem dX11_lose_5 : decode cX11_lose 5 = .ok (.istore_n 3, 1) := by decide +kernel
theorem dX11_lose_6 : decode cX11_lose 6 = .ok (.aload_n 0, 1) := by decide +kernel
theorem dX11_lose_7 : decode cX11_lose 7 = .ok (.iload_n 3, 1) := by decide +kernel
theorem dX11_lose_8 : decode cX11_lose 8 = .ok (.iconst (-1), 1) := by decide +kernel
theorem dX11_lose_9 : decode cX11_lose 9 = .ok (.if_icmp .ne 7, 3) := by decide +kernel
theorem dX11_lose_12 : decode cX11_lose 12 = .ok (.iconst 1, 1) := by decide +kernel
theorem dX11_lose_13 : decode cX11_lose 13 = .ok (.goto 18, 3) := by decide +kernel
theorem dX11_lose_16 : decode cX11_lose 16 = .ok (.iload_n 2, 1) := by decide +kernel
theorem dX11_lose_17 : decode cX11_lose 17 = .ok (.iconst 1, 1) := by decide +kernel
theorem dX11_lose_18 : decode cX11_lose 18 = .ok (.bipush 8, 2) := by decide +kernel
theorem dX11_lose_20 : decode cX11_lose 20 = .ok (.invokestatic 124, 3) := by decide +kernel
theorem dX11_lose_23 : decode cX11_lose 23 = .ok (.ifCond .eq 7, 3) := by decide +kernel
theorem dX11_lose_26 : decode cX11_lose 26 = .ok (.iconst 0, 1) := by decide +kernel
theorem dX11_lose_27 : decode cX11_lose 27 = .ok (.goto 4, 3) := by decide +kernel
theorem dX11_lose_30 : decode cX11_lose 30 = .ok (.iconst 2, 1) := by decide +kernel
theorem dX11_lose_31 : decode cX11_lose 31 = .ok (.putfield 121, 3) := by decide +kernel
theorem dX11_lose_34 : decode cX11_lose 34 = .ok (.aload_n 0, 1) := by decide +kernel
theorem dX11_lose_35 : decode cX11_lose 35 = .ok (.getfield 121, 3) := by decide +kernel
theorem dX11_lose_38 : decode cX11_lose 38 = .ok (.ifCond .le 5, 3) := by decide +kernel
theorem dX11_lose_41 : decode cX11_lose 41 = .ok (.iconst 0, 1) := by decide +kernel
theorem dX11_lose_42 : decode cX11_lose 42 = .ok (.ireturn, 1) := by decide +kernel
theorem dX11_lose_43 : decode cX11_lose 43 = .ok (.aload_n 0, 1) := by decide +kernel
theorem dX11_lose_44 : decode cX11_lose 44 = .ok (.getfield 42, 3) := by decide +kernel
theorem dX11_lose_47 : decode cX11_lose 47 = .ok (.iload_n 3, 1) := by decide +kernel
theorem dX11_lose_48 : decode cX11_lose 48 = .ok (.dup2, 1) := by decide +kernel
theorem dX11_lose_49 : decode cX11_lose 49 = .ok (.iaload, 1) := by decide +kernel
theorem dX11_lose_50 : decode cX11_lose 50 = .ok (.iload_n 2, 1) := by decide +kernel
theorem dX11_lose_51 : decode cX11_lose 51 = .ok (.aload_n 0, 1) := by decide +kernel
theorem dX11_lose_52 : decode cX11_lose 52 = .ok (.getfield 42, 3) := by decide +kernel
theorem dX11_lose_55 : decode cX11_lose 55 = .ok (.iload_n 3, 1) := by decide +kernel
theorem dX11_lose_56 : decode cX11_lose 56 = .ok (.iaload, 1) := by decide +kernel
theorem dX11_lose_57 : decode cX11_lose 57 = .ok (.if_icmp .ge 7, 3) := by decide +kernel
theorem dX11_lose_60 : decode cX11_lose 60 = .ok (.iload_n 2, 1) := by decide +kernel
theorem dX11_lose_61 : decode cX11_lose 61 = .ok (.goto 9, 3) := by decide +kernel
theorem dX11_lose_64 : decode cX11_lose 64 = .ok (.aload_n 0, 1) := by decide +kernel
theorem dX11_lose_65 : decode cX11_lose 65 = .ok (.getfield 42, 3) := by decide +kernel
theorem dX11_lose_68 : decode cX11_lose 68 = .ok (.iload_n 3, 1) := by decide +kernel
theorem dX11_lose_69 : decode cX11_lose 69 = .ok (.iaload, 1) := by decide +kernel
theorem dX11_lose_70 : decode cX11_lose 70 = .ok (.isub, 1) := by decide +kernel
theorem dX11_lose_71 : decode cX11_lose 71 = .ok (.iastore, 1) := by decide +kernel
theorem dX11_lose_72 : decode cX11_lose 72 = .ok (.aload_n 0, 1) := by decide +kernel
theorem dX11_lose_73 : decode cX11_lose 73 = .ok (.getfield 42, 3) := by decide +kernel
theorem dX11_lose_76 : decode cX11_lose 76 = .ok (.iload_n 3, 1) := by decide +kernel
theorem dX11_lose_77 : decode cX11_lose 77 = .ok (.iaload, 1) := by decide +kernel
theorem dX11_lose_78 : decode cX11_lose 78 = .ok (.ireturn, 1) := by decide +kernel
theorem dX11_liesBelow_0 : decode cX11_liesBelow 0 = .ok (.aload_n 0, 1) := by decide +kernel
theorem dX11_liesBelow_1 : decode cX11_liesBelow 1 = .ok (.getfield 66, 3) := by decide +kernel
theorem dX11_liesBelow_4 : decode cX11_liesBelow 4 = .ok (.iload_n 1, 1) := by decide +kernel
theorem dX11_liesBelow_5 : decode cX11_liesBelow 5 = .ok (.baload, 1) := by decide +kernel
theorem dX11_liesBelow_6 : decode cX11_liesBelow 6 = .ok (.ifCond .eq 12, 3) := by decide +kernel
theorem dX11_liesBelow_9 : decode cX11_liesBelow 9 = .ok (.aload_n 0, 1) := by decide +kernel
theorem dX11_liesBelow_10 : decode cX11_liesBelow 10 = .ok (.getfield 69, 3) := by decide +kernel
theorem dX11_liesBelow_13 : decode cX11_liesBelow 13 = .ok (.iload_n 1, 1) := by decide +kernel
theorem dX11_liesBelow_14 : decode cX11_liesBelow 14 = .ok (.iaload, 1) := by decide +kernel
theorem dX11_liesBelow_15 : decode cX11_liesBelow 15 = .ok (.goto 4, 3) := by decide +kernel
theorem dX11_liesBelow_18 : decode cX11_liesBelow 18 = .ok (.iconst (-1), 1) := by decide +kernel
theorem dX11_liesBelow_19 : decode cX11_liesBelow 19 = .ok (.istore_n 3, 1) := by decide +kernel
theorem dX11_liesBelow_20 : decode cX11_liesBelow 20 = .ok (.iconst 0, 1) := by decide +kernel
theorem dX11_liesBelow_21 : decode cX11_liesBelow 21 = .ok (.istore 4, 2) := by decide +kernel
theorem dX11_liesBelow_23 : decode cX11_liesBelow 23 = .ok (.iload 4, 2) := by decide +kernel
theorem dX11_liesBelow_25 : decode cX11_liesBelow 25 = .ok (.bipush 60, 2) := by decide +kernel
theorem dX11_liesBelow_27 : decode cX11_liesBelow 27 = .ok (.if_icmp .ge 50, 3) := by decide +kernel
theorem dX11_liesBelow_30 : decode cX11_liesBelow 30 = .ok (.iload_n 3, 1) := by decide +kernel
theorem dX11_liesBelow_31 : decode cX11_liesBelow 31 = .ok (.iconst (-1), 1) := by decide +kernel
theorem dX11_liesBelow_32 : decode cX11_liesBelow 32 = .ok (.if_icmp .eq 45, 3) := by decide +kernel
theorem dX11_liesBelow_35 : decode cX11_liesBelow 35 = .ok (.iload_n 3, 1) := by decide +kernel
theorem dX11_liesBelow_36 : decode cX11_liesBelow 36 = .ok (.iload_n 2, 1) := by decide +kernel
theorem dX11_liesBelow_37 : decode cX11_liesBelow 37 = .ok (.if_icmp .ne 5, 3) := by decide +kernel
theorem dX11_liesBelow_40 : decode cX11_liesBelow 40 = .ok (.iconst 1, 1) := by decide +kernel
theorem dX11_liesBelow_41 : decode cX11_liesBelow 41 = .ok (.ireturn, 1) := by decide +kernel
theorem dX11_liesBelow_42 : decode cX11_liesBelow 42 = .ok (.aload_n 0, 1) := by decide +kernel
theorem dX11_liesBelow_43 : decode cX11_liesBelow 43 = .ok (.iload_n 3, 1) := by decide +kernel
theorem dX11_liesBelow_44 : decode cX11_liesBelow 44 = .ok (.invokevirtual 163, 3) := by decide +kernel
theorem dX11_liesBelow_47 : decode cX11_liesBelow 47 = .ok (.iconst (-1), 1) := by decide +kernel
theorem dX11_liesBelow_48 : decode cX11_liesBelow 48 = .ok (.if_icmp .ne 21, 3) := by decide +kernel
theorem dX11_liesBelow_51 : decode cX11_liesBelow 51 = .ok (.aload_n 0, 1) := by decide +kernel
theorem dX11_liesBelow_52 : decode cX11_liesBelow 52 = .ok (.getfield 66, 3) := by decide +kernel
theorem dX11_liesBelow_55 : decode cX11_liesBelow 55 = .ok (.iload_n 3, 1) := by decide +kernel
theorem dX11_liesBelow_56 : decode cX11_liesBelow 56 = .ok (.baload, 1) := by decide +kernel
theorem dX11_liesBelow_57 : decode cX11_liesBelow 57 = .ok (.ifCond .eq 12, 3) := by decide +kernel
theorem dX11_liesBelow_60 : decode cX11_liesBelow 60 = .ok (.aload_n 0, 1) := by decide +kernel
theorem dX11_liesBelow_61 : decode cX11_liesBelow 61 = .ok (.getfield 69, 3) := by decide +kernel
theorem dX11_liesBelow_64 : decode cX11_liesBelow 64 = .ok (.iload_n 3, 1) := by decide +kernel
theorem dX11_liesBelow_65 : decode cX11_liesBelow 65 = .ok (.iaload, 1) := by decide +kernel
theorem dX11_liesBelow_66 : decode cX11_liesBelow 66 = .ok (.goto 4, 3) := by decide +kernel
theorem dX11_liesBelow_69 : decode cX11_liesBelow 69 = .ok (.iconst (-1), 1) := by decide +kernel
theorem dX11_liesBelow_70 : decode cX11_liesBelow 70 = .ok (.istore_n 3, 1) := by decide +kernel
theorem dX11_liesBelow_71 : decode cX11_liesBelow 71 = .ok (.iinc 4 1, 3) := by decide +kernel
theorem dX11_liesBelow_74 : decode cX11_liesBelow 74 = .ok (.goto (-51), 3) := by decide +kernel
theorem dX11_liesBelow_77 : decode cX11_liesBelow 77 = .ok (.iconst 0, 1) := by decide +kernel
theorem dX11_liesBelow_78 : decode cX11_liesBelow 78 = .ok (.ireturn, 1) := by decide +kernel
theorem dX11_adds_0 : decode cX11_adds 0 = .ok (.iconst (-1), 1) := by decide +kernel
theorem dX11_adds_1 : decode cX11_adds 1 = .ok (.istore_n 3, 1) := by decide +kernel
theorem dX11_adds_2 : decode cX11_adds 2 = .ok (.iconst 0, 1) := by decide +kernel
theorem dX11_adds_3 : decode cX11_adds 3 = .ok (.istore 4, 2) := by decide +kernel
theorem dX11_adds_5 : decode cX11_adds 5 = .ok (.iload 4, 2) := by decide +kernel
theorem dX11_adds_7 : decode cX11_adds 7 = .ok (.aload_n 0, 1) := by decide +kernel
theorem dX11_adds_8 : decode cX11_adds 8 = .ok (.getfield 183, 3) := by decide +kernel
theorem dX11_adds_11 : decode cX11_adds 11 = .ok (.if_icmp .ge 27, 3) := by decide +kernel
theorem dX11_adds_14 : decode cX11_adds 14 = .ok (.aload_n 0, 1) := by decide +kernel
theorem dX11_adds_15 : decode cX11_adds 15 = .ok (.getfield 91, 3) := by decide +kernel
theorem dX11_adds_18 : decode cX11_adds 18 = .ok (.iload 4, 2) := by decide +kernel
theorem dX11_adds_20 : decode cX11_adds 20 = .ok (.iaload, 1) := by decide +kernel
theorem dX11_adds_21 : decode cX11_adds 21 = .ok (.iload_n 1, 1) := by decide +kernel
theorem dX11_adds_22 : decode cX11_adds 22 = .ok (.if_icmp .ne 8, 3) := by decide +kernel
theorem dX11_adds_25 : decode cX11_adds 25 = .ok (.iload 4, 2) := by decide +kernel
theorem dX11_adds_27 : decode cX11_adds 27 = .ok (.goto 4, 3) := by decide +kernel
theorem dX11_adds_30 : decode cX11_adds 30 = .ok (.iload_n 3, 1) := by decide +kernel
theorem dX11_adds_31 : decode cX11_adds 31 = .ok (.istore_n 3, 1) := by decide +kernel
theorem dX11_adds_32 : decode cX11_adds 32 = .ok (.iinc 4 1, 3) := by decide +kernel
theorem dX11_adds_35 : decode cX11_adds 35 = .ok (.goto (-30), 3) := by decide +kernel
theorem dX11_adds_38 : decode cX11_adds 38 = .ok (.iload_n 3, 1) := by decide +kernel
theorem dX11_adds_39 : decode cX11_adds 39 = .ok (.iconst (-1), 1) := by decide +kernel
theorem dX11_adds_40 : decode cX11_adds 40 = .ok (.if_icmp .ne 32, 3) := by decide +kernel
theorem dX11_adds_43 : decode cX11_adds 43 = .ok (.aload_n 0, 1) := by decide +kernel
theorem dX11_adds_44 : decode cX11_adds 44 = .ok (.getfield 183, 3) := by decide +kernel
theorem dX11_adds_47 : decode cX11_adds 47 = .ok (.istore_n 3, 1) := by decide +kernel
theorem dX11_adds_48 : decode cX11_adds 48 = .ok (.aload_n 0, 1) := by decide +kernel
theorem dX11_adds_49 : decode cX11_adds 49 = .ok (.getfield 91, 3) := by decide +kernel
theorem dX11_adds_52 : decode cX11_adds 52 = .ok (.iload_n 3, 1) := by decide +kernel
theorem dX11_adds_53 : decode cX11_adds 53 = .ok (.iload_n 1, 1) := by decide +kernel
theorem dX11_adds_54 : decode cX11_adds 54 = .ok (.iastore, 1) := by decide +kernel
theorem dX11_adds_55 : decode cX11_adds 55 = .ok (.aload_n 0, 1) := by decide +kernel
theorem dX11_adds_56 : decode cX11_adds 56 = .ok (.getfield 97, 3) := by decide +kernel
theorem dX11_adds_59 : decode cX11_adds 59 = .ok (.iload_n 3, 1) := by decide +kernel
theorem dX11_adds_60 : decode cX11_adds 60 = .ok (.iconst 0, 1) := by decide +kernel
theorem dX11_adds_61 : decode cX11_adds 61 = .ok (.bastore, 1) := by decide +kernel
theorem dX11_adds_62 : decode cX11_adds 62 = .ok (.aload_n 0, 1) := by decide +kernel
theorem dX11_adds_63 : decode cX11_adds 63 = .ok (.dup, 1) := by decide +kernel
theorem dX11_adds_64 : decode cX11_adds 64 = .ok (.getfield 183, 3) := by decide +kernel
theorem dX11_adds_67 : decode cX11_adds 67 = .ok (.iconst 1, 1) := by decide +kernel
theorem dX11_adds_68 : decode cX11_adds 68 = .ok (.iadd, 1) := by decide +kernel
theorem dX11_adds_69 : decode cX11_adds 69 = .ok (.putfield 183, 3) := by decide +kernel
theorem dX11_adds_72 : decode cX11_adds 72 = .ok (.aload_n 0, 1) := by decide +kernel
theorem dX11_adds_73 : decode cX11_adds 73 = .ok (.getfield 94, 3) := by decide +kernel
theorem dX11_adds_76 : decode cX11_adds 76 = .ok (.iload_n 3, 1) := by decide +kernel
theorem dX11_adds_77 : decode cX11_adds 77 = .ok (.iload_n 2, 1) := by decide +kernel
theorem dX11_adds_78 : decode cX11_adds 78 = .ok (.iastore, 1) := by decide +kernel
theorem dX11_adds_79 : decode cX11_adds 79 = .ok (.return_, 1) := by decide +kernel
theorem dX11_firstAct_0 : decode cX11_firstAct 0 = .ok (.iconst (-1), 1) := by decide +kernel
theorem dX11_firstAct_1 : decode cX11_firstAct 1 = .ok (.istore_n 1, 1) := by decide +kernel
theorem dX11_firstAct_2 : decode cX11_firstAct 2 = .ok (.aload_n 0, 1) := by decide +kernel
theorem dX11_firstAct_3 : decode cX11_firstAct 3 = .ok (.getfield 183, 3) := by decide +kernel
theorem dX11_firstAct_6 : decode cX11_firstAct 6 = .ok (.iconst 1, 1) := by decide +kernel
theorem dX11_firstAct_7 : decode cX11_firstAct 7 = .ok (.isub, 1) := by decide +kernel
theorem dX11_firstAct_8 : decode cX11_firstAct 8 = .ok (.istore_n 2, 1) := by decide +kernel
theorem dX11_firstAct_9 : decode cX11_firstAct 9 = .ok (.iload_n 2, 1) := by decide +kernel
theorem dX11_firstAct_10 : decode cX11_firstAct 10 = .ok (.ifCond .lt 24, 3) := by decide +kernel
theorem dX11_firstAct_13 : decode cX11_firstAct 13 = .ok (.aload_n 0, 1) := by decide +kernel
theorem dX11_firstAct_14 : decode cX11_firstAct 14 = .ok (.getfield 97, 3) := by decide +kernel
theorem dX11_firstAct_17 : decode cX11_firstAct 17 = .ok (.iload_n 2, 1) := by decide +kernel
theorem dX11_firstAct_18 : decode cX11_firstAct 18 = .ok (.baload, 1) := by decide +kernel
theorem dX11_firstAct_19 : decode cX11_firstAct 19 = .ok (.ifCond .eq 7, 3) := by decide +kernel
theorem dX11_firstAct_22 : decode cX11_firstAct 22 = .ok (.iload_n 1, 1) := by decide +kernel
theorem dX11_firstAct_23 : decode cX11_firstAct 23 = .ok (.goto 4, 3) := by decide +kernel
theorem dX11_firstAct_26 : decode cX11_firstAct 26 = .ok (.iload_n 2, 1) := by decide +kernel
theorem dX11_firstAct_27 : decode cX11_firstAct 27 = .ok (.istore_n 1, 1) := by decide +kernel
theorem dX11_firstAct_28 : decode cX11_firstAct 28 = .ok (.iinc 2 (-1), 3) := by decide +kernel
theorem dX11_firstAct_31 : decode cX11_firstAct 31 = .ok (.goto (-22), 3) := by decide +kernel
theorem dX11_firstAct_34 : decode cX11_firstAct 34 = .ok (.iload_n 1, 1) := by decide +kernel
theorem dX11_firstAct_35 : decode cX11_firstAct 35 = .ok (.ireturn, 1) := by decide +kernel
theorem dX11_takesAct_0 : decode cX11_takesAct 0 = .ok (.aload_n 0, 1) := by decide +kernel
theorem dX11_takesAct_1 : decode cX11_takesAct 1 = .ok (.dup, 1) := by decide +kernel
theorem dX11_takesAct_2 : decode cX11_takesAct 2 = .ok (.getfield 183, 3) := by decide +kernel
theorem dX11_takesAct_5 : decode cX11_takesAct 5 = .ok (.iconst 1, 1) := by decide +kernel
theorem dX11_takesAct_6 : decode cX11_takesAct 6 = .ok (.isub, 1) := by decide +kernel
theorem dX11_takesAct_7 : decode cX11_takesAct 7 = .ok (.putfield 183, 3) := by decide +kernel
theorem dX11_takesAct_10 : decode cX11_takesAct 10 = .ok (.iload_n 1, 1) := by decide +kernel
theorem dX11_takesAct_11 : decode cX11_takesAct 11 = .ok (.istore_n 2, 1) := by decide +kernel
theorem dX11_takesAct_12 : decode cX11_takesAct 12 = .ok (.iload_n 2, 1) := by decide +kernel
theorem dX11_takesAct_13 : decode cX11_takesAct 13 = .ok (.aload_n 0, 1) := by decide +kernel
theorem dX11_takesAct_14 : decode cX11_takesAct 14 = .ok (.getfield 183, 3) := by decide +kernel
theorem dX11_takesAct_17 : decode cX11_takesAct 17 = .ok (.if_icmp .ge 51, 3) := by decide +kernel
theorem dX11_takesAct_20 : decode cX11_takesAct 20 = .ok (.aload_n 0, 1) := by decide +kernel
theorem dX11_takesAct_21 : decode cX11_takesAct 21 = .ok (.getfield 91, 3) := by decide +kernel
theorem dX11_takesAct_24 : decode cX11_takesAct 24 = .ok (.iload_n 2, 1) := by decide +kernel
theorem dX11_takesAct_25 : decode cX11_takesAct 25 = .ok (.aload_n 0, 1) := by decide +kernel
theorem dX11_takesAct_26 : decode cX11_takesAct 26 = .ok (.getfield 91, 3) := by decide +kernel
theorem dX11_takesAct_29 : decode cX11_takesAct 29 = .ok (.iload_n 2, 1) := by decide +kernel
theorem dX11_takesAct_30 : decode cX11_takesAct 30 = .ok (.iconst 1, 1) := by decide +kernel
theorem dX11_takesAct_31 : decode cX11_takesAct 31 = .ok (.iadd, 1) := by decide +kernel
theorem dX11_takesAct_32 : decode cX11_takesAct 32 = .ok (.iaload, 1) := by decide +kernel
theorem dX11_takesAct_33 : decode cX11_takesAct 33 = .ok (.iastore, 1) := by decide +kernel
theorem dX11_takesAct_34 : decode cX11_takesAct 34 = .ok (.aload_n 0, 1) := by decide +kernel
theorem dX11_takesAct_35 : decode cX11_takesAct 35 = .ok (.getfield 94, 3) := by decide +kernel
theorem dX11_takesAct_38 : decode cX11_takesAct 38 = .ok (.iload_n 2, 1) := by decide +kernel
theorem dX11_takesAct_39 : decode cX11_takesAct 39 = .ok (.aload_n 0, 1) := by decide +kernel
theorem dX11_takesAct_40 : decode cX11_takesAct 40 = .ok (.getfield 94, 3) := by decide +kernel
theorem dX11_takesAct_43 : decode cX11_takesAct 43 = .ok (.iload_n 2, 1) := by decide +kernel
theorem dX11_takesAct_44 : decode cX11_takesAct 44 = .ok (.iconst 1, 1) := by decide +kernel
theorem dX11_takesAct_45 : decode cX11_takesAct 45 = .ok (.iadd, 1) := by decide +kernel
theorem dX11_takesAct_46 : decode cX11_takesAct 46 = .ok (.iaload, 1) := by decide +kernel
theorem dX11_takesAct_47 : decode cX11_takesAct 47 = .ok (.iastore, 1) := by decide +kernel
theorem dX11_takesAct_48 : decode cX11_takesAct 48 = .ok (.aload_n 0, 1) := by decide +kernel
theorem dX11_takesAct_49 : decode cX11_takesAct 49 = .ok (.getfield 97, 3) := by decide +kernel
theorem dX11_takesAct_52 : decode cX11_takesAct 52 = .ok (.iload_n 2, 1) := by decide +kernel
theorem dX11_takesAct_53 : decode cX11_takesAct 53 = .ok (.aload_n 0, 1) := by decide +kernel
theorem dX11_takesAct_54 : decode cX11_takesAct 54 = .ok (.getfield 97, 3) := by decide +kernel
theorem dX11_takesAct_57 : decode cX11_takesAct 57 = .ok (.iload_n 2, 1) := by decide +kernel
theorem dX11_takesAct_58 : decode cX11_takesAct 58 = .ok (.iconst 1, 1) := by decide +kernel
theorem dX11_takesAct_59 : decode cX11_takesAct 59 = .ok (.iadd, 1) := by decide +kernel
theorem dX11_takesAct_60 : decode cX11_takesAct 60 = .ok (.baload, 1) := by decide +kernel
theorem dX11_takesAct_61 : decode cX11_takesAct 61 = .ok (.bastore, 1) := by decide +kernel
theorem dX11_takesAct_62 : decode cX11_takesAct 62 = .ok (.iinc 2 1, 3) := by decide +kernel
theorem dX11_takesAct_65 : decode cX11_takesAct 65 = .ok (.goto (-53), 3) := by decide +kernel
theorem dX11_takesAct_68 : decode cX11_takesAct 68 = .ok (.return_, 1) := by decide +kernel
theorem dX11_forgets_0 : decode cX11_forgets 0 = .ok (.iconst 0, 1) := by decide +kernel
theorem dX11_forgets_1 : decode cX11_forgets 1 = .ok (.istore_n 2, 1) := by decide +kernel
theorem dX11_forgets_2 : decode cX11_forgets 2 = .ok (.iload_n 2, 1) := by decide +kernel
theorem dX11_forgets_3 : decode cX11_forgets 3 = .ok (.aload_n 0, 1) := by decide +kernel
theorem dX11_forgets_4 : decode cX11_forgets 4 = .ok (.getfield 118, 3) := by decide +kernel
theorem dX11_forgets_7 : decode cX11_forgets 7 = .ok (.if_icmp .ge 43, 3) := by decide +kernel
theorem dX11_forgets_10 : decode cX11_forgets 10 = .ok (.aload_n 0, 1) := by decide +kernel
theorem dX11_forgets_11 : decode cX11_forgets 11 = .ok (.getfield 112, 3) := by decide +kernel
theorem dX11_forgets_14 : decode cX11_forgets 14 = .ok (.iload_n 2, 1) := by decide +kernel
theorem dX11_forgets_15 : decode cX11_forgets 15 = .ok (.iload_n 2, 1) := by decide +kernel
theorem dX11_forgets_16 : decode cX11_forgets 16 = .ok (.iload_n 1, 1) := by decide +kernel
theorem dX11_forgets_17 : decode cX11_forgets 17 = .ok (.if_icmp .eq 21, 3) := by decide +kernel
theorem dX11_forgets_20 : decode cX11_forgets 20 = .ok (.aload_n 0, 1) := by decide +kernel
theorem dX11_forgets_21 : decode cX11_forgets 21 = .ok (.iload_n 1, 1) := by decide +kernel
theorem dX11_forgets_22 : decode cX11_forgets 22 = .ok (.invokevirtual 163, 3) := by decide +kernel
theorem dX11_forgets_25 : decode cX11_forgets 25 = .ok (.iconst (-1), 1) := by decide +kernel
theorem dX11_forgets_26 : decode cX11_forgets 26 = .ok (.if_icmp .ne 16, 3) := by decide +kernel
theorem dX11_forgets_29 : decode cX11_forgets 29 = .ok (.aload_n 0, 1) := by decide +kernel
theorem dX11_forgets_30 : decode cX11_forgets 30 = .ok (.iload_n 2, 1) := by decide +kernel
theorem dX11_forgets_31 : decode cX11_forgets 31 = .ok (.iload_n 1, 1) := by decide +kernel
theorem dX11_forgets_32 : decode cX11_forgets 32 = .ok (.invokevirtual 186, 3) := by decide +kernel
theorem dX11_forgets_35 : decode cX11_forgets 35 = .ok (.ifCond .eq 7, 3) := by decide +kernel
theorem dX11_forgets_38 : decode cX11_forgets 38 = .ok (.iconst 1, 1) := by decide +kernel
theorem dX11_forgets_39 : decode cX11_forgets 39 = .ok (.goto 4, 3) := by decide +kernel
theorem dX11_forgets_42 : decode cX11_forgets 42 = .ok (.iconst 0, 1) := by decide +kernel
theorem dX11_forgets_43 : decode cX11_forgets 43 = .ok (.bastore, 1) := by decide +kernel
theorem dX11_forgets_44 : decode cX11_forgets 44 = .ok (.iinc 2 1, 3) := by decide +kernel
theorem dX11_forgets_47 : decode cX11_forgets 47 = .ok (.goto (-45), 3) := by decide +kernel
theorem dX11_forgets_50 : decode cX11_forgets 50 = .ok (.iconst 0, 1) := by decide +kernel
theorem dX11_forgets_51 : decode cX11_forgets 51 = .ok (.istore_n 2, 1) := by decide +kernel
theorem dX11_forgets_52 : decode cX11_forgets 52 = .ok (.iload_n 2, 1) := by decide +kernel
theorem dX11_forgets_53 : decode cX11_forgets 53 = .ok (.aload_n 0, 1) := by decide +kernel
theorem dX11_forgets_54 : decode cX11_forgets 54 = .ok (.getfield 118, 3) := by decide +kernel
theorem dX11_forgets_57 : decode cX11_forgets 57 = .ok (.if_icmp .ge 37, 3) := by decide +kernel
theorem dX11_forgets_60 : decode cX11_forgets 60 = .ok (.aload_n 0, 1) := by decide +kernel
theorem dX11_forgets_61 : decode cX11_forgets 61 = .ok (.getfield 112, 3) := by decide +kernel
theorem dX11_forgets_64 : decode cX11_forgets 64 = .ok (.iload_n 2, 1) := by decide +kernel
theorem dX11_forgets_65 : decode cX11_forgets 65 = .ok (.baload, 1) := by decide +kernel
theorem dX11_forgets_66 : decode cX11_forgets 66 = .ok (.ifCond .eq 22, 3) := by decide +kernel
theorem dX11_forgets_69 : decode cX11_forgets 69 = .ok (.aload_n 0, 1) := by decide +kernel
theorem dX11_forgets_70 : decode cX11_forgets 70 = .ok (.getfield 66, 3) := by decide +kernel
theorem dX11_forgets_73 : decode cX11_forgets 73 = .ok (.iload_n 2, 1) := by decide +kernel
theorem dX11_forgets_74 : decode cX11_forgets 74 = .ok (.iconst 0, 1) := by decide +kernel
theorem dX11_forgets_75 : decode cX11_forgets 75 = .ok (.bastore, 1) := by decide +kernel
theorem dX11_forgets_76 : decode cX11_forgets 76 = .ok (.aload_n 0, 1) := by decide +kernel
theorem dX11_forgets_77 : decode cX11_forgets 77 = .ok (.getfield 109, 3) := by decide +kernel
theorem dX11_forgets_80 : decode cX11_forgets 80 = .ok (.iload_n 2, 1) := by decide +kernel
theorem dX11_forgets_81 : decode cX11_forgets 81 = .ok (.iconst 0, 1) := by decide +kernel
theorem dX11_forgets_82 : decode cX11_forgets 82 = .ok (.bastore, 1) := by decide +kernel
theorem dX11_forgets_83 : decode cX11_forgets 83 = .ok (.aload_n 0, 1) := by decide +kernel
theorem dX11_forgets_84 : decode cX11_forgets 84 = .ok (.iload_n 2, 1) := by decide +kernel
theorem dX11_forgets_85 : decode cX11_forgets 85 = .ok (.invokevirtual 189, 3) := by decide +kernel
theorem dX11_forgets_88 : decode cX11_forgets 88 = .ok (.iinc 2 1, 3) := by decide +kernel
theorem dX11_forgets_91 : decode cX11_forgets 91 = .ok (.goto (-39), 3) := by decide +kernel
theorem dX11_forgets_94 : decode cX11_forgets 94 = .ok (.return_, 1) := by decide +kernel
theorem dX11_kills_0 : decode cX11_kills 0 = .ok (.iconst 0, 1) := by decide +kernel
theorem dX11_kills_1 : decode cX11_kills 1 = .ok (.istore_n 2, 1) := by decide +kernel
theorem dX11_kills_2 : decode cX11_kills 2 = .ok (.iload_n 2, 1) := by decide +kernel
theorem dX11_kills_3 : decode cX11_kills 3 = .ok (.aload_n 0, 1) := by decide +kernel
theorem dX11_kills_4 : decode cX11_kills 4 = .ok (.getfield 192, 3) := by decide +kernel
theorem dX11_kills_7 : decode cX11_kills 7 = .ok (.if_icmp .ge 39, 3) := by decide +kernel
theorem dX11_kills_10 : decode cX11_kills 10 = .ok (.aload_n 0, 1) := by decide +kernel
theorem dX11_kills_11 : decode cX11_kills 11 = .ok (.getfield 106, 3) := by decide +kernel
theorem dX11_kills_14 : decode cX11_kills 14 = .ok (.iload_n 2, 1) := by decide +kernel
theorem dX11_kills_15 : decode cX11_kills 15 = .ok (.aload_n 0, 1) := by decide +kernel
theorem dX11_kills_16 : decode cX11_kills 16 = .ok (.getfield 106, 3) := by decide +kernel
theorem dX11_kills_19 : decode cX11_kills 19 = .ok (.iload_n 2, 1) := by decide +kernel
theorem dX11_kills_20 : decode cX11_kills 20 = .ok (.baload, 1) := by decide +kernel
theorem dX11_kills_21 : decode cX11_kills 21 = .ok (.ifCond .ne 13, 3) := by decide +kernel
theorem dX11_kills_24 : decode cX11_kills 24 = .ok (.aload_n 0, 1) := by decide +kernel
theorem dX11_kills_25 : decode cX11_kills 25 = .ok (.getfield 103, 3) := by decide +kernel
theorem dX11_kills_28 : decode cX11_kills 28 = .ok (.iload_n 2, 1) := by decide +kernel
theorem dX11_kills_29 : decode cX11_kills 29 = .ok (.iaload, 1) := by decide +kernel
theorem dX11_kills_30 : decode cX11_kills 30 = .ok (.iload_n 1, 1) := by decide +kernel
theorem dX11_kills_31 : decode cX11_kills 31 = .ok (.if_icmp .ne 7, 3) := by decide +kernel
theorem dX11_kills_34 : decode cX11_kills 34 = .ok (.iconst 1, 1) := by decide +kernel
theorem dX11_kills_35 : decode cX11_kills 35 = .ok (.goto 4, 3) := by decide +kernel
theorem dX11_kills_38 : decode cX11_kills 38 = .ok (.iconst 0, 1) := by decide +kernel
theorem dX11_kills_39 : decode cX11_kills 39 = .ok (.bastore, 1) := by decide +kernel
theorem dX11_kills_40 : decode cX11_kills 40 = .ok (.iinc 2 1, 3) := by decide +kernel
theorem dX11_kills_43 : decode cX11_kills 43 = .ok (.goto (-41), 3) := by decide +kernel
theorem dX11_kills_46 : decode cX11_kills 46 = .ok (.return_, 1) := by decide +kernel
theorem dX11_takesWords_0 : decode cX11_takesWords 0 = .ok (.iconst 0, 1) := by decide +kernel
theorem dX11_takesWords_1 : decode cX11_takesWords 1 = .ok (.istore_n 2, 1) := by decide +kernel
theorem dX11_takesWords_2 : decode cX11_takesWords 2 = .ok (.aload_n 0, 1) := by decide +kernel
theorem dX11_takesWords_3 : decode cX11_takesWords 3 = .ok (.getfield 27, 3) := by decide +kernel
theorem dX11_takesWords_6 : decode cX11_takesWords 6 = .ok (.iload_n 1, 1) := by decide +kernel
theorem dX11_takesWords_7 : decode cX11_takesWords 7 = .ok (.iaload, 1) := by decide +kernel
theorem dX11_takesWords_8 : decode cX11_takesWords 8 = .ok (.istore_n 3, 1) := by decide +kernel
theorem dX11_takesWords_9 : decode cX11_takesWords 9 = .ok (.aload_n 0, 1) := by decide +kernel
theorem dX11_takesWords_10 : decode cX11_takesWords 10 = .ok (.getfield 27, 3) := by decide +kernel
theorem dX11_takesWords_13 : decode cX11_takesWords 13 = .ok (.iload_n 1, 1) := by decide +kernel
theorem dX11_takesWords_14 : decode cX11_takesWords 14 = .ok (.iaload, 1) := by decide +kernel
theorem dX11_takesWords_15 : decode cX11_takesWords 15 = .ok (.iconst 1, 1) := by decide +kernel
theorem dX11_takesWords_16 : decode cX11_takesWords 16 = .ok (.isub, 1) := by decide +kernel
theorem dX11_takesWords_17 : decode cX11_takesWords 17 = .ok (.istore 4, 2) := by decide +kernel
theorem dX11_takesWords_19 : decode cX11_takesWords 19 = .ok (.iload 4, 2) := by decide +kernel
theorem dX11_takesWords_21 : decode cX11_takesWords 21 = .ok (.ifCond .lt 71, 3) := by decide +kernel
theorem dX11_takesWords_24 : decode cX11_takesWords 24 = .ok (.aload_n 0, 1) := by decide +kernel
theorem dX11_takesWords_25 : decode cX11_takesWords 25 = .ok (.getfield 30, 3) := by decide +kernel
theorem dX11_takesWords_28 : decode cX11_takesWords 28 = .ok (.bipush 20, 2) := by decide +kernel
theorem dX11_takesWords_30 : decode cX11_takesWords 30 = .ok (.iload_n 1, 1) := by decide +kernel
theorem dX11_takesWords_31 : decode cX11_takesWords 31 = .ok (.imul, 1) := by decide +kernel
theorem dX11_takesWords_32 : decode cX11_takesWords 32 = .ok (.iload 4, 2) := by decide +kernel
theorem dX11_takesWords_34 : decode cX11_takesWords 34 = .ok (.iadd, 1) := by decide +kernel
theorem dX11_takesWords_35 : decode cX11_takesWords 35 = .ok (.iaload, 1) := by decide +kernel
theorem dX11_takesWords_36 : decode cX11_takesWords 36 = .ok (.istore 5, 2) := by decide +kernel
theorem dX11_takesWords_38 : decode cX11_takesWords 38 = .ok (.iload 5, 2) := by decide +kernel
theorem dX11_takesWords_40 : decode cX11_takesWords 40 = .ok (.bipush (-2), 2) := by decide +kernel
theorem dX11_takesWords_42 : decode cX11_takesWords 42 = .ok (.if_icmp .ne 12, 3) := by decide +kernel
theorem dX11_takesWords_45 : decode cX11_takesWords 45 = .ok (.iload_n 2, 1) := by decide +kernel
theorem dX11_takesWords_46 : decode cX11_takesWords 46 = .ok (.ifCond .ne 8, 3) := by decide +kernel
theorem dX11_takesWords_49 : decode cX11_takesWords 49 = .ok (.iload 4, 2) := by decide +kernel
theorem dX11_takesWords_51 : decode cX11_takesWords 51 = .ok (.goto 4, 3) := by decide +kernel
theorem dX11_takesWords_54 : decode cX11_takesWords 54 = .ok (.iload_n 3, 1) := by decide +kernel
theorem dX11_takesWords_55 : decode cX11_takesWords 55 = .ok (.istore_n 3, 1) := by decide +kernel
theorem dX11_takesWords_56 : decode cX11_takesWords 56 = .ok (.iload_n 2, 1) := by decide +kernel
theorem dX11_takesWords_57 : decode cX11_takesWords 57 = .ok (.iload 5, 2) := by decide +kernel
theorem dX11_takesWords_59 : decode cX11_takesWords 59 = .ok (.bipush (-3), 2) := by decide +kernel
theorem dX11_takesWords_61 : decode cX11_takesWords 61 = .ok (.if_icmp .ne 7, 3) := by decide +kernel
theorem dX11_takesWords_64 : decode cX11_takesWords 64 = .ok (.iconst 1, 1) := by decide +kernel
theorem dX11_takesWords_65 : decode cX11_takesWords 65 = .ok (.goto 19, 3) := by decide +kernel
theorem dX11_takesWords_68 : decode cX11_takesWords 68 = .ok (.iload 5, 2) := by decide +kernel
theorem dX11_takesWords_70 : decode cX11_takesWords 70 = .ok (.bipush (-2), 2) := by decide +kernel
theorem dX11_takesWords_72 : decode cX11_takesWords 72 = .ok (.if_icmp .ne 11, 3) := by decide +kernel
theorem dX11_takesWords_75 : decode cX11_takesWords 75 = .ok (.iload_n 2, 1) := by decide +kernel
theorem dX11_takesWords_76 : decode cX11_takesWords 76 = .ok (.ifCond .le 7, 3) := by decide +kernel
theorem dX11_takesWords_79 : decode cX11_takesWords 79 = .ok (.iconst (-1), 1) := by decide +kernel
theorem dX11_takesWords_80 : decode cX11_takesWords 80 = .ok (.goto 4, 3) := by decide +kernel
theorem dX11_takesWords_83 : decode cX11_takesWords 83 = .ok (.iconst 0, 1) := by decide +kernel
theorem dX11_takesWords_84 : decode cX11_takesWords 84 = .ok (.iadd, 1) := by decide +kernel
theorem dX11_takesWords_85 : decode cX11_takesWords 85 = .ok (.istore_n 2, 1) := by decide +kernel
theorem dX11_takesWords_86 : decode cX11_takesWords 86 = .ok (.iinc 4 (-1), 3) := by decide +kernel
theorem dX11_takesWords_89 : decode cX11_takesWords 89 = .ok (.goto (-70), 3) := by decide +kernel
theorem dX11_takesWords_92 : decode cX11_takesWords 92 = .ok (.aload_n 0, 1) := by decide +kernel
theorem dX11_takesWords_93 : decode cX11_takesWords 93 = .ok (.iconst 0, 1) := by decide +kernel
theorem dX11_takesWords_94 : decode cX11_takesWords 94 = .ok (.putfield 195, 3) := by decide +kernel
theorem dX11_takesWords_97 : decode cX11_takesWords 97 = .ok (.iconst 0, 1) := by decide +kernel
theorem dX11_takesWords_98 : decode cX11_takesWords 98 = .ok (.istore 4, 2) := by decide +kernel
theorem dX11_takesWords_100 : decode cX11_takesWords 100 = .ok (.iconst 0, 1) := by decide +kernel
theorem dX11_takesWords_101 : decode cX11_takesWords 101 = .ok (.istore 5, 2) := by decide +kernel
theorem dX11_takesWords_103 : decode cX11_takesWords 103 = .ok (.iload 5, 2) := by decide +kernel
theorem dX11_takesWords_105 : decode cX11_takesWords 105 = .ok (.iload_n 3, 1) := by decide +kernel
theorem dX11_takesWords_106 : decode cX11_takesWords 106 = .ok (.if_icmp .ge 102, 3) := by decide +kernel
theorem dX11_takesWords_109 : decode cX11_takesWords 109 = .ok (.aload_n 0, 1) := by decide +kernel
theorem dX11_takesWords_110 : decode cX11_takesWords 110 = .ok (.getfield 30, 3) := by decide +kernel
theorem dX11_takesWords_113 : decode cX11_takesWords 113 = .ok (.bipush 20, 2) := by decide +kernel
theorem dX11_takesWords_115 : decode cX11_takesWords 115 = .ok (.iload_n 1, 1) := by decide +kernel
theorem dX11_takesWords_116 : decode cX11_takesWords 116 = .ok (.imul, 1) := by decide +kernel
theorem dX11_takesWords_117 : decode cX11_takesWords 117 = .ok (.iload 5, 2) := by decide +kernel
theorem dX11_takesWords_119 : decode cX11_takesWords 119 = .ok (.iadd, 1) := by decide +kernel
theorem dX11_takesWords_120 : decode cX11_takesWords 120 = .ok (.iaload, 1) := by decide +kernel
theorem dX11_takesWords_121 : decode cX11_takesWords 121 = .ok (.istore 6, 2) := by decide +kernel
theorem dX11_takesWords_123 : decode cX11_takesWords 123 = .ok (.iload 6, 2) := by decide +kernel
theorem dX11_takesWords_125 : decode cX11_takesWords 125 = .ok (.ifCond .lt 44, 3) := by decide +kernel
theorem dX11_takesWords_128 : decode cX11_takesWords 128 = .ok (.iload 4, 2) := by decide +kernel
theorem dX11_takesWords_130 : decode cX11_takesWords 130 = .ok (.aload_n 0, 1) := by decide +kernel
theorem dX11_takesWords_131 : decode cX11_takesWords 131 = .ok (.getfield 84, 3) := by decide +kernel
theorem dX11_takesWords_134 : decode cX11_takesWords 134 = .ok (.if_icmp .gt 35, 3) := by decide +kernel
theorem dX11_takesWords_137 : decode cX11_takesWords 137 = .ok (.aload_n 0, 1) := by decide +kernel
theorem dX11_takesWords_138 : decode cX11_takesWords 138 = .ok (.getfield 195, 3) := by decide +kernel
theorem dX11_takesWords_141 : decode cX11_takesWords 141 = .ok (.aload_n 0, 1) := by decide +kernel
theorem dX11_takesWords_142 : decode cX11_takesWords 142 = .ok (.getfield 88, 3) := by decide +kernel
theorem dX11_takesWords_145 : decode cX11_takesWords 145 = .ok (.if_icmp .ge 24, 3) := by decide +kernel
theorem dX11_takesWords_148 : decode cX11_takesWords 148 = .ok (.aload_n 0, 1) := by decide +kernel
theorem dX11_takesWords_149 : decode cX11_takesWords 149 = .ok (.getfield 115, 3) := by decide +kernel
theorem dX11_takesWords_152 : decode cX11_takesWords 152 = .ok (.aload_n 0, 1) := by decide +kernel
theorem dX11_takesWords_153 : decode cX11_takesWords 153 = .ok (.getfield 195, 3) := by decide +kernel
theorem dX11_takesWords_156 : decode cX11_takesWords 156 = .ok (.iload 6, 2) := by decide +kernel
theorem dX11_takesWords_158 : decode cX11_takesWords 158 = .ok (.iastore, 1) := by decide +kernel
theorem dX11_takesWords_159 : decode cX11_takesWords 159 = .ok (.aload_n 0, 1) := by decide +kernel
theorem dX11_takesWords_160 : decode cX11_takesWords 160 = .ok (.dup, 1) := by decide +kernel
theorem dX11_takesWords_161 : decode cX11_takesWords 161 = .ok (.getfield 195, 3) := by decide +kernel
theorem dX11_takesWords_164 : decode cX11_takesWords 164 = .ok (.iconst 1, 1) := by decide +kernel
theorem dX11_takesWords_165 : decode cX11_takesWords 165 = .ok (.iadd, 1) := by decide +kernel
theorem dX11_takesWords_166 : decode cX11_takesWords 166 = .ok (.putfield 195, 3) := by decide +kernel
theorem dX11_takesWords_169 : decode cX11_takesWords 169 = .ok (.iload 4, 2) := by decide +kernel
theorem dX11_takesWords_171 : decode cX11_takesWords 171 = .ok (.iload 6, 2) := by decide +kernel
theorem dX11_takesWords_173 : decode cX11_takesWords 173 = .ok (.bipush (-2), 2) := by decide +kernel
theorem dX11_takesWords_175 : decode cX11_takesWords 175 = .ok (.if_icmp .ne 7, 3) := by decide +kernel
theorem dX11_takesWords_178 : decode cX11_takesWords 178 = .ok (.iconst 1, 1) := by decide +kernel
theorem dX11_takesWords_179 : decode cX11_takesWords 179 = .ok (.goto 20, 3) := by decide +kernel
theorem dX11_takesWords_182 : decode cX11_takesWords 182 = .ok (.iload 6, 2) := by decide +kernel
theorem dX11_takesWords_184 : decode cX11_takesWords 184 = .ok (.bipush (-3), 2) := by decide +kernel
theorem dX11_takesWords_186 : decode cX11_takesWords 186 = .ok (.if_icmp .ne 12, 3) := by decide +kernel
theorem dX11_takesWords_189 : decode cX11_takesWords 189 = .ok (.iload 4, 2) := by decide +kernel
theorem dX11_takesWords_191 : decode cX11_takesWords 191 = .ok (.ifCond .le 7, 3) := by decide +kernel
theorem dX11_takesWords_194 : decode cX11_takesWords 194 = .ok (.iconst (-1), 1) := by decide +kernel
theorem dX11_takesWords_195 : decode cX11_takesWords 195 = .ok (.goto 4, 3) := by decide +kernel
theorem dX11_takesWords_198 : decode cX11_takesWords 198 = .ok (.iconst 0, 1) := by decide +kernel
theorem dX11_takesWords_199 : decode cX11_takesWords 199 = .ok (.iadd, 1) := by decide +kernel
theorem dX11_takesWords_200 : decode cX11_takesWords 200 = .ok (.istore 4, 2) := by decide +kernel
theorem dX11_takesWords_202 : decode cX11_takesWords 202 = .ok (.iinc 5 1, 3) := by decide +kernel
theorem dX11_takesWords_205 : decode cX11_takesWords 205 = .ok (.goto (-102), 3) := by decide +kernel
theorem dX11_takesWords_208 : decode cX11_takesWords 208 = .ok (.return_, 1) := by decide +kernel
theorem dX11_places_0 : decode cX11_places 0 = .ok (.aload_n 0, 1) := by decide +kernel
theorem dX11_places_1 : decode cX11_places 1 = .ok (.getfield 66, 3) := by decide +kernel
theorem dX11_places_4 : decode cX11_places 4 = .ok (.iload_n 1, 1) := by decide +kernel
theorem dX11_places_5 : decode cX11_places 5 = .ok (.iconst 1, 1) := by decide +kernel
theorem dX11_places_6 : decode cX11_places 6 = .ok (.bastore, 1) := by decide +kernel
theorem dX11_places_7 : decode cX11_places 7 = .ok (.aload_n 0, 1) := by decide +kernel
theorem dX11_places_8 : decode cX11_places 8 = .ok (.getfield 69, 3) := by decide +kernel
theorem dX11_places_11 : decode cX11_places 11 = .ok (.iload_n 1, 1) := by decide +kernel
theorem dX11_places_12 : decode cX11_places 12 = .ok (.aload_n 0, 1) := by decide +kernel
theorem dX11_places_13 : decode cX11_places 13 = .ok (.getfield 16, 3) := by decide +kernel
theorem dX11_places_16 : decode cX11_places 16 = .ok (.iload_n 1, 1) := by decide +kernel
theorem dX11_places_17 : decode cX11_places 17 = .ok (.iaload, 1) := by decide +kernel
theorem dX11_places_18 : decode cX11_places 18 = .ok (.iastore, 1) := by decide +kernel
theorem dX11_places_19 : decode cX11_places 19 = .ok (.aload_n 0, 1) := by decide +kernel
theorem dX11_places_20 : decode cX11_places 20 = .ok (.getfield 72, 3) := by decide +kernel
theorem dX11_places_23 : decode cX11_places 23 = .ok (.iload_n 1, 1) := by decide +kernel
theorem dX11_places_24 : decode cX11_places 24 = .ok (.aload_n 0, 1) := by decide +kernel
theorem dX11_places_25 : decode cX11_places 25 = .ok (.getfield 20, 3) := by decide +kernel
theorem dX11_places_28 : decode cX11_places 28 = .ok (.iload_n 1, 1) := by decide +kernel
theorem dX11_places_29 : decode cX11_places 29 = .ok (.caload, 1) := by decide +kernel
theorem dX11_places_30 : decode cX11_places 30 = .ok (.castore, 1) := by decide +kernel
theorem dX11_places_31 : decode cX11_places 31 = .ok (.return_, 1) := by decide +kernel
theorem dX11_isKnown_0 : decode cX11_isKnown 0 = .ok (.aload_n 0, 1) := by decide +kernel
theorem dX11_isKnown_1 : decode cX11_isKnown 1 = .ok (.getfield 66, 3) := by decide +kernel
theorem dX11_isKnown_4 : decode cX11_isKnown 4 = .ok (.iload_n 1, 1) := by decide +kernel
theorem dX11_isKnown_5 : decode cX11_isKnown 5 = .ok (.baload, 1) := by decide +kernel
theorem dX11_isKnown_6 : decode cX11_isKnown 6 = .ok (.ifCond .eq 61, 3) := by decide +kernel
theorem dX11_isKnown_9 : decode cX11_isKnown 9 = .ok (.aload_n 0, 1) := by decide +kernel
theorem dX11_isKnown_10 : decode cX11_isKnown 10 = .ok (.getfield 69, 3) := by decide +kernel
theorem dX11_isKnown_13 : decode cX11_isKnown 13 = .ok (.iload_n 1, 1) := by decide +kernel
theorem dX11_isKnown_14 : decode cX11_isKnown 14 = .ok (.iaload, 1) := by decide +kernel
theorem dX11_isKnown_15 : decode cX11_isKnown 15 = .ok (.aload_n 0, 1) := by decide +kernel
theorem dX11_isKnown_16 : decode cX11_isKnown 16 = .ok (.getfield 16, 3) := by decide +kernel
theorem dX11_isKnown_19 : decode cX11_isKnown 19 = .ok (.iload_n 1, 1) := by decide +kernel
theorem dX11_isKnown_20 : decode cX11_isKnown 20 = .ok (.iaload, 1) := by decide +kernel
theorem dX11_isKnown_21 : decode cX11_isKnown 21 = .ok (.if_icmp .ne 46, 3) := by decide +kernel
theorem dX11_isKnown_24 : decode cX11_isKnown 24 = .ok (.aload_n 0, 1) := by decide +kernel
theorem dX11_isKnown_25 : decode cX11_isKnown 25 = .ok (.getfield 72, 3) := by decide +kernel
theorem dX11_isKnown_28 : decode cX11_isKnown 28 = .ok (.iload_n 1, 1) := by decide +kernel
theorem dX11_isKnown_29 : decode cX11_isKnown 29 = .ok (.caload, 1) := by decide +kernel
theorem dX11_isKnown_30 : decode cX11_isKnown 30 = .ok (.aload_n 0, 1) := by decide +kernel
theorem dX11_isKnown_31 : decode cX11_isKnown 31 = .ok (.getfield 20, 3) := by decide +kernel
theorem dX11_isKnown_34 : decode cX11_isKnown 34 = .ok (.iload_n 1, 1) := by decide +kernel
theorem dX11_isKnown_35 : decode cX11_isKnown 35 = .ok (.caload, 1) := by decide +kernel
theorem dX11_isKnown_36 : decode cX11_isKnown 36 = .ok (.if_icmp .ne 31, 3) := by decide +kernel
theorem dX11_isKnown_39 : decode cX11_isKnown 39 = .ok (.aload_n 0, 1) := by decide +kernel
theorem dX11_isKnown_40 : decode cX11_isKnown 40 = .ok (.getfield 13, 3) := by decide +kernel
theorem dX11_isKnown_43 : decode cX11_isKnown 43 = .ok (.iload_n 1, 1) := by decide +kernel
theorem dX11_isKnown_44 : decode cX11_isKnown 44 = .ok (.baload, 1) := by decide +kernel
theorem dX11_isKnown_45 : decode cX11_isKnown 45 = .ok (.ifCond .ne 18, 3) := by decide +kernel
theorem dX11_isKnown_48 : decode cX11_isKnown 48 = .ok (.aload_n 0, 1) := by decide +kernel
theorem dX11_isKnown_49 : decode cX11_isKnown 49 = .ok (.getfield 75, 3) := by decide +kernel
theorem dX11_isKnown_52 : decode cX11_isKnown 52 = .ok (.iload_n 1, 1) := by decide +kernel
theorem dX11_isKnown_53 : decode cX11_isKnown 53 = .ok (.iaload, 1) := by decide +kernel
theorem dX11_isKnown_54 : decode cX11_isKnown 54 = .ok (.aload_n 0, 1) := by decide +kernel
theorem dX11_isKnown_55 : decode cX11_isKnown 55 = .ok (.getfield 24, 3) := by decide +kernel
theorem dX11_isKnown_58 : decode cX11_isKnown 58 = .ok (.iload_n 1, 1) := by decide +kernel
theorem dX11_isKnown_59 : decode cX11_isKnown 59 = .ok (.iaload, 1) := by decide +kernel
theorem dX11_isKnown_60 : decode cX11_isKnown 60 = .ok (.if_icmp .ne 7, 3) := by decide +kernel
theorem dX11_isKnown_63 : decode cX11_isKnown 63 = .ok (.iconst 1, 1) := by decide +kernel
theorem dX11_isKnown_64 : decode cX11_isKnown 64 = .ok (.goto 4, 3) := by decide +kernel
theorem dX11_isKnown_67 : decode cX11_isKnown 67 = .ok (.iconst 0, 1) := by decide +kernel
theorem dX11_isKnown_68 : decode cX11_isKnown 68 = .ok (.ireturn, 1) := by decide +kernel
theorem dX11_cost_0 : decode cX11_cost 0 = .ok (.aload_n 0, 1) := by decide +kernel
theorem dX11_cost_1 : decode cX11_cost 1 = .ok (.getfield 91, 3) := by decide +kernel
theorem dX11_cost_4 : decode cX11_cost 4 = .ok (.iload_n 1, 1) := by decide +kernel
theorem dX11_cost_5 : decode cX11_cost 5 = .ok (.iaload, 1) := by decide +kernel
theorem dX11_cost_6 : decode cX11_cost 6 = .ok (.istore_n 2, 1) := by decide +kernel
theorem dX11_cost_7 : decode cX11_cost 7 = .ok (.aload_n 0, 1) := by decide +kernel
theorem dX11_cost_8 : decode cX11_cost 8 = .ok (.getfield 94, 3) := by decide +kernel
theorem dX11_cost_11 : decode cX11_cost 11 = .ok (.iload_n 1, 1) := by decide +kernel
theorem dX11_cost_12 : decode cX11_cost 12 = .ok (.iaload, 1) := by decide +kernel
theorem dX11_cost_13 : decode cX11_cost 13 = .ok (.iconst 1, 1) := by decide +kernel
theorem dX11_cost_14 : decode cX11_cost 14 = .ok (.if_icmp .ne 34, 3) := by decide +kernel
theorem dX11_cost_17 : decode cX11_cost 17 = .ok (.aload_n 0, 1) := by decide +kernel
theorem dX11_cost_18 : decode cX11_cost 18 = .ok (.iload_n 2, 1) := by decide +kernel
theorem dX11_cost_19 : decode cX11_cost 19 = .ok (.invokevirtual 150, 3) := by decide +kernel
theorem dX11_cost_22 : decode cX11_cost 22 = .ok (.iconst (-1), 1) := by decide +kernel
theorem dX11_cost_23 : decode cX11_cost 23 = .ok (.if_icmp .eq 25, 3) := by decide +kernel
theorem dX11_cost_26 : decode cX11_cost 26 = .ok (.aload_n 0, 1) := by decide +kernel
theorem dX11_cost_27 : decode cX11_cost 27 = .ok (.getfield 13, 3) := by decide +kernel
theorem dX11_cost_30 : decode cX11_cost 30 = .ok (.iload_n 2, 1) := by decide +kernel
theorem dX11_cost_31 : decode cX11_cost 31 = .ok (.baload, 1) := by decide +kernel
theorem dX11_cost_32 : decode cX11_cost 32 = .ok (.ifCond .ne 16, 3) := by decide +kernel
theorem dX11_cost_35 : decode cX11_cost 35 = .ok (.aload_n 0, 1) := by decide +kernel
theorem dX11_cost_36 : decode cX11_cost 36 = .ok (.getfield 33, 3) := by decide +kernel
theorem dX11_cost_39 : decode cX11_cost 39 = .ok (.iload_n 2, 1) := by decide +kernel
theorem dX11_cost_40 : decode cX11_cost 40 = .ok (.baload, 1) := by decide +kernel
theorem dX11_cost_41 : decode cX11_cost 41 = .ok (.ifCond .ne 7, 3) := by decide +kernel
theorem dX11_cost_44 : decode cX11_cost 44 = .ok (.iconst 1, 1) := by decide +kernel
theorem dX11_cost_45 : decode cX11_cost 45 = .ok (.goto 4, 3) := by decide +kernel
theorem dX11_cost_48 : decode cX11_cost 48 = .ok (.iconst 0, 1) := by decide +kernel
theorem dX11_cost_49 : decode cX11_cost 49 = .ok (.istore_n 3, 1) := by decide +kernel
theorem dX11_cost_50 : decode cX11_cost 50 = .ok (.iload_n 3, 1) := by decide +kernel
theorem dX11_cost_51 : decode cX11_cost 51 = .ok (.ifCond .eq 38, 3) := by decide +kernel
theorem dX11_cost_54 : decode cX11_cost 54 = .ok (.aload_n 0, 1) := by decide +kernel
theorem dX11_cost_55 : decode cX11_cost 55 = .ok (.getfield 66, 3) := by decide +kernel
theorem dX11_cost_58 : decode cX11_cost 58 = .ok (.iload_n 2, 1) := by decide +kernel
theorem dX11_cost_59 : decode cX11_cost 59 = .ok (.baload, 1) := by decide +kernel
theorem dX11_cost_60 : decode cX11_cost 60 = .ok (.ifCond .eq 18, 3) := by decide +kernel
theorem dX11_cost_63 : decode cX11_cost 63 = .ok (.aload_n 0, 1) := by decide +kernel
theorem dX11_cost_64 : decode cX11_cost 64 = .ok (.getfield 75, 3) := by decide +kernel
theorem dX11_cost_67 : decode cX11_cost 67 = .ok (.iload_n 2, 1) := by decide +kernel
theorem dX11_cost_68 : decode cX11_cost 68 = .ok (.iaload, 1) := by decide +kernel
theorem dX11_cost_69 : decode cX11_cost 69 = .ok (.aload_n 0, 1) := by decide +kernel
theorem dX11_cost_70 : decode cX11_cost 70 = .ok (.getfield 24, 3) := by decide +kernel
theorem dX11_cost_73 : decode cX11_cost 73 = .ok (.iload_n 2, 1) := by decide +kernel
theorem dX11_cost_74 : decode cX11_cost 74 = .ok (.iaload, 1) := by decide +kernel
theorem dX11_cost_75 : decode cX11_cost 75 = .ok (.if_icmp .eq 14, 3) := by decide +kernel
theorem dX11_cost_78 : decode cX11_cost 78 = .ok (.iconst 1, 1) := by decide +kernel
theorem dX11_cost_79 : decode cX11_cost 79 = .ok (.aload_n 0, 1) := by decide +kernel
theorem dX11_cost_80 : decode cX11_cost 80 = .ok (.getfield 27, 3) := by decide +kernel
theorem dX11_cost_83 : decode cX11_cost 83 = .ok (.iload_n 2, 1) := by decide +kernel
theorem dX11_cost_84 : decode cX11_cost 84 = .ok (.iaload, 1) := by decide +kernel
theorem dX11_cost_85 : decode cX11_cost 85 = .ok (.iadd, 1) := by decide +kernel
theorem dX11_cost_86 : decode cX11_cost 86 = .ok (.goto 4, 3) := by decide +kernel
theorem dX11_cost_89 : decode cX11_cost 89 = .ok (.iconst 1, 1) := by decide +kernel
theorem dX11_cost_90 : decode cX11_cost 90 = .ok (.ireturn, 1) := by decide +kernel
theorem dX11_acts_0 : decode cX11_acts 0 = .ok (.aload_n 0, 1) := by decide +kernel
theorem dX11_acts_1 : decode cX11_acts 1 = .ok (.getfield 91, 3) := by decide +kernel
theorem dX11_acts_4 : decode cX11_acts 4 = .ok (.iload_n 1, 1) := by decide +kernel
theorem dX11_acts_5 : decode cX11_acts 5 = .ok (.iaload, 1) := by decide +kernel
theorem dX11_acts_6 : decode cX11_acts 6 = .ok (.istore_n 2, 1) := by decide +kernel
theorem dX11_acts_7 : decode cX11_acts 7 = .ok (.aload_n 0, 1) := by decide +kernel
theorem dX11_acts_8 : decode cX11_acts 8 = .ok (.getfield 94, 3) := by decide +kernel
theorem dX11_acts_11 : decode cX11_acts 11 = .ok (.iload_n 1, 1) := by decide +kernel
theorem dX11_acts_12 : decode cX11_acts 12 = .ok (.iaload, 1) := by decide +kernel
theorem dX11_acts_13 : decode cX11_acts 13 = .ok (.istore_n 3, 1) := by decide +kernel
theorem dX11_acts_14 : decode cX11_acts 14 = .ok (.aload_n 0, 1) := by decide +kernel
theorem dX11_acts_15 : decode cX11_acts 15 = .ok (.iload_n 1, 1) := by decide +kernel
theorem dX11_acts_16 : decode cX11_acts 16 = .ok (.invokevirtual 198, 3) := by decide +kernel
theorem dX11_acts_19 : decode cX11_acts 19 = .ok (.aload_n 0, 1) := by decide +kernel
theorem dX11_acts_20 : decode cX11_acts 20 = .ok (.iload_n 2, 1) := by decide +kernel
theorem dX11_acts_21 : decode cX11_acts 21 = .ok (.invokevirtual 150, 3) := by decide +kernel
theorem dX11_acts_24 : decode cX11_acts 24 = .ok (.iconst (-1), 1) := by decide +kernel
theorem dX11_acts_25 : decode cX11_acts 25 = .ok (.if_icmp .ne 11, 3) := by decide +kernel
theorem dX11_acts_28 : decode cX11_acts 28 = .ok (.aload_n 0, 1) := by decide +kernel
theorem dX11_acts_29 : decode cX11_acts 29 = .ok (.iload_n 2, 1) := by decide +kernel
theorem dX11_acts_30 : decode cX11_acts 30 = .ok (.invokevirtual 201, 3) := by decide +kernel
theorem dX11_acts_33 : decode cX11_acts 33 = .ok (.goto 163, 3) := by decide +kernel
theorem dX11_acts_36 : decode cX11_acts 36 = .ok (.iload_n 3, 1) := by decide +kernel
theorem dX11_acts_37 : decode cX11_acts 37 = .ok (.iconst 2, 1) := by decide +kernel
theorem dX11_acts_38 : decode cX11_acts 38 = .ok (.if_icmp .ne 12, 3) := by decide +kernel
theorem dX11_acts_41 : decode cX11_acts 41 = .ok (.aload_n 0, 1) := by decide +kernel
theorem dX11_acts_42 : decode cX11_acts 42 = .ok (.iload_n 2, 1) := by decide +kernel
theorem dX11_acts_43 : decode cX11_acts 43 = .ok (.iconst 1, 1) := by decide +kernel
theorem dX11_acts_44 : decode cX11_acts 44 = .ok (.invokevirtual 176, 3) := by decide +kernel
theorem dX11_acts_47 : decode cX11_acts 47 = .ok (.goto 149, 3) := by decide +kernel
theorem dX11_acts_50 : decode cX11_acts 50 = .ok (.aload_n 0, 1) := by decide +kernel
theorem dX11_acts_51 : decode cX11_acts 51 = .ok (.getfield 13, 3) := by decide +kernel
theorem dX11_acts_54 : decode cX11_acts 54 = .ok (.iload_n 2, 1) := by decide +kernel
theorem dX11_acts_55 : decode cX11_acts 55 = .ok (.baload, 1) := by decide +kernel
theorem dX11_acts_56 : decode cX11_acts 56 = .ok (.ifCond .eq 64, 3) := by decide +kernel
theorem dX11_acts_59 : decode cX11_acts 59 = .ok (.aload_n 0, 1) := by decide +kernel
theorem dX11_acts_60 : decode cX11_acts 60 = .ok (.iload_n 2, 1) := by decide +kernel
theorem dX11_acts_61 : decode cX11_acts 61 = .ok (.invokevirtual 204, 3) := by decide +kernel
theorem dX11_acts_64 : decode cX11_acts 64 = .ok (.aload_n 0, 1) := by decide +kernel
theorem dX11_acts_65 : decode cX11_acts 65 = .ok (.getfield 75, 3) := by decide +kernel
theorem dX11_acts_68 : decode cX11_acts 68 = .ok (.iload_n 2, 1) := by decide +kernel
theorem dX11_acts_69 : decode cX11_acts 69 = .ok (.iconst 0, 1) := by decide +kernel
theorem dX11_acts_70 : decode cX11_acts 70 = .ok (.iastore, 1) := by decide +kernel
theorem dX11_acts_71 : decode cX11_acts 71 = .ok (.iconst 0, 1) := by decide +kernel
theorem dX11_acts_72 : decode cX11_acts 72 = .ok (.istore 4, 2) := by decide +kernel
theorem dX11_acts_74 : decode cX11_acts 74 = .ok (.iload 4, 2) := by decide +kernel
theorem dX11_acts_76 : decode cX11_acts 76 = .ok (.aload_n 0, 1) := by decide +kernel
theorem dX11_acts_77 : decode cX11_acts 77 = .ok (.getfield 118, 3) := by decide +kernel
theorem dX11_acts_80 : decode cX11_acts 80 = .ok (.if_icmp .ge 37, 3) := by decide +kernel
theorem dX11_acts_83 : decode cX11_acts 83 = .ok (.aload_n 0, 1) := by decide +kernel
theorem dX11_acts_84 : decode cX11_acts 84 = .ok (.getfield 7, 3) := by decide +kernel
theorem dX11_acts_87 : decode cX11_acts 87 = .ok (.iload 4, 2) := by decide +kernel
theorem dX11_acts_89 : decode cX11_acts 89 = .ok (.baload, 1) := by decide +kernel
theorem dX11_acts_90 : decode cX11_acts 90 = .ok (.ifCond .eq 21, 3) := by decide +kernel
theorem dX11_acts_93 : decode cX11_acts 93 = .ok (.aload_n 0, 1) := by decide +kernel
theorem dX11_acts_94 : decode cX11_acts 94 = .ok (.getfield 16, 3) := by decide +kernel
theorem dX11_acts_97 : decode cX11_acts 97 = .ok (.iload 4, 2) := by decide +kernel
theorem dX11_acts_99 : decode cX11_acts 99 = .ok (.iaload, 1) := by decide +kernel
theorem dX11_acts_100 : decode cX11_acts 100 = .ok (.iload_n 2, 1) := by decide +kernel
theorem dX11_acts_101 : decode cX11_acts 101 = .ok (.if_icmp .ne 10, 3) := by decide +kernel
theorem dX11_acts_104 : decode cX11_acts 104 = .ok (.aload_n 0, 1) := by decide +kernel
theorem dX11_acts_105 : decode cX11_acts 105 = .ok (.iload 4, 2) := by decide +kernel
theorem dX11_acts_107 : decode cX11_acts 107 = .ok (.iconst 1, 1) := by decide +kernel
theorem dX11_acts_108 : decode cX11_acts 108 = .ok (.invokevirtual 176, 3) := by decide +kernel
theorem dX11_acts_111 : decode cX11_acts 111 = .ok (.iinc 4 1, 3) := by decide +kernel
theorem dX11_acts_114 : decode cX11_acts 114 = .ok (.goto (-40), 3) := by decide +kernel
theorem dX11_acts_117 : decode cX11_acts 117 = .ok (.goto 79, 3) := by decide +kernel
theorem dX11_acts_120 : decode cX11_acts 120 = .ok (.aload_n 0, 1) := by decide +kernel
theorem dX11_acts_121 : decode cX11_acts 121 = .ok (.getfield 33, 3) := by decide +kernel
theorem dX11_acts_124 : decode cX11_acts 124 = .ok (.iload_n 2, 1) := by decide +kernel
theorem dX11_acts_125 : decode cX11_acts 125 = .ok (.baload, 1) := by decide +kernel
theorem dX11_acts_126 : decode cX11_acts 126 = .ok (.ifCond .eq 24, 3) := by decide +kernel
theorem dX11_acts_129 : decode cX11_acts 129 = .ok (.aload_n 0, 1) := by decide +kernel
theorem dX11_acts_130 : decode cX11_acts 130 = .ok (.iload_n 2, 1) := by decide +kernel
theorem dX11_acts_131 : decode cX11_acts 131 = .ok (.iconst 1, 1) := by decide +kernel
theorem dX11_acts_132 : decode cX11_acts 132 = .ok (.invokevirtual 176, 3) := by decide +kernel
theorem dX11_acts_135 : decode cX11_acts 135 = .ok (.aload_n 0, 1) := by decide +kernel
theorem dX11_acts_136 : decode cX11_acts 136 = .ok (.getfield 97, 3) := by decide +kernel
theorem dX11_acts_139 : decode cX11_acts 139 = .ok (.aload_n 0, 1) := by decide +kernel
theorem dX11_acts_140 : decode cX11_acts 140 = .ok (.getfield 183, 3) := by decide +kernel
theorem dX11_acts_143 : decode cX11_acts 143 = .ok (.iconst 1, 1) := by decide +kernel
theorem dX11_acts_144 : decode cX11_acts 144 = .ok (.isub, 1) := by decide +kernel
theorem dX11_acts_145 : decode cX11_acts 145 = .ok (.iconst 1, 1) := by decide +kernel
theorem dX11_acts_146 : decode cX11_acts 146 = .ok (.bastore, 1) := by decide +kernel
theorem dX11_acts_147 : decode cX11_acts 147 = .ok (.goto 49, 3) := by decide +kernel
theorem dX11_acts_150 : decode cX11_acts 150 = .ok (.aload_n 0, 1) := by decide +kernel
theorem dX11_acts_151 : decode cX11_acts 151 = .ok (.getfield 66, 3) := by decide +kernel
theorem dX11_acts_154 : decode cX11_acts 154 = .ok (.iload_n 2, 1) := by decide +kernel
theorem dX11_acts_155 : decode cX11_acts 155 = .ok (.baload, 1) := by decide +kernel
theorem dX11_acts_156 : decode cX11_acts 156 = .ok (.ifCond .eq 22, 3) := by decide +kernel
theorem dX11_acts_159 : decode cX11_acts 159 = .ok (.aload_n 0, 1) := by decide +kernel
theorem dX11_acts_160 : decode cX11_acts 160 = .ok (.getfield 75, 3) := by decide +kernel
theorem dX11_acts_163 : decode cX11_acts 163 = .ok (.iload_n 2, 1) := by decide +kernel
theorem dX11_acts_164 : decode cX11_acts 164 = .ok (.iaload, 1) := by decide +kernel
theorem dX11_acts_165 : decode cX11_acts 165 = .ok (.aload_n 0, 1) := by decide +kernel
theorem dX11_acts_166 : decode cX11_acts 166 = .ok (.getfield 24, 3) := by decide +kernel
theorem dX11_acts_169 : decode cX11_acts 169 = .ok (.iload_n 2, 1) := by decide +kernel
theorem dX11_acts_170 : decode cX11_acts 170 = .ok (.iaload, 1) := by decide +kernel
theorem dX11_acts_171 : decode cX11_acts 171 = .ok (.if_icmp .ne 7, 3) := by decide +kernel
theorem dX11_acts_174 : decode cX11_acts 174 = .ok (.iconst 1, 1) := by decide +kernel
theorem dX11_acts_175 : decode cX11_acts 175 = .ok (.goto 4, 3) := by decide +kernel
theorem dX11_acts_178 : decode cX11_acts 178 = .ok (.iconst 0, 1) := by decide +kernel
theorem dX11_acts_179 : decode cX11_acts 179 = .ok (.istore 4, 2) := by decide +kernel
theorem dX11_acts_181 : decode cX11_acts 181 = .ok (.aload_n 0, 1) := by decide +kernel
theorem dX11_acts_182 : decode cX11_acts 182 = .ok (.iload_n 2, 1) := by decide +kernel
theorem dX11_acts_183 : decode cX11_acts 183 = .ok (.invokevirtual 204, 3) := by decide +kernel
theorem dX11_acts_186 : decode cX11_acts 186 = .ok (.iload 4, 2) := by decide +kernel
theorem dX11_acts_188 : decode cX11_acts 188 = .ok (.ifCond .ne 8, 3) := by decide +kernel
theorem dX11_acts_191 : decode cX11_acts 191 = .ok (.aload_n 0, 1) := by decide +kernel
theorem dX11_acts_192 : decode cX11_acts 192 = .ok (.iload_n 2, 1) := by decide +kernel
theorem dX11_acts_193 : decode cX11_acts 193 = .ok (.invokevirtual 207, 3) := by decide +kernel
theorem dX11_acts_196 : decode cX11_acts 196 = .ok (.return_, 1) := by decide +kernel
theorem dX11_reads_0 : decode cX11_reads 0 = .ok (.aload_n 0, 1) := by decide +kernel
theorem dX11_reads_1 : decode cX11_reads 1 = .ok (.iload_n 1, 1) := by decide +kernel
theorem dX11_reads_2 : decode cX11_reads 2 = .ok (.invokevirtual 210, 3) := by decide +kernel
theorem dX11_reads_5 : decode cX11_reads 5 = .ok (.aload_n 0, 1) := by decide +kernel
theorem dX11_reads_6 : decode cX11_reads 6 = .ok (.getfield 75, 3) := by decide +kernel
theorem dX11_reads_9 : decode cX11_reads 9 = .ok (.iload_n 1, 1) := by decide +kernel
theorem dX11_reads_10 : decode cX11_reads 10 = .ok (.aload_n 0, 1) := by decide +kernel
theorem dX11_reads_11 : decode cX11_reads 11 = .ok (.getfield 24, 3) := by decide +kernel
theorem dX11_reads_14 : decode cX11_reads 14 = .ok (.iload_n 1, 1) := by decide +kernel
theorem dX11_reads_15 : decode cX11_reads 15 = .ok (.iaload, 1) := by decide +kernel
theorem dX11_reads_16 : decode cX11_reads 16 = .ok (.iastore, 1) := by decide +kernel
theorem dX11_reads_17 : decode cX11_reads 17 = .ok (.aload_n 0, 1) := by decide +kernel
theorem dX11_reads_18 : decode cX11_reads 18 = .ok (.getfield 78, 3) := by decide +kernel
theorem dX11_reads_21 : decode cX11_reads 21 = .ok (.iload_n 1, 1) := by decide +kernel
theorem dX11_reads_22 : decode cX11_reads 22 = .ok (.aload_n 0, 1) := by decide +kernel
theorem dX11_reads_23 : decode cX11_reads 23 = .ok (.getfield 195, 3) := by decide +kernel
theorem dX11_reads_26 : decode cX11_reads 26 = .ok (.iastore, 1) := by decide +kernel
theorem dX11_reads_27 : decode cX11_reads 27 = .ok (.iconst 0, 1) := by decide +kernel
theorem dX11_reads_28 : decode cX11_reads 28 = .ok (.istore_n 2, 1) := by decide +kernel
theorem dX11_reads_29 : decode cX11_reads 29 = .ok (.iload_n 2, 1) := by decide +kernel
theorem dX11_reads_30 : decode cX11_reads 30 = .ok (.aload_n 0, 1) := by decide +kernel
theorem dX11_reads_31 : decode cX11_reads 31 = .ok (.getfield 195, 3) := by decide +kernel
theorem dX11_reads_34 : decode cX11_reads 34 = .ok (.if_icmp .ge 26, 3) := by decide +kernel
theorem dX11_reads_37 : decode cX11_reads 37 = .ok (.aload_n 0, 1) := by decide +kernel
theorem dX11_reads_38 : decode cX11_reads 38 = .ok (.getfield 81, 3) := by decide +kernel
theorem dX11_reads_41 : decode cX11_reads 41 = .ok (.bipush 20, 2) := by decide +kernel
theorem dX11_reads_43 : decode cX11_reads 43 = .ok (.iload_n 1, 1) := by decide +kernel
theorem dX11_reads_44 : decode cX11_reads 44 = .ok (.imul, 1) := by decide +kernel
theorem dX11_reads_45 : decode cX11_reads 45 = .ok (.iload_n 2, 1) := by decide +kernel
theorem dX11_reads_46 : decode cX11_reads 46 = .ok (.iadd, 1) := by decide +kernel
theorem dX11_reads_47 : decode cX11_reads 47 = .ok (.aload_n 0, 1) := by decide +kernel
theorem dX11_reads_48 : decode cX11_reads 48 = .ok (.getfield 115, 3) := by decide +kernel
theorem dX11_reads_51 : decode cX11_reads 51 = .ok (.iload_n 2, 1) := by decide +kernel
theorem dX11_reads_52 : decode cX11_reads 52 = .ok (.iaload, 1) := by decide +kernel
theorem dX11_reads_53 : decode cX11_reads 53 = .ok (.iastore, 1) := by decide +kernel
theorem dX11_reads_54 : decode cX11_reads 54 = .ok (.iinc 2 1, 3) := by decide +kernel
theorem dX11_reads_57 : decode cX11_reads 57 = .ok (.goto (-28), 3) := by decide +kernel
theorem dX11_reads_60 : decode cX11_reads 60 = .ok (.aload_n 0, 1) := by decide +kernel
theorem dX11_reads_61 : decode cX11_reads 61 = .ok (.iload_n 1, 1) := by decide +kernel
theorem dX11_reads_62 : decode cX11_reads 62 = .ok (.invokevirtual 189, 3) := by decide +kernel
theorem dX11_reads_65 : decode cX11_reads 65 = .ok (.aload_n 0, 1) := by decide +kernel
theorem dX11_reads_66 : decode cX11_reads 66 = .ok (.getfield 109, 3) := by decide +kernel
theorem dX11_reads_69 : decode cX11_reads 69 = .ok (.iload_n 1, 1) := by decide +kernel
theorem dX11_reads_70 : decode cX11_reads 70 = .ok (.iconst 1, 1) := by decide +kernel
theorem dX11_reads_71 : decode cX11_reads 71 = .ok (.bastore, 1) := by decide +kernel
theorem dX11_reads_72 : decode cX11_reads 72 = .ok (.return_, 1) := by decide +kernel
theorem dX11_isWaiting_0 : decode cX11_isWaiting 0 = .ok (.iconst 0, 1) := by decide +kernel
theorem dX11_isWaiting_1 : decode cX11_isWaiting 1 = .ok (.istore_n 3, 1) := by decide +kernel
theorem dX11_isWaiting_2 : decode cX11_isWaiting 2 = .ok (.iconst 0, 1) := by decide +kernel
theorem dX11_isWaiting_3 : decode cX11_isWaiting 3 = .ok (.istore 4, 2) := by decide +kernel
theorem dX11_isWaiting_5 : decode cX11_isWaiting 5 = .ok (.iload 4, 2) := by decide +kernel
theorem dX11_isWaiting_7 : decode cX11_isWaiting 7 = .ok (.aload_n 0, 1) := by decide +kernel
theorem dX11_isWaiting_8 : decode cX11_isWaiting 8 = .ok (.getfield 57, 3) := by decide +kernel
theorem dX11_isWaiting_11 : decode cX11_isWaiting 11 = .ok (.iload_n 1, 1) := by decide +kernel
theorem dX11_isWaiting_12 : decode cX11_isWaiting 12 = .ok (.iaload, 1) := by decide +kernel
theorem dX11_isWaiting_13 : decode cX11_isWaiting 13 = .ok (.if_icmp .ge 35, 3) := by decide +kernel
theorem dX11_isWaiting_16 : decode cX11_isWaiting 16 = .ok (.iload_n 3, 1) := by decide +kernel
theorem dX11_isWaiting_17 : decode cX11_isWaiting 17 = .ok (.ifCond .ne 19, 3) := by decide +kernel
theorem dX11_isWaiting_20 : decode cX11_isWaiting 20 = .ok (.aload_n 0, 1) := by decide +kernel
theorem dX11_isWaiting_21 : decode cX11_isWaiting 21 = .ok (.getfield 60, 3) := by decide +kernel
theorem dX11_isWaiting_24 : decode cX11_isWaiting 24 = .ok (.bipush 60, 2) := by decide +kernel
theorem dX11_isWaiting_26 : decode cX11_isWaiting 26 = .ok (.iload_n 1, 1) := by decide +kernel
theorem dX11_isWaiting_27 : decode cX11_isWaiting 27 = .ok (.imul, 1) := by decide +kernel
theorem dX11_isWaiting_28 : decode cX11_isWaiting 28 = .ok (.iload 4, 2) := by decide +kernel
theorem dX11_isWaiting_30 : decode cX11_isWaiting 30 = .ok (.iadd, 1) := by decide +kernel
theorem dX11_isWaiting_31 : decode cX11_isWaiting 31 = .ok (.iaload, 1) := by decide +kernel
theorem dX11_isWaiting_32 : decode cX11_isWaiting 32 = .ok (.iload_n 2, 1) := by decide +kernel
theorem dX11_isWaiting_33 : decode cX11_isWaiting 33 = .ok (.if_icmp .ne 7, 3) := by decide +kernel
theorem dX11_isWaiting_36 : decode cX11_isWaiting 36 = .ok (.iconst 1, 1) := by decide +kernel
theorem dX11_isWaiting_37 : decode cX11_isWaiting 37 = .ok (.goto 4, 3) := by decide +kernel
theorem dX11_isWaiting_40 : decode cX11_isWaiting 40 = .ok (.iconst 0, 1) := by decide +kernel
theorem dX11_isWaiting_41 : decode cX11_isWaiting 41 = .ok (.istore_n 3, 1) := by decide +kernel
theorem dX11_isWaiting_42 : decode cX11_isWaiting 42 = .ok (.iinc 4 1, 3) := by decide +kernel
theorem dX11_isWaiting_45 : decode cX11_isWaiting 45 = .ok (.goto (-40), 3) := by decide +kernel
theorem dX11_isWaiting_48 : decode cX11_isWaiting 48 = .ok (.iload_n 3, 1) := by decide +kernel
theorem dX11_isWaiting_49 : decode cX11_isWaiting 49 = .ok (.ireturn, 1) := by decide +kernel
theorem dX11_goesOn_0 : decode cX11_goesOn 0 = .ok (.aload_n 0, 1) := by decide +kernel
theorem dX11_goesOn_1 : decode cX11_goesOn 1 = .ok (.getfield 60, 3) := by decide +kernel
theorem dX11_goesOn_4 : decode cX11_goesOn 4 = .ok (.bipush 60, 2) := by decide +kernel
theorem dX11_goesOn_6 : decode cX11_goesOn 6 = .ok (.iload_n 1, 1) := by decide +kernel
theorem dX11_goesOn_7 : decode cX11_goesOn 7 = .ok (.imul, 1) := by decide +kernel
theorem dX11_goesOn_8 : decode cX11_goesOn 8 = .ok (.iaload, 1) := by decide +kernel
theorem dX11_goesOn_9 : decode cX11_goesOn 9 = .ok (.istore_n 2, 1) := by decide +kernel
theorem dX11_goesOn_10 : decode cX11_goesOn 10 = .ok (.aload_n 0, 1) := by decide +kernel
theorem dX11_goesOn_11 : decode cX11_goesOn 11 = .ok (.getfield 57, 3) := by decide +kernel
theorem dX11_goesOn_14 : decode cX11_goesOn 14 = .ok (.iload_n 1, 1) := by decide +kernel
theorem dX11_goesOn_15 : decode cX11_goesOn 15 = .ok (.dup2, 1) := by decide +kernel
theorem dX11_goesOn_16 : decode cX11_goesOn 16 = .ok (.iaload, 1) := by decide +kernel
theorem dX11_goesOn_17 : decode cX11_goesOn 17 = .ok (.iconst 1, 1) := by decide +kernel
theorem dX11_goesOn_18 : decode cX11_goesOn 18 = .ok (.isub, 1) := by decide +kernel
theorem dX11_goesOn_19 : decode cX11_goesOn 19 = .ok (.iastore, 1) := by decide +kernel
theorem dX11_goesOn_20 : decode cX11_goesOn 20 = .ok (.iconst 0, 1) := by decide +kernel
theorem dX11_goesOn_21 : decode cX11_goesOn 21 = .ok (.istore_n 3, 1) := by decide +kernel
theorem dX11_goesOn_22 : decode cX11_goesOn 22 = .ok (.iload_n 3, 1) := by decide +kernel
theorem dX11_goesOn_23 : decode cX11_goesOn 23 = .ok (.aload_n 0, 1) := by decide +kernel
theorem dX11_goesOn_24 : decode cX11_goesOn 24 = .ok (.getfield 57, 3) := by decide +kernel
theorem dX11_goesOn_27 : decode cX11_goesOn 27 = .ok (.iload_n 1, 1) := by decide +kernel
theorem dX11_goesOn_28 : decode cX11_goesOn 28 = .ok (.iaload, 1) := by decide +kernel
theorem dX11_goesOn_29 : decode cX11_goesOn 29 = .ok (.if_icmp .ge 33, 3) := by decide +kernel
theorem dX11_goesOn_32 : decode cX11_goesOn 32 = .ok (.aload_n 0, 1) := by decide +kernel
theorem dX11_goesOn_33 : decode cX11_goesOn 33 = .ok (.getfield 60, 3) := by decide +kernel
theorem dX11_goesOn_36 : decode cX11_goesOn 36 = .ok (.bipush 60, 2) := by decide +kernel
theorem dX11_goesOn_38 : decode cX11_goesOn 38 = .ok (.iload_n 1, 1) := by decide +kernel
theorem dX11_goesOn_39 : decode cX11_goesOn 39 = .ok (.imul, 1) := by decide +kernel
theorem dX11_goesOn_40 : decode cX11_goesOn 40 = .ok (.iload_n 3, 1) := by decide +kernel
theorem dX11_goesOn_41 : decode cX11_goesOn 41 = .ok (.iadd, 1) := by decide +kernel
theorem dX11_goesOn_42 : decode cX11_goesOn 42 = .ok (.aload_n 0, 1) := by decide +kernel
theorem dX11_goesOn_43 : decode cX11_goesOn 43 = .ok (.getfield 60, 3) := by decide +kernel
theorem dX11_goesOn_46 : decode cX11_goesOn 46 = .ok (.bipush 60, 2) := by decide +kernel
theorem dX11_goesOn_48 : decode cX11_goesOn 48 = .ok (.iload_n 1, 1) := by decide +kernel
theorem dX11_goesOn_49 : decode cX11_goesOn 49 = .ok (.imul, 1) := by decide +kernel
theorem dX11_goesOn_50 : decode cX11_goesOn 50 = .ok (.iload_n 3, 1) := by decide +kernel
theorem dX11_goesOn_51 : decode cX11_goesOn 51 = .ok (.iadd, 1) := by decide +kernel
theorem dX11_goesOn_52 : decode cX11_goesOn 52 = .ok (.iconst 1, 1) := by decide +kernel
theorem dX11_goesOn_53 : decode cX11_goesOn 53 = .ok (.iadd, 1) := by decide +kernel
theorem dX11_goesOn_54 : decode cX11_goesOn 54 = .ok (.iaload, 1) := by decide +kernel
theorem dX11_goesOn_55 : decode cX11_goesOn 55 = .ok (.iastore, 1) := by decide +kernel
theorem dX11_goesOn_56 : decode cX11_goesOn 56 = .ok (.iinc 3 1, 3) := by decide +kernel
theorem dX11_goesOn_59 : decode cX11_goesOn 59 = .ok (.goto (-37), 3) := by decide +kernel
theorem dX11_goesOn_62 : decode cX11_goesOn 62 = .ok (.aload_n 0, 1) := by decide +kernel
theorem dX11_goesOn_63 : decode cX11_goesOn 63 = .ok (.getfield 7, 3) := by decide +kernel
theorem dX11_goesOn_66 : decode cX11_goesOn 66 = .ok (.iload_n 2, 1) := by decide +kernel
theorem dX11_goesOn_67 : decode cX11_goesOn 67 = .ok (.baload, 1) := by decide +kernel
theorem dX11_goesOn_68 : decode cX11_goesOn 68 = .ok (.ifCond .eq 133, 3) := by decide +kernel
theorem dX11_goesOn_71 : decode cX11_goesOn 71 = .ok (.iload_n 2, 1) := by decide +kernel
theorem dX11_goesOn_72 : decode cX11_goesOn 72 = .ok (.aload_n 0, 1) := by decide +kernel
theorem dX11_goesOn_73 : decode cX11_goesOn 73 = .ok (.getfield 39, 3) := by decide +kernel
theorem dX11_goesOn_76 : decode cX11_goesOn 76 = .ok (.iload_n 1, 1) := by decide +kernel
theorem dX11_goesOn_77 : decode cX11_goesOn 77 = .ok (.iaload, 1) := by decide +kernel
theorem dX11_goesOn_78 : decode cX11_goesOn 78 = .ok (.if_icmp .eq 17, 3) := by decide +kernel
theorem dX11_goesOn_81 : decode cX11_goesOn 81 = .ok (.aload_n 0, 1) := by decide +kernel
theorem dX11_goesOn_82 : decode cX11_goesOn 82 = .ok (.iload_n 2, 1) := by decide +kernel
theorem dX11_goesOn_83 : decode cX11_goesOn 83 = .ok (.aload_n 0, 1) := by decide +kernel
theorem dX11_goesOn_84 : decode cX11_goesOn 84 = .ok (.getfield 39, 3) := by decide +kernel
theorem dX11_goesOn_87 : decode cX11_goesOn 87 = .ok (.iload_n 1, 1) := by decide +kernel
theorem dX11_goesOn_88 : decode cX11_goesOn 88 = .ok (.iaload, 1) := by decide +kernel
theorem dX11_goesOn_89 : decode cX11_goesOn 89 = .ok (.invokevirtual 135, 3) := by decide +kernel
theorem dX11_goesOn_92 : decode cX11_goesOn 92 = .ok (.ifCond .eq 109, 3) := by decide +kernel
theorem dX11_goesOn_95 : decode cX11_goesOn 95 = .ok (.iconst 0, 1) := by decide +kernel
theorem dX11_goesOn_96 : decode cX11_goesOn 96 = .ok (.istore_n 3, 1) := by decide +kernel
theorem dX11_goesOn_97 : decode cX11_goesOn 97 = .ok (.iload_n 3, 1) := by decide +kernel
theorem dX11_goesOn_98 : decode cX11_goesOn 98 = .ok (.aload_n 0, 1) := by decide +kernel
theorem dX11_goesOn_99 : decode cX11_goesOn 99 = .ok (.getfield 118, 3) := by decide +kernel
theorem dX11_goesOn_102 : decode cX11_goesOn 102 = .ok (.if_icmp .ge 99, 3) := by decide +kernel
theorem dX11_goesOn_105 : decode cX11_goesOn 105 = .ok (.aload_n 0, 1) := by decide +kernel
theorem dX11_goesOn_106 : decode cX11_goesOn 106 = .ok (.getfield 7, 3) := by decide +kernel
theorem dX11_goesOn_109 : decode cX11_goesOn 109 = .ok (.iload_n 3, 1) := by decide +kernel
theorem dX11_goesOn_110 : decode cX11_goesOn 110 = .ok (.baload, 1) := by decide +kernel
theorem dX11_goesOn_111 : decode cX11_goesOn 111 = .ok (.ifCond .eq 84, 3) := by decide +kernel
theorem dX11_goesOn_114 : decode cX11_goesOn 114 = .ok (.aload_n 0, 1) := by decide +kernel
theorem dX11_goesOn_115 : decode cX11_goesOn 115 = .ok (.getfield 16, 3) := by decide +kernel
theorem dX11_goesOn_118 : decode cX11_goesOn 118 = .ok (.iload_n 3, 1) := by decide +kernel
theorem dX11_goesOn_119 : decode cX11_goesOn 119 = .ok (.iaload, 1) := by decide +kernel
theorem dX11_goesOn_120 : decode cX11_goesOn 120 = .ok (.iload_n 2, 1) := by decide +kernel
theorem dX11_goesOn_121 : decode cX11_goesOn 121 = .ok (.if_icmp .ne 74, 3) := by decide +kernel
theorem dX11_goesOn_124 : decode cX11_goesOn 124 = .ok (.aload_n 0, 1) := by decide +kernel
theorem dX11_goesOn_125 : decode cX11_goesOn 125 = .ok (.getfield 63, 3) := by decide +kernel
theorem dX11_goesOn_128 : decode cX11_goesOn 128 = .ok (.bipush 60, 2) := by decide +kernel
theorem dX11_goesOn_130 : decode cX11_goesOn 130 = .ok (.iload_n 1, 1) := by decide +kernel
theorem dX11_goesOn_131 : decode cX11_goesOn 131 = .ok (.imul, 1) := by decide +kernel
theorem dX11_goesOn_132 : decode cX11_goesOn 132 = .ok (.iload_n 3, 1) := by decide +kernel
theorem dX11_goesOn_133 : decode cX11_goesOn 133 = .ok (.iadd, 1) := by decide +kernel
theorem dX11_goesOn_134 : decode cX11_goesOn 134 = .ok (.iconst 1, 1) := by decide +kernel
theorem dX11_goesOn_135 : decode cX11_goesOn 135 = .ok (.bastore, 1) := by decide +kernel
theorem dX11_goesOn_136 : decode cX11_goesOn 136 = .ok (.aload_n 0, 1) := by decide +kernel
theorem dX11_goesOn_137 : decode cX11_goesOn 137 = .ok (.iload_n 3, 1) := by decide +kernel
theorem dX11_goesOn_138 : decode cX11_goesOn 138 = .ok (.invokevirtual 213, 3) := by decide +kernel
theorem dX11_goesOn_141 : decode cX11_goesOn 141 = .ok (.ifCond .ne 9, 3) := by decide +kernel
theorem dX11_goesOn_144 : decode cX11_goesOn 144 = .ok (.aload_n 0, 1) := by decide +kernel
theorem dX11_goesOn_145 : decode cX11_goesOn 145 = .ok (.iload_n 3, 1) := by decide +kernel
theorem dX11_goesOn_146 : decode cX11_goesOn 146 = .ok (.iconst 1, 1) := by decide +kernel
theorem dX11_goesOn_147 : decode cX11_goesOn 147 = .ok (.invokevirtual 176, 3) := by decide +kernel
theorem dX11_goesOn_150 : decode cX11_goesOn 150 = .ok (.aload_n 0, 1) := by decide +kernel
theorem dX11_goesOn_151 : decode cX11_goesOn 151 = .ok (.getfield 13, 3) := by decide +kernel
theorem dX11_goesOn_154 : decode cX11_goesOn 154 = .ok (.iload_n 3, 1) := by decide +kernel
theorem dX11_goesOn_155 : decode cX11_goesOn 155 = .ok (.baload, 1) := by decide +kernel
theorem dX11_goesOn_156 : decode cX11_goesOn 156 = .ok (.ifCond .eq 39, 3) := by decide +kernel
theorem dX11_goesOn_159 : decode cX11_goesOn 159 = .ok (.aload_n 0, 1) := by decide +kernel
theorem dX11_goesOn_160 : decode cX11_goesOn 160 = .ok (.iload_n 1, 1) := by decide +kernel
theorem dX11_goesOn_161 : decode cX11_goesOn 161 = .ok (.iload_n 3, 1) := by decide +kernel
theorem dX11_goesOn_162 : decode cX11_goesOn 162 = .ok (.invokevirtual 216, 3) := by decide +kernel
theorem dX11_goesOn_165 : decode cX11_goesOn 165 = .ok (.ifCond .ne 30, 3) := by decide +kernel
theorem dX11_goesOn_168 : decode cX11_goesOn 168 = .ok (.aload_n 0, 1) := by decide +kernel
theorem dX11_goesOn_169 : decode cX11_goesOn 169 = .ok (.getfield 60, 3) := by decide +kernel
theorem dX11_goesOn_172 : decode cX11_goesOn 172 = .ok (.bipush 60, 2) := by decide +kernel
theorem dX11_goesOn_174 : decode cX11_goesOn 174 = .ok (.iload_n 1, 1) := by decide +kernel
theorem dX11_goesOn_175 : decode cX11_goesOn 175 = .ok (.imul, 1) := by decide +kernel
theorem dX11_goesOn_176 : decode cX11_goesOn 176 = .ok (.aload_n 0, 1) := by decide +kernel
theorem dX11_goesOn_177 : decode cX11_goesOn 177 = .ok (.getfield 57, 3) := by decide +kernel
theorem dX11_goesOn_180 : decode cX11_goesOn 180 = .ok (.iload_n 1, 1) := by decide +kernel
theorem dX11_goesOn_181 : decode cX11_goesOn 181 = .ok (.iaload, 1) := by decide +kernel
theorem dX11_goesOn_182 : decode cX11_goesOn 182 = .ok (.iadd, 1) := by decide +kernel
theorem dX11_goesOn_183 : decode cX11_goesOn 183 = .ok (.iload_n 3, 1) := by decide +kernel
theorem dX11_goesOn_184 : decode cX11_goesOn 184 = .ok (.iastore, 1) := by decide +kernel
theorem dX11_goesOn_185 : decode cX11_goesOn 185 = .ok (.aload_n 0, 1) := by decide +kernel
theorem dX11_goesOn_186 : decode cX11_goesOn 186 = .ok (.getfield 57, 3) := by decide +kernel
theorem dX11_goesOn_189 : decode cX11_goesOn 189 = .ok (.iload_n 1, 1) := by decide +kernel
theorem dX11_goesOn_190 : decode cX11_goesOn 190 = .ok (.dup2, 1) := by decide +kernel
theorem dX11_goesOn_191 : decode cX11_goesOn 191 = .ok (.iaload, 1) := by decide +kernel
theorem dX11_goesOn_192 : decode cX11_goesOn 192 = .ok (.iconst 1, 1) := by decide +kernel
theorem dX11_goesOn_193 : decode cX11_goesOn 193 = .ok (.iadd, 1) := by decide +kernel
theorem dX11_goesOn_194 : decode cX11_goesOn 194 = .ok (.iastore, 1) := by decide +kernel
theorem dX11_goesOn_195 : decode cX11_goesOn 195 = .ok (.iinc 3 1, 3) := by decide +kernel
theorem dX11_goesOn_198 : decode cX11_goesOn 198 = .ok (.goto (-101), 3) := by decide +kernel
theorem dX11_goesOn_201 : decode cX11_goesOn 201 = .ok (.aload_n 0, 1) := by decide +kernel
theorem dX11_goesOn_202 : decode cX11_goesOn 202 = .ok (.getfield 57, 3) := by decide +kernel
theorem dX11_goesOn_205 : decode cX11_goesOn 205 = .ok (.iload_n 1, 1) := by decide +kernel
theorem dX11_goesOn_206 : decode cX11_goesOn 206 = .ok (.iaload, 1) := by decide +kernel
theorem dX11_goesOn_207 : decode cX11_goesOn 207 = .ok (.ifCond .ne 55, 3) := by decide +kernel
theorem dX11_goesOn_210 : decode cX11_goesOn 210 = .ok (.aload_n 0, 1) := by decide +kernel
theorem dX11_goesOn_211 : decode cX11_goesOn 211 = .ok (.getfield 54, 3) := by decide +kernel
theorem dX11_goesOn_214 : decode cX11_goesOn 214 = .ok (.iload_n 1, 1) := by decide +kernel
theorem dX11_goesOn_215 : decode cX11_goesOn 215 = .ok (.iconst 0, 1) := by decide +kernel
theorem dX11_goesOn_216 : decode cX11_goesOn 216 = .ok (.bastore, 1) := by decide +kernel
theorem dX11_goesOn_217 : decode cX11_goesOn 217 = .ok (.iconst 0, 1) := by decide +kernel
theorem dX11_goesOn_218 : decode cX11_goesOn 218 = .ok (.istore_n 3, 1) := by decide +kernel
theorem dX11_goesOn_219 : decode cX11_goesOn 219 = .ok (.iload_n 3, 1) := by decide +kernel
theorem dX11_goesOn_220 : decode cX11_goesOn 220 = .ok (.aload_n 0, 1) := by decide +kernel
theorem dX11_goesOn_221 : decode cX11_goesOn 221 = .ok (.getfield 118, 3) := by decide +kernel
theorem dX11_goesOn_224 : decode cX11_goesOn 224 = .ok (.if_icmp .ge 38, 3) := by decide +kernel
theorem dX11_goesOn_227 : decode cX11_goesOn 227 = .ok (.aload_n 0, 1) := by decide +kernel
theorem dX11_goesOn_228 : decode cX11_goesOn 228 = .ok (.getfield 66, 3) := by decide +kernel
theorem dX11_goesOn_231 : decode cX11_goesOn 231 = .ok (.iload_n 3, 1) := by decide +kernel
theorem dX11_goesOn_232 : decode cX11_goesOn 232 = .ok (.baload, 1) := by decide +kernel
theorem dX11_goesOn_233 : decode cX11_goesOn 233 = .ok (.ifCond .eq 23, 3) := by decide +kernel
theorem dX11_goesOn_236 : decode cX11_goesOn 236 = .ok (.aload_n 0, 1) := by decide +kernel
theorem dX11_goesOn_237 : decode cX11_goesOn 237 = .ok (.getfield 63, 3) := by decide +kernel
theorem dX11_goesOn_240 : decode cX11_goesOn 240 = .ok (.bipush 60, 2) := by decide +kernel
theorem dX11_goesOn_242 : decode cX11_goesOn 242 = .ok (.iload_n 1, 1) := by decide +kernel
theorem dX11_goesOn_243 : decode cX11_goesOn 243 = .ok (.imul, 1) := by decide +kernel
theorem dX11_goesOn_244 : decode cX11_goesOn 244 = .ok (.iload_n 3, 1) := by decide +kernel
theorem dX11_goesOn_245 : decode cX11_goesOn 245 = .ok (.iadd, 1) := by decide +kernel
theorem dX11_goesOn_246 : decode cX11_goesOn 246 = .ok (.baload, 1) := by decide +kernel
theorem dX11_goesOn_247 : decode cX11_goesOn 247 = .ok (.ifCond .ne 9, 3) := by decide +kernel
theorem dX11_goesOn_250 : decode cX11_goesOn 250 = .ok (.aload_n 0, 1) := by decide +kernel
theorem dX11_goesOn_251 : decode cX11_goesOn 251 = .ok (.iload_n 3, 1) := by decide +kernel
theorem dX11_goesOn_252 : decode cX11_goesOn 252 = .ok (.iconst 1, 1) := by decide +kernel
theorem dX11_goesOn_253 : decode cX11_goesOn 253 = .ok (.invokevirtual 176, 3) := by decide +kernel
theorem dX11_goesOn_256 : decode cX11_goesOn 256 = .ok (.iinc 3 1, 3) := by decide +kernel
theorem dX11_goesOn_259 : decode cX11_goesOn 259 = .ok (.goto (-40), 3) := by decide +kernel
theorem dX11_goesOn_262 : decode cX11_goesOn 262 = .ok (.return_, 1) := by decide +kernel
theorem dX11_firstNoticed_0 : decode cX11_firstNoticed 0 = .ok (.iconst (-1), 1) := by decide +kernel
theorem dX11_firstNoticed_1 : decode cX11_firstNoticed 1 = .ok (.istore_n 1, 1) := by decide +kernel
theorem dX11_firstNoticed_2 : decode cX11_firstNoticed 2 = .ok (.aload_n 0, 1) := by decide +kernel
theorem dX11_firstNoticed_3 : decode cX11_firstNoticed 3 = .ok (.getfield 132, 3) := by decide +kernel
theorem dX11_firstNoticed_6 : decode cX11_firstNoticed 6 = .ok (.iconst 1, 1) := by decide +kernel
theorem dX11_firstNoticed_7 : decode cX11_firstNoticed 7 = .ok (.isub, 1) := by decide +kernel
theorem dX11_firstNoticed_8 : decode cX11_firstNoticed 8 = .ok (.istore_n 2, 1) := by decide +kernel
theorem dX11_firstNoticed_9 : decode cX11_firstNoticed 9 = .ok (.iload_n 2, 1) := by decide +kernel
theorem dX11_firstNoticed_10 : decode cX11_firstNoticed 10 = .ok (.ifCond .lt 33, 3) := by decide +kernel
theorem dX11_firstNoticed_13 : decode cX11_firstNoticed 13 = .ok (.aload_n 0, 1) := by decide +kernel
theorem dX11_firstNoticed_14 : decode cX11_firstNoticed 14 = .ok (.getfield 51, 3) := by decide +kernel
theorem dX11_firstNoticed_17 : decode cX11_firstNoticed 17 = .ok (.iload_n 2, 1) := by decide +kernel
theorem dX11_firstNoticed_18 : decode cX11_firstNoticed 18 = .ok (.baload, 1) := by decide +kernel
theorem dX11_firstNoticed_19 : decode cX11_firstNoticed 19 = .ok (.ifCond .ne 12, 3) := by decide +kernel
theorem dX11_firstNoticed_22 : decode cX11_firstNoticed 22 = .ok (.aload_n 0, 1) := by decide +kernel
theorem dX11_firstNoticed_23 : decode cX11_firstNoticed 23 = .ok (.getfield 42, 3) := by decide +kernel
theorem dX11_firstNoticed_26 : decode cX11_firstNoticed 26 = .ok (.iload_n 2, 1) := by decide +kernel
theorem dX11_firstNoticed_27 : decode cX11_firstNoticed 27 = .ok (.iaload, 1) := by decide +kernel
theorem dX11_firstNoticed_28 : decode cX11_firstNoticed 28 = .ok (.ifCond .le 7, 3) := by decide +kernel
theorem dX11_firstNoticed_31 : decode cX11_firstNoticed 31 = .ok (.iload_n 2, 1) := by decide +kernel
theorem dX11_firstNoticed_32 : decode cX11_firstNoticed 32 = .ok (.goto 4, 3) := by decide +kernel
theorem dX11_firstNoticed_35 : decode cX11_firstNoticed 35 = .ok (.iload_n 1, 1) := by decide +kernel
theorem dX11_firstNoticed_36 : decode cX11_firstNoticed 36 = .ok (.istore_n 1, 1) := by decide +kernel
theorem dX11_firstNoticed_37 : decode cX11_firstNoticed 37 = .ok (.iinc 2 (-1), 3) := by decide +kernel
theorem dX11_firstNoticed_40 : decode cX11_firstNoticed 40 = .ok (.goto (-31), 3) := by decide +kernel
theorem dX11_firstNoticed_43 : decode cX11_firstNoticed 43 = .ok (.iload_n 1, 1) := by decide +kernel
theorem dX11_firstNoticed_44 : decode cX11_firstNoticed 44 = .ok (.ireturn, 1) := by decide +kernel
theorem dX11_firstCrawl_0 : decode cX11_firstCrawl 0 = .ok (.iconst (-1), 1) := by decide +kernel
theorem dX11_firstCrawl_1 : decode cX11_firstCrawl 1 = .ok (.istore_n 1, 1) := by decide +kernel
theorem dX11_firstCrawl_2 : decode cX11_firstCrawl 2 = .ok (.aload_n 0, 1) := by decide +kernel
theorem dX11_firstCrawl_3 : decode cX11_firstCrawl 3 = .ok (.getfield 132, 3) := by decide +kernel
theorem dX11_firstCrawl_6 : decode cX11_firstCrawl 6 = .ok (.iconst 1, 1) := by decide +kernel
theorem dX11_firstCrawl_7 : decode cX11_firstCrawl 7 = .ok (.isub, 1) := by decide +kernel
theorem dX11_firstCrawl_8 : decode cX11_firstCrawl 8 = .ok (.istore_n 2, 1) := by decide +kernel
theorem dX11_firstCrawl_9 : decode cX11_firstCrawl 9 = .ok (.iload_n 2, 1) := by decide +kernel
theorem dX11_firstCrawl_10 : decode cX11_firstCrawl 10 = .ok (.ifCond .lt 24, 3) := by decide +kernel
theorem dX11_firstCrawl_13 : decode cX11_firstCrawl 13 = .ok (.aload_n 0, 1) := by decide +kernel
theorem dX11_firstCrawl_14 : decode cX11_firstCrawl 14 = .ok (.getfield 54, 3) := by decide +kernel
theorem dX11_firstCrawl_17 : decode cX11_firstCrawl 17 = .ok (.iload_n 2, 1) := by decide +kernel
theorem dX11_firstCrawl_18 : decode cX11_firstCrawl 18 = .ok (.baload, 1) := by decide +kernel
theorem dX11_firstCrawl_19 : decode cX11_firstCrawl 19 = .ok (.ifCond .eq 7, 3) := by decide +kernel
theorem dX11_firstCrawl_22 : decode cX11_firstCrawl 22 = .ok (.iload_n 2, 1) := by decide +kernel
theorem dX11_firstCrawl_23 : decode cX11_firstCrawl 23 = .ok (.goto 4, 3) := by decide +kernel
theorem dX11_firstCrawl_26 : decode cX11_firstCrawl 26 = .ok (.iload_n 1, 1) := by decide +kernel
theorem dX11_firstCrawl_27 : decode cX11_firstCrawl 27 = .ok (.istore_n 1, 1) := by decide +kernel
theorem dX11_firstCrawl_28 : decode cX11_firstCrawl 28 = .ok (.iinc 2 (-1), 3) := by decide +kernel
theorem dX11_firstCrawl_31 : decode cX11_firstCrawl 31 = .ok (.goto (-22), 3) := by decide +kernel
theorem dX11_firstCrawl_34 : decode cX11_firstCrawl 34 = .ok (.iload_n 1, 1) := by decide +kernel
theorem dX11_firstCrawl_35 : decode cX11_firstCrawl 35 = .ok (.ireturn, 1) := by decide +kernel
theorem dX11_notes_0 : decode cX11_notes 0 = .ok (.aload_n 0, 1) := by decide +kernel
theorem dX11_notes_1 : decode cX11_notes 1 = .ok (.getfield 51, 3) := by decide +kernel
theorem dX11_notes_4 : decode cX11_notes 4 = .ok (.iload_n 1, 1) := by decide +kernel
theorem dX11_notes_5 : decode cX11_notes 5 = .ok (.baload, 1) := by decide +kernel
theorem dX11_notes_6 : decode cX11_notes 6 = .ok (.ifCond .eq 16, 3) := by decide +kernel
theorem dX11_notes_9 : decode cX11_notes 9 = .ok (.aload_n 0, 1) := by decide +kernel
theorem dX11_notes_10 : decode cX11_notes 10 = .ok (.getfield 51, 3) := by decide +kernel
theorem dX11_notes_13 : decode cX11_notes 13 = .ok (.iload_n 1, 1) := by decide +kernel
theorem dX11_notes_14 : decode cX11_notes 14 = .ok (.iconst 0, 1) := by decide +kernel
theorem dX11_notes_15 : decode cX11_notes 15 = .ok (.bastore, 1) := by decide +kernel
theorem dX11_notes_16 : decode cX11_notes 16 = .ok (.aload_n 0, 1) := by decide +kernel
theorem dX11_notes_17 : decode cX11_notes 17 = .ok (.iload_n 1, 1) := by decide +kernel
theorem dX11_notes_18 : decode cX11_notes 18 = .ok (.invokevirtual 180, 3) := by decide +kernel
theorem dX11_notes_21 : decode cX11_notes 21 = .ok (.return_, 1) := by decide +kernel
theorem dX11_notes_22 : decode cX11_notes 22 = .ok (.aload_n 0, 1) := by decide +kernel
theorem dX11_notes_23 : decode cX11_notes 23 = .ok (.aload_n 0, 1) := by decide +kernel
theorem dX11_notes_24 : decode cX11_notes 24 = .ok (.getfield 48, 3) := by decide +kernel
theorem dX11_notes_27 : decode cX11_notes 27 = .ok (.bipush 8, 2) := by decide +kernel
theorem dX11_notes_29 : decode cX11_notes 29 = .ok (.iload_n 1, 1) := by decide +kernel
theorem dX11_notes_30 : decode cX11_notes 30 = .ok (.imul, 1) := by decide +kernel
theorem dX11_notes_31 : decode cX11_notes 31 = .ok (.iaload, 1) := by decide +kernel
theorem dX11_notes_32 : decode cX11_notes 32 = .ok (.aload_n 0, 1) := by decide +kernel
theorem dX11_notes_33 : decode cX11_notes 33 = .ok (.getfield 45, 3) := by decide +kernel
theorem dX11_notes_36 : decode cX11_notes 36 = .ok (.bipush 8, 2) := by decide +kernel
theorem dX11_notes_38 : decode cX11_notes 38 = .ok (.iload_n 1, 1) := by decide +kernel
theorem dX11_notes_39 : decode cX11_notes 39 = .ok (.imul, 1) := by decide +kernel
theorem dX11_notes_40 : decode cX11_notes 40 = .ok (.iaload, 1) := by decide +kernel
theorem dX11_notes_41 : decode cX11_notes 41 = .ok (.iconst 2, 1) := by decide +kernel
theorem dX11_notes_42 : decode cX11_notes 42 = .ok (.if_icmp .ne 7, 3) := by decide +kernel
theorem dX11_notes_45 : decode cX11_notes 45 = .ok (.iconst 2, 1) := by decide +kernel
theorem dX11_notes_46 : decode cX11_notes 46 = .ok (.goto 4, 3) := by decide +kernel
theorem dX11_notes_49 : decode cX11_notes 49 = .ok (.iconst 1, 1) := by decide +kernel
theorem dX11_notes_50 : decode cX11_notes 50 = .ok (.invokevirtual 176, 3) := by decide +kernel
theorem dX11_notes_53 : decode cX11_notes 53 = .ok (.aload_n 0, 1) := by decide +kernel
theorem dX11_notes_54 : decode cX11_notes 54 = .ok (.getfield 42, 3) := by decide +kernel
theorem dX11_notes_57 : decode cX11_notes 57 = .ok (.iload_n 1, 1) := by decide +kernel
theorem dX11_notes_58 : decode cX11_notes 58 = .ok (.dup2, 1) := by decide +kernel
theorem dX11_notes_59 : decode cX11_notes 59 = .ok (.iaload, 1) := by decide +kernel
theorem dX11_notes_60 : decode cX11_notes 60 = .ok (.iconst 1, 1) := by decide +kernel
theorem dX11_notes_61 : decode cX11_notes 61 = .ok (.isub, 1) := by decide +kernel
theorem dX11_notes_62 : decode cX11_notes 62 = .ok (.iastore, 1) := by decide +kernel
theorem dX11_notes_63 : decode cX11_notes 63 = .ok (.iconst 0, 1) := by decide +kernel
theorem dX11_notes_64 : decode cX11_notes 64 = .ok (.istore_n 2, 1) := by decide +kernel
theorem dX11_notes_65 : decode cX11_notes 65 = .ok (.iload_n 2, 1) := by decide +kernel
theorem dX11_notes_66 : decode cX11_notes 66 = .ok (.aload_n 0, 1) := by decide +kernel
theorem dX11_notes_67 : decode cX11_notes 67 = .ok (.getfield 42, 3) := by decide +kernel
theorem dX11_notes_70 : decode cX11_notes 70 = .ok (.iload_n 1, 1) := by decide +kernel
theorem dX11_notes_71 : decode cX11_notes 71 = .ok (.iaload, 1) := by decide +kernel
theorem dX11_notes_72 : decode cX11_notes 72 = .ok (.if_icmp .ge 57, 3) := by decide +kernel
theorem dX11_notes_75 : decode cX11_notes 75 = .ok (.aload_n 0, 1) := by decide +kernel
theorem dX11_notes_76 : decode cX11_notes 76 = .ok (.getfield 45, 3) := by decide +kernel
theorem dX11_notes_79 : decode cX11_notes 79 = .ok (.bipush 8, 2) := by decide +kernel
theorem dX11_notes_81 : decode cX11_notes 81 = .ok (.iload_n 1, 1) := by decide +kernel
theorem dX11_notes_82 : decode cX11_notes 82 = .ok (.imul, 1) := by decide +kernel
theorem dX11_notes_83 : decode cX11_notes 83 = .ok (.iload_n 2, 1) := by decide +kernel
theorem dX11_notes_84 : decode cX11_notes 84 = .ok (.iadd, 1) := by decide +kernel
theorem dX11_notes_85 : decode cX11_notes 85 = .ok (.aload_n 0, 1) := by decide +kernel
theorem dX11_notes_86 : decode cX11_notes 86 = .ok (.getfield 45, 3) := by decide +kernel
theorem dX11_notes_89 : decode cX11_notes 89 = .ok (.bipush 8, 2) := by decide +kernel
theorem dX11_notes_91 : decode cX11_notes 91 = .ok (.iload_n 1, 1) := by decide +kernel
theorem dX11_notes_92 : decode cX11_notes 92 = .ok (.imul, 1) := by decide +kernel
theorem dX11_notes_93 : decode cX11_notes 93 = .ok (.iload_n 2, 1) := by decide +kernel
theorem dX11_notes_94 : decode cX11_notes 94 = .ok (.iadd, 1) := by decide +kernel
theorem dX11_notes_95 : decode cX11_notes 95 = .ok (.iconst 1, 1) := by decide +kernel
theorem dX11_notes_96 : decode cX11_notes 96 = .ok (.iadd, 1) := by decide +kernel
theorem dX11_notes_97 : decode cX11_notes 97 = .ok (.iaload, 1) := by decide +kernel
theorem dX11_notes_98 : decode cX11_notes 98 = .ok (.iastore, 1) := by decide +kernel
theorem dX11_notes_99 : decode cX11_notes 99 = .ok (.aload_n 0, 1) := by decide +kernel
theorem dX11_notes_100 : decode cX11_notes 100 = .ok (.getfield 48, 3) := by decide +kernel
theorem dX11_notes_103 : decode cX11_notes 103 = .ok (.bipush 8, 2) := by decide +kernel
theorem dX11_notes_105 : decode cX11_notes 105 = .ok (.iload_n 1, 1) := by decide +kernel
theorem dX11_notes_106 : decode cX11_notes 106 = .ok (.imul, 1) := by decide +kernel
theorem dX11_notes_107 : decode cX11_notes 107 = .ok (.iload_n 2, 1) := by decide +kernel
theorem dX11_notes_108 : decode cX11_notes 108 = .ok (.iadd, 1) := by decide +kernel
theorem dX11_notes_109 : decode cX11_notes 109 = .ok (.aload_n 0, 1) := by decide +kernel
theorem dX11_notes_110 : decode cX11_notes 110 = .ok (.getfield 48, 3) := by decide +kernel
theorem dX11_notes_113 : decode cX11_notes 113 = .ok (.bipush 8, 2) := by decide +kernel
theorem dX11_notes_115 : decode cX11_notes 115 = .ok (.iload_n 1, 1) := by decide +kernel
theorem dX11_notes_116 : decode cX11_notes 116 = .ok (.imul, 1) := by decide +kernel
theorem dX11_notes_117 : decode cX11_notes 117 = .ok (.iload_n 2, 1) := by decide +kernel
theorem dX11_notes_118 : decode cX11_notes 118 = .ok (.iadd, 1) := by decide +kernel
theorem dX11_notes_119 : decode cX11_notes 119 = .ok (.iconst 1, 1) := by decide +kernel
theorem dX11_notes_120 : decode cX11_notes 120 = .ok (.iadd, 1) := by decide +kernel
theorem dX11_notes_121 : decode cX11_notes 121 = .ok (.iaload, 1) := by decide +kernel
theorem dX11_notes_122 : decode cX11_notes 122 = .ok (.iastore, 1) := by decide +kernel
theorem dX11_notes_123 : decode cX11_notes 123 = .ok (.iinc 2 1, 3) := by decide +kernel
theorem dX11_notes_126 : decode cX11_notes 126 = .ok (.goto (-61), 3) := by decide +kernel
theorem dX11_notes_129 : decode cX11_notes 129 = .ok (.return_, 1) := by decide +kernel
theorem dX11_does_0 : decode cX11_does 0 = .ok (.aload_n 0, 1) := by decide +kernel
theorem dX11_does_1 : decode cX11_does 1 = .ok (.invokevirtual 219, 3) := by decide +kernel
theorem dX11_does_4 : decode cX11_does 4 = .ok (.istore_n 2, 1) := by decide +kernel
theorem dX11_does_5 : decode cX11_does 5 = .ok (.aload_n 0, 1) := by decide +kernel
theorem dX11_does_6 : decode cX11_does 6 = .ok (.invokevirtual 223, 3) := by decide +kernel
theorem dX11_does_9 : decode cX11_does 9 = .ok (.istore_n 3, 1) := by decide +kernel
theorem dX11_does_10 : decode cX11_does 10 = .ok (.aload_n 0, 1) := by decide +kernel
theorem dX11_does_11 : decode cX11_does 11 = .ok (.invokevirtual 226, 3) := by decide +kernel
theorem dX11_does_14 : decode cX11_does 14 = .ok (.istore 4, 2) := by decide +kernel
theorem dX11_does_16 : decode cX11_does 16 = .ok (.iload_n 2, 1) := by decide +kernel
theorem dX11_does_17 : decode cX11_does 17 = .ok (.iconst (-1), 1) := by decide +kernel
theorem dX11_does_18 : decode cX11_does 18 = .ok (.if_icmp .ne 16, 3) := by decide +kernel
theorem dX11_does_21 : decode cX11_does 21 = .ok (.iload_n 3, 1) := by decide +kernel
theorem dX11_does_22 : decode cX11_does 22 = .ok (.iconst (-1), 1) := by decide +kernel
theorem dX11_does_23 : decode cX11_does 23 = .ok (.if_icmp .eq 11, 3) := by decide +kernel
theorem dX11_does_26 : decode cX11_does 26 = .ok (.aload_n 0, 1) := by decide +kernel
theorem dX11_does_27 : decode cX11_does 27 = .ok (.iload_n 3, 1) := by decide +kernel
theorem dX11_does_28 : decode cX11_does 28 = .ok (.invokevirtual 229, 3) := by decide +kernel
theorem dX11_does_31 : decode cX11_does 31 = .ok (.goto 4, 3) := by decide +kernel
theorem dX11_does_34 : decode cX11_does 34 = .ok (.iconst 1, 1) := by decide +kernel
theorem dX11_does_35 : decode cX11_does 35 = .ok (.istore 5, 2) := by decide +kernel
theorem dX11_does_37 : decode cX11_does 37 = .ok (.iload 5, 2) := by decide +kernel
theorem dX11_does_39 : decode cX11_does 39 = .ok (.iload_n 1, 1) := by decide +kernel
theorem dX11_does_40 : decode cX11_does 40 = .ok (.if_icmp .gt 19, 3) := by decide +kernel
theorem dX11_does_43 : decode cX11_does 43 = .ok (.iload_n 2, 1) := by decide +kernel
theorem dX11_does_44 : decode cX11_does 44 = .ok (.iconst (-1), 1) := by decide +kernel
theorem dX11_does_45 : decode cX11_does 45 = .ok (.if_icmp .ne 16, 3) := by decide +kernel
theorem dX11_does_48 : decode cX11_does 48 = .ok (.iload_n 3, 1) := by decide +kernel
theorem dX11_does_49 : decode cX11_does 49 = .ok (.iconst (-1), 1) := by decide +kernel
theorem dX11_does_50 : decode cX11_does 50 = .ok (.if_icmp .ne 11, 3) := by decide +kernel
theorem dX11_does_53 : decode cX11_does 53 = .ok (.iload 4, 2) := by decide +kernel
theorem dX11_does_55 : decode cX11_does 55 = .ok (.iconst (-1), 1) := by decide +kernel
theorem dX11_does_56 : decode cX11_does 56 = .ok (.if_icmp .ne 5, 3) := by decide +kernel
theorem dX11_does_59 : decode cX11_does 59 = .ok (.iconst 0, 1) := by decide +kernel
theorem dX11_does_60 : decode cX11_does 60 = .ok (.ireturn, 1) := by decide +kernel
theorem dX11_does_61 : decode cX11_does 61 = .ok (.iload_n 2, 1) := by decide +kernel
theorem dX11_does_62 : decode cX11_does 62 = .ok (.iconst (-1), 1) := by decide +kernel
theorem dX11_does_63 : decode cX11_does 63 = .ok (.if_icmp .eq 11, 3) := by decide +kernel
theorem dX11_does_66 : decode cX11_does 66 = .ok (.aload_n 0, 1) := by decide +kernel
theorem dX11_does_67 : decode cX11_does 67 = .ok (.iload_n 2, 1) := by decide +kernel
theorem dX11_does_68 : decode cX11_does 68 = .ok (.invokevirtual 232, 3) := by decide +kernel
theorem dX11_does_71 : decode cX11_does 71 = .ok (.goto 22, 3) := by decide +kernel
theorem dX11_does_74 : decode cX11_does 74 = .ok (.iload_n 3, 1) := by decide +kernel
theorem dX11_does_75 : decode cX11_does 75 = .ok (.iconst (-1), 1) := by decide +kernel
theorem dX11_does_76 : decode cX11_does 76 = .ok (.if_icmp .eq 11, 3) := by decide +kernel
theorem dX11_does_79 : decode cX11_does 79 = .ok (.aload_n 0, 1) := by decide +kernel
theorem dX11_does_80 : decode cX11_does 80 = .ok (.iload_n 3, 1) := by decide +kernel
theorem dX11_does_81 : decode cX11_does 81 = .ok (.invokevirtual 235, 3) := by decide +kernel
theorem dX11_does_84 : decode cX11_does 84 = .ok (.goto 9, 3) := by decide +kernel
theorem dX11_does_87 : decode cX11_does 87 = .ok (.aload_n 0, 1) := by decide +kernel
theorem dX11_does_88 : decode cX11_does 88 = .ok (.iload 4, 2) := by decide +kernel
theorem dX11_does_90 : decode cX11_does 90 = .ok (.invokevirtual 238, 3) := by decide +kernel
theorem dX11_does_93 : decode cX11_does 93 = .ok (.iload 5, 2) := by decide +kernel
theorem dX11_does_95 : decode cX11_does 95 = .ok (.ireturn, 1) := by decide +kernel
theorem dX11_pass_0 : decode cX11_pass 0 = .ok (.aload_n 0, 1) := by decide +kernel
theorem dX11_pass_1 : decode cX11_pass 1 = .ok (.iload_n 1, 1) := by decide +kernel
theorem dX11_pass_2 : decode cX11_pass 2 = .ok (.iconst 1, 1) := by decide +kernel
theorem dX11_pass_3 : decode cX11_pass 3 = .ok (.sipush 1000, 3) := by decide +kernel
theorem dX11_pass_6 : decode cX11_pass 6 = .ok (.invokestatic 124, 3) := by decide +kernel
theorem dX11_pass_9 : decode cX11_pass 9 = .ok (.ifCond .ne 7, 3) := by decide +kernel
theorem dX11_pass_12 : decode cX11_pass 12 = .ok (.iconst 1, 1) := by decide +kernel
theorem dX11_pass_13 : decode cX11_pass 13 = .ok (.goto 19, 3) := by decide +kernel
theorem dX11_pass_16 : decode cX11_pass 16 = .ok (.aload_n 0, 1) := by decide +kernel
theorem dX11_pass_17 : decode cX11_pass 17 = .ok (.getfield 241, 3) := by decide +kernel
theorem dX11_pass_20 : decode cX11_pass 20 = .ok (.iload_n 1, 1) := by decide +kernel
theorem dX11_pass_21 : decode cX11_pass 21 = .ok (.iadd, 1) := by decide +kernel
theorem dX11_pass_22 : decode cX11_pass 22 = .ok (.ldc 244, 2) := by decide +kernel
theorem dX11_pass_24 : decode cX11_pass 24 = .ok (.if_icmp .le 7, 3) := by decide +kernel
theorem dX11_pass_27 : decode cX11_pass 27 = .ok (.iconst 2, 1) := by decide +kernel
theorem dX11_pass_28 : decode cX11_pass 28 = .ok (.goto 4, 3) := by decide +kernel
theorem dX11_pass_31 : decode cX11_pass 31 = .ok (.iconst 0, 1) := by decide +kernel
theorem dX11_pass_32 : decode cX11_pass 32 = .ok (.putfield 121, 3) := by decide +kernel
theorem dX11_pass_35 : decode cX11_pass 35 = .ok (.aload_n 0, 1) := by decide +kernel
theorem dX11_pass_36 : decode cX11_pass 36 = .ok (.dup, 1) := by decide +kernel
theorem dX11_pass_37 : decode cX11_pass 37 = .ok (.getfield 241, 3) := by decide +kernel
theorem dX11_pass_40 : decode cX11_pass 40 = .ok (.aload_n 0, 1) := by decide +kernel
theorem dX11_pass_41 : decode cX11_pass 41 = .ok (.getfield 121, 3) := by decide +kernel
theorem dX11_pass_44 : decode cX11_pass 44 = .ok (.ifCond .ne 7, 3) := by decide +kernel
theorem dX11_pass_47 : decode cX11_pass 47 = .ok (.iload_n 1, 1) := by decide +kernel
theorem dX11_pass_48 : decode cX11_pass 48 = .ok (.goto 4, 3) := by decide +kernel
theorem dX11_pass_51 : decode cX11_pass 51 = .ok (.iconst 0, 1) := by decide +kernel
theorem dX11_pass_52 : decode cX11_pass 52 = .ok (.iadd, 1) := by decide +kernel
theorem dX11_pass_53 : decode cX11_pass 53 = .ok (.putfield 241, 3) := by decide +kernel
theorem dX11_pass_56 : decode cX11_pass 56 = .ok (.aload_n 0, 1) := by decide +kernel
theorem dX11_pass_57 : decode cX11_pass 57 = .ok (.getfield 121, 3) := by decide +kernel
theorem dX11_pass_60 : decode cX11_pass 60 = .ok (.ifCond .le 7, 3) := by decide +kernel
theorem dX11_pass_63 : decode cX11_pass 63 = .ok (.iconst 0, 1) := by decide +kernel
theorem dX11_pass_64 : decode cX11_pass 64 = .ok (.goto 7, 3) := by decide +kernel
theorem dX11_pass_67 : decode cX11_pass 67 = .ok (.aload_n 0, 1) := by decide +kernel
theorem dX11_pass_68 : decode cX11_pass 68 = .ok (.getfield 241, 3) := by decide +kernel
theorem dX11_pass_71 : decode cX11_pass 71 = .ok (.ireturn, 1) := by decide +kernel
theorem dX11_battery_0 : decode cX11_battery 0 = .ok (.aload_n 0, 1) := by decide +kernel
theorem dX11_battery_1 : decode cX11_battery 1 = .ok (.iconst 0, 1) := by decide +kernel
theorem dX11_battery_2 : decode cX11_battery 2 = .ok (.putfield 121, 3) := by decide +kernel
theorem dX11_battery_5 : decode cX11_battery 5 = .ok (.aload_n 0, 1) := by decide +kernel
theorem dX11_battery_6 : decode cX11_battery 6 = .ok (.getfield 245, 3) := by decide +kernel
theorem dX11_battery_9 : decode cX11_battery 9 = .ok (.istore_n 2, 1) := by decide +kernel
theorem dX11_battery_10 : decode cX11_battery 10 = .ok (.aload_n 0, 1) := by decide +kernel
theorem dX11_battery_11 : decode cX11_battery 11 = .ok (.iload_n 1, 1) := by decide +kernel
theorem dX11_battery_12 : decode cX11_battery 12 = .ok (.putfield 245, 3) := by decide +kernel
theorem dX11_battery_15 : decode cX11_battery 15 = .ok (.iload_n 2, 1) := by decide +kernel
theorem dX11_battery_16 : decode cX11_battery 16 = .ok (.ireturn, 1) := by decide +kernel
theorem dX11_limits_0 : decode cX11_limits 0 = .ok (.aload_n 0, 1) := by decide +kernel
theorem dX11_limits_1 : decode cX11_limits 1 = .ok (.iload_n 1, 1) := by decide +kernel
theorem dX11_limits_2 : decode cX11_limits 2 = .ok (.iconst 0, 1) := by decide +kernel
theorem dX11_limits_3 : decode cX11_limits 3 = .ok (.iconst 3, 1) := by decide +kernel
theorem dX11_limits_4 : decode cX11_limits 4 = .ok (.invokestatic 124, 3) := by decide +kernel
theorem dX11_limits_7 : decode cX11_limits 7 = .ok (.ifCond .eq 17, 3) := by decide +kernel
theorem dX11_limits_10 : decode cX11_limits 10 = .ok (.iload_n 2, 1) := by decide +kernel
theorem dX11_limits_11 : decode cX11_limits 11 = .ok (.iconst 1, 1) := by decide +kernel
theorem dX11_limits_12 : decode cX11_limits 12 = .ok (.bipush 20, 2) := by decide +kernel
theorem dX11_limits_14 : decode cX11_limits 14 = .ok (.invokestatic 124, 3) := by decide +kernel
theorem dX11_limits_17 : decode cX11_limits 17 = .ok (.ifCond .eq 7, 3) := by decide +kernel
theorem dX11_limits_20 : decode cX11_limits 20 = .ok (.iconst 0, 1) := by decide +kernel
theorem dX11_limits_21 : decode cX11_limits 21 = .ok (.goto 4, 3) := by decide +kernel
theorem dX11_limits_24 : decode cX11_limits 24 = .ok (.iconst 1, 1) := by decide +kernel
theorem dX11_limits_25 : decode cX11_limits 25 = .ok (.putfield 121, 3) := by decide +kernel
theorem dX11_limits_28 : decode cX11_limits 28 = .ok (.aload_n 0, 1) := by decide +kernel
theorem dX11_limits_29 : decode cX11_limits 29 = .ok (.getfield 121, 3) := by decide +kernel
theorem dX11_limits_32 : decode cX11_limits 32 = .ok (.ifCond .le 5, 3) := by decide +kernel
theorem dX11_limits_35 : decode cX11_limits 35 = .ok (.iconst 0, 1) := by decide +kernel
theorem dX11_limits_36 : decode cX11_limits 36 = .ok (.ireturn, 1) := by decide +kernel
theorem dX11_limits_37 : decode cX11_limits 37 = .ok (.aload_n 0, 1) := by decide +kernel
theorem dX11_limits_38 : decode cX11_limits 38 = .ok (.getfield 88, 3) := by decide +kernel
theorem dX11_limits_41 : decode cX11_limits 41 = .ok (.istore_n 3, 1) := by decide +kernel
theorem dX11_limits_42 : decode cX11_limits 42 = .ok (.aload_n 0, 1) := by decide +kernel
theorem dX11_limits_43 : decode cX11_limits 43 = .ok (.iload_n 1, 1) := by decide +kernel
theorem dX11_limits_44 : decode cX11_limits 44 = .ok (.putfield 84, 3) := by decide +kernel
theorem dX11_limits_47 : decode cX11_limits 47 = .ok (.aload_n 0, 1) := by decide +kernel
theorem dX11_limits_48 : decode cX11_limits 48 = .ok (.iload_n 2, 1) := by decide +kernel
theorem dX11_limits_49 : decode cX11_limits 49 = .ok (.putfield 88, 3) := by decide +kernel
theorem dX11_limits_52 : decode cX11_limits 52 = .ok (.iload_n 3, 1) := by decide +kernel
theorem dX11_limits_53 : decode cX11_limits 53 = .ok (.ireturn, 1) := by decide +kernel
theorem dX11_work_0 : decode cX11_work 0 = .ok (.aload_n 0, 1) := by decide +kernel
theorem dX11_work_1 : decode cX11_work 1 = .ok (.iload_n 1, 1) := by decide +kernel
theorem dX11_work_2 : decode cX11_work 2 = .ok (.iconst 1, 1) := by decide +kernel
theorem dX11_work_3 : decode cX11_work 3 = .ok (.sipush 500, 3) := by decide +kernel
theorem dX11_work_6 : decode cX11_work 6 = .ok (.invokestatic 124, 3) := by decide +kernel
theorem dX11_work_9 : decode cX11_work 9 = .ok (.ifCond .eq 7, 3) := by decide +kernel
theorem dX11_work_12 : decode cX11_work 12 = .ok (.iconst 0, 1) := by decide +kernel
theorem dX11_work_13 : decode cX11_work 13 = .ok (.goto 4, 3) := by decide +kernel
theorem dX11_work_16 : decode cX11_work 16 = .ok (.iconst 1, 1) := by decide +kernel
theorem dX11_work_17 : decode cX11_work 17 = .ok (.putfield 121, 3) := by decide +kernel
theorem dX11_work_20 : decode cX11_work 20 = .ok (.aload_n 0, 1) := by decide +kernel
theorem dX11_work_21 : decode cX11_work 21 = .ok (.getfield 121, 3) := by decide +kernel
theorem dX11_work_24 : decode cX11_work 24 = .ok (.ifCond .le 5, 3) := by decide +kernel
theorem dX11_work_27 : decode cX11_work 27 = .ok (.iconst 0, 1) := by decide +kernel
theorem dX11_work_28 : decode cX11_work 28 = .ok (.ireturn, 1) := by decide +kernel
theorem dX11_work_29 : decode cX11_work 29 = .ok (.aload_n 0, 1) := by decide +kernel
theorem dX11_work_30 : decode cX11_work 30 = .ok (.aload_n 0, 1) := by decide +kernel
theorem dX11_work_31 : decode cX11_work 31 = .ok (.getfield 249, 3) := by decide +kernel
theorem dX11_work_34 : decode cX11_work 34 = .ok (.aload_n 0, 1) := by decide +kernel
theorem dX11_work_35 : decode cX11_work 35 = .ok (.getfield 241, 3) := by decide +kernel
theorem dX11_work_38 : decode cX11_work 38 = .ok (.bipush 60, 2) := by decide +kernel
theorem dX11_work_40 : decode cX11_work 40 = .ok (.idiv, 1) := by decide +kernel
theorem dX11_work_41 : decode cX11_work 41 = .ok (.if_icmp .ne 10, 3) := by decide +kernel
theorem dX11_work_44 : decode cX11_work 44 = .ok (.aload_n 0, 1) := by decide +kernel
theorem dX11_work_45 : decode cX11_work 45 = .ok (.getfield 252, 3) := by decide +kernel
theorem dX11_work_48 : decode cX11_work 48 = .ok (.goto 4, 3) := by decide +kernel
theorem dX11_work_51 : decode cX11_work 51 = .ok (.iconst 0, 1) := by decide +kernel
theorem dX11_work_52 : decode cX11_work 52 = .ok (.putfield 252, 3) := by decide +kernel
theorem dX11_work_55 : decode cX11_work 55 = .ok (.aload_n 0, 1) := by decide +kernel
theorem dX11_work_56 : decode cX11_work 56 = .ok (.aload_n 0, 1) := by decide +kernel
theorem dX11_work_57 : decode cX11_work 57 = .ok (.getfield 241, 3) := by decide +kernel
theorem dX11_work_60 : decode cX11_work 60 = .ok (.bipush 60, 2) := by decide +kernel
theorem dX11_work_62 : decode cX11_work 62 = .ok (.idiv, 1) := by decide +kernel
theorem dX11_work_63 : decode cX11_work 63 = .ok (.putfield 249, 3) := by decide +kernel
theorem dX11_work_66 : decode cX11_work 66 = .ok (.aload_n 0, 1) := by decide +kernel
theorem dX11_work_67 : decode cX11_work 67 = .ok (.getfield 245, 3) := by decide +kernel
theorem dX11_work_70 : decode cX11_work 70 = .ok (.ifCond .eq 24, 3) := by decide +kernel
theorem dX11_work_73 : decode cX11_work 73 = .ok (.bipush 20, 2) := by decide +kernel
theorem dX11_work_75 : decode cX11_work 75 = .ok (.aload_n 0, 1) := by decide +kernel
theorem dX11_work_76 : decode cX11_work 76 = .ok (.getfield 252, 3) := by decide +kernel
theorem dX11_work_79 : decode cX11_work 79 = .ok (.isub, 1) := by decide +kernel
theorem dX11_work_80 : decode cX11_work 80 = .ok (.iload_n 1, 1) := by decide +kernel
theorem dX11_work_81 : decode cX11_work 81 = .ok (.if_icmp .ge 13, 3) := by decide +kernel
theorem dX11_work_84 : decode cX11_work 84 = .ok (.bipush 20, 2) := by decide +kernel
theorem dX11_work_86 : decode cX11_work 86 = .ok (.aload_n 0, 1) := by decide +kernel
theorem dX11_work_87 : decode cX11_work 87 = .ok (.getfield 252, 3) := by decide +kernel
theorem dX11_work_90 : decode cX11_work 90 = .ok (.isub, 1) := by decide +kernel
theorem dX11_work_91 : decode cX11_work 91 = .ok (.goto 4, 3) := by decide +kernel
theorem dX11_work_94 : decode cX11_work 94 = .ok (.iload_n 1, 1) := by decide +kernel
theorem dX11_work_95 : decode cX11_work 95 = .ok (.istore_n 2, 1) := by decide +kernel
theorem dX11_work_96 : decode cX11_work 96 = .ok (.iconst 0, 1) := by decide +kernel
theorem dX11_work_97 : decode cX11_work 97 = .ok (.istore_n 3, 1) := by decide +kernel
theorem dX11_work_98 : decode cX11_work 98 = .ok (.aload_n 0, 1) := by decide +kernel
theorem dX11_work_99 : decode cX11_work 99 = .ok (.iload_n 2, 1) := by decide +kernel
theorem dX11_work_100 : decode cX11_work 100 = .ok (.invokevirtual 255, 3) := by decide +kernel
theorem dX11_work_103 : decode cX11_work 103 = .ok (.istore 4, 2) := by decide +kernel
theorem dX11_work_105 : decode cX11_work 105 = .ok (.iload 4, 2) := by decide +kernel
theorem dX11_work_107 : decode cX11_work 107 = .ok (.ifCond .le 20, 3) := by decide +kernel
theorem dX11_work_110 : decode cX11_work 110 = .ok (.iload_n 3, 1) := by decide +kernel
theorem dX11_work_111 : decode cX11_work 111 = .ok (.iload 4, 2) := by decide +kernel
theorem dX11_work_113 : decode cX11_work 113 = .ok (.iadd, 1) := by decide +kernel
theorem dX11_work_114 : decode cX11_work 114 = .ok (.istore_n 3, 1) := by decide +kernel
theorem dX11_work_115 : decode cX11_work 115 = .ok (.aload_n 0, 1) := by decide +kernel
theorem dX11_work_116 : decode cX11_work 116 = .ok (.iload_n 2, 1) := by decide +kernel
theorem dX11_work_117 : decode cX11_work 117 = .ok (.iload_n 3, 1) := by decide +kernel
theorem dX11_work_118 : decode cX11_work 118 = .ok (.isub, 1) := by decide +kernel
theorem dX11_work_119 : decode cX11_work 119 = .ok (.invokevirtual 255, 3) := by decide +kernel
theorem dX11_work_122 : decode cX11_work 122 = .ok (.istore 4, 2) := by decide +kernel
theorem dX11_work_124 : decode cX11_work 124 = .ok (.goto (-19), 3) := by decide +kernel
theorem dX11_work_127 : decode cX11_work 127 = .ok (.aload_n 0, 1) := by decide +kernel
theorem dX11_work_128 : decode cX11_work 128 = .ok (.dup, 1) := by decide +kernel
theorem dX11_work_129 : decode cX11_work 129 = .ok (.getfield 252, 3) := by decide +kernel
theorem dX11_work_132 : decode cX11_work 132 = .ok (.aload_n 0, 1) := by decide +kernel
theorem dX11_work_133 : decode cX11_work 133 = .ok (.getfield 245, 3) := by decide +kernel
theorem dX11_work_136 : decode cX11_work 136 = .ok (.ifCond .eq 7, 3) := by decide +kernel
theorem dX11_work_139 : decode cX11_work 139 = .ok (.iload_n 3, 1) := by decide +kernel
theorem dX11_work_140 : decode cX11_work 140 = .ok (.goto 4, 3) := by decide +kernel
theorem dX11_work_143 : decode cX11_work 143 = .ok (.iconst 0, 1) := by decide +kernel
theorem dX11_work_144 : decode cX11_work 144 = .ok (.iadd, 1) := by decide +kernel
theorem dX11_work_145 : decode cX11_work 145 = .ok (.putfield 252, 3) := by decide +kernel
theorem dX11_work_148 : decode cX11_work 148 = .ok (.iconst 0, 1) := by decide +kernel
theorem dX11_work_149 : decode cX11_work 149 = .ok (.istore 5, 2) := by decide +kernel
theorem dX11_work_151 : decode cX11_work 151 = .ok (.iload 5, 2) := by decide +kernel
theorem dX11_work_153 : decode cX11_work 153 = .ok (.aload_n 0, 1) := by decide +kernel
theorem dX11_work_154 : decode cX11_work 154 = .ok (.getfield 183, 3) := by decide +kernel
theorem dX11_work_157 : decode cX11_work 157 = .ok (.if_icmp .ge 17, 3) := by decide +kernel
theorem dX11_work_160 : decode cX11_work 160 = .ok (.aload_n 0, 1) := by decide +kernel
theorem dX11_work_161 : decode cX11_work 161 = .ok (.getfield 97, 3) := by decide +kernel
theorem dX11_work_164 : decode cX11_work 164 = .ok (.iload 5, 2) := by decide +kernel
theorem dX11_work_166 : decode cX11_work 166 = .ok (.iconst 0, 1) := by decide +kernel
theorem dX11_work_167 : decode cX11_work 167 = .ok (.bastore, 1) := by decide +kernel
theorem dX11_work_168 : decode cX11_work 168 = .ok (.iinc 5 1, 3) := by decide +kernel
theorem dX11_work_171 : decode cX11_work 171 = .ok (.goto (-20), 3) := by decide +kernel
theorem dX11_work_174 : decode cX11_work 174 = .ok (.aload_n 0, 1) := by decide +kernel
theorem dX11_work_175 : decode cX11_work 175 = .ok (.invokevirtual 258, 3) := by decide +kernel
theorem dX11_work_178 : decode cX11_work 178 = .ok (.iload_n 3, 1) := by decide +kernel
theorem dX11_work_179 : decode cX11_work 179 = .ok (.ireturn, 1) := by decide +kernel
theorem dX11_crawl_0 : decode cX11_crawl 0 = .ok (.aload_n 0, 1) := by decide +kernel
theorem dX11_crawl_1 : decode cX11_crawl 1 = .ok (.iload_n 1, 1) := by decide +kernel
theorem dX11_crawl_2 : decode cX11_crawl 2 = .ok (.invokevirtual 163, 3) := by decide +kernel
theorem dX11_crawl_5 : decode cX11_crawl 5 = .ok (.istore_n 2, 1) := by decide +kernel
theorem dX11_crawl_6 : decode cX11_crawl 6 = .ok (.aload_n 0, 1) := by decide +kernel
theorem dX11_crawl_7 : decode cX11_crawl 7 = .ok (.iload_n 2, 1) := by decide +kernel
theorem dX11_crawl_8 : decode cX11_crawl 8 = .ok (.iconst (-1), 1) := by decide +kernel
theorem dX11_crawl_9 : decode cX11_crawl 9 = .ok (.if_icmp .ne 7, 3) := by decide +kernel
theorem dX11_crawl_12 : decode cX11_crawl 12 = .ok (.iconst 1, 1) := by decide +kernel
theorem dX11_crawl_13 : decode cX11_crawl 13 = .ok (.goto 4, 3) := by decide +kernel
theorem dX11_crawl_16 : decode cX11_crawl 16 = .ok (.iconst 0, 1) := by decide +kernel
theorem dX11_crawl_17 : decode cX11_crawl 17 = .ok (.putfield 121, 3) := by decide +kernel
theorem dX11_crawl_20 : decode cX11_crawl 20 = .ok (.aload_n 0, 1) := by decide +kernel
theorem dX11_crawl_21 : decode cX11_crawl 21 = .ok (.getfield 121, 3) := by decide +kernel
theorem dX11_crawl_24 : decode cX11_crawl 24 = .ok (.ifCond .le 5, 3) := by decide +kernel
theorem dX11_crawl_27 : decode cX11_crawl 27 = .ok (.iconst 0, 1) := by decide +kernel
theorem dX11_crawl_28 : decode cX11_crawl 28 = .ok (.ireturn, 1) := by decide +kernel
theorem dX11_crawl_29 : decode cX11_crawl 29 = .ok (.aload_n 0, 1) := by decide +kernel
theorem dX11_crawl_30 : decode cX11_crawl 30 = .ok (.iload_n 2, 1) := by decide +kernel
theorem dX11_crawl_31 : decode cX11_crawl 31 = .ok (.invokevirtual 180, 3) := by decide +kernel
theorem dX11_crawl_34 : decode cX11_crawl 34 = .ok (.iconst 0, 1) := by decide +kernel
theorem dX11_crawl_35 : decode cX11_crawl 35 = .ok (.istore_n 3, 1) := by decide +kernel
theorem dX11_crawl_36 : decode cX11_crawl 36 = .ok (.iconst 0, 1) := by decide +kernel
theorem dX11_crawl_37 : decode cX11_crawl 37 = .ok (.istore 4, 2) := by decide +kernel
theorem dX11_crawl_39 : decode cX11_crawl 39 = .ok (.iload 4, 2) := by decide +kernel
theorem dX11_crawl_41 : decode cX11_crawl 41 = .ok (.aload_n 0, 1) := by decide +kernel
theorem dX11_crawl_42 : decode cX11_crawl 42 = .ok (.getfield 132, 3) := by decide +kernel
theorem dX11_crawl_45 : decode cX11_crawl 45 = .ok (.if_icmp .ge 27, 3) := by decide +kernel
theorem dX11_crawl_48 : decode cX11_crawl 48 = .ok (.iload_n 3, 1) := by decide +kernel
theorem dX11_crawl_49 : decode cX11_crawl 49 = .ok (.aload_n 0, 1) := by decide +kernel
theorem dX11_crawl_50 : decode cX11_crawl 50 = .ok (.getfield 54, 3) := by decide +kernel
theorem dX11_crawl_53 : decode cX11_crawl 53 = .ok (.iload 4, 2) := by decide +kernel
theorem dX11_crawl_55 : decode cX11_crawl 55 = .ok (.baload, 1) := by decide +kernel
theorem dX11_crawl_56 : decode cX11_crawl 56 = .ok (.ifCond .eq 7, 3) := by decide +kernel
theorem dX11_crawl_59 : decode cX11_crawl 59 = .ok (.iconst 1, 1) := by decide +kernel
theorem dX11_crawl_60 : decode cX11_crawl 60 = .ok (.goto 4, 3) := by decide +kernel
theorem dX11_crawl_63 : decode cX11_crawl 63 = .ok (.iconst 0, 1) := by decide +kernel
theorem dX11_crawl_64 : decode cX11_crawl 64 = .ok (.iadd, 1) := by decide +kernel
theorem dX11_crawl_65 : decode cX11_crawl 65 = .ok (.istore_n 3, 1) := by decide +kernel
theorem dX11_crawl_66 : decode cX11_crawl 66 = .ok (.iinc 4 1, 3) := by decide +kernel
theorem dX11_crawl_69 : decode cX11_crawl 69 = .ok (.goto (-30), 3) := by decide +kernel
theorem dX11_crawl_72 : decode cX11_crawl 72 = .ok (.iload_n 3, 1) := by decide +kernel
theorem dX11_crawl_73 : decode cX11_crawl 73 = .ok (.ireturn, 1) := by decide +kernel
theorem dX11_acts__0 : decode cX11_acts_ 0 = .ok (.aload_n 0, 1) := by decide +kernel
theorem dX11_acts__1 : decode cX11_acts_ 1 = .ok (.iconst 0, 1) := by decide +kernel
theorem dX11_acts__2 : decode cX11_acts_ 2 = .ok (.putfield 121, 3) := by decide +kernel
theorem dX11_acts__5 : decode cX11_acts_ 5 = .ok (.aload_n 0, 1) := by decide +kernel
theorem dX11_acts__6 : decode cX11_acts_ 6 = .ok (.getfield 183, 3) := by decide +kernel
theorem dX11_acts__9 : decode cX11_acts_ 9 = .ok (.ireturn, 1) := by decide +kernel
theorem dX11_isQuiet_0 : decode cX11_isQuiet 0 = .ok (.aload_n 0, 1) := by decide +kernel
theorem dX11_isQuiet_1 : decode cX11_isQuiet 1 = .ok (.iconst 0, 1) := by decide +kernel
theorem dX11_isQuiet_2 : decode cX11_isQuiet 2 = .ok (.putfield 121, 3) := by decide +kernel
theorem dX11_isQuiet_5 : decode cX11_isQuiet 5 = .ok (.aload_n 0, 1) := by decide +kernel
theorem dX11_isQuiet_6 : decode cX11_isQuiet 6 = .ok (.getfield 183, 3) := by decide +kernel
theorem dX11_isQuiet_9 : decode cX11_isQuiet 9 = .ok (.ifCond .ne 23, 3) := by decide +kernel
theorem dX11_isQuiet_12 : decode cX11_isQuiet 12 = .ok (.aload_n 0, 1) := by decide +kernel
theorem dX11_isQuiet_13 : decode cX11_isQuiet 13 = .ok (.invokevirtual 219, 3) := by decide +kernel
theorem dX11_isQuiet_16 : decode cX11_isQuiet 16 = .ok (.iconst (-1), 1) := by decide +kernel
theorem dX11_isQuiet_17 : decode cX11_isQuiet 17 = .ok (.if_icmp .ne 15, 3) := by decide +kernel
theorem dX11_isQuiet_20 : decode cX11_isQuiet 20 = .ok (.aload_n 0, 1) := by decide +kernel
theorem dX11_isQuiet_21 : decode cX11_isQuiet 21 = .ok (.invokevirtual 226, 3) := by decide +kernel
theorem dX11_isQuiet_24 : decode cX11_isQuiet 24 = .ok (.iconst (-1), 1) := by decide +kernel
theorem dX11_isQuiet_25 : decode cX11_isQuiet 25 = .ok (.if_icmp .ne 7, 3) := by decide +kernel
theorem dX11_isQuiet_28 : decode cX11_isQuiet 28 = .ok (.iconst 1, 1) := by decide +kernel
theorem dX11_isQuiet_29 : decode cX11_isQuiet 29 = .ok (.goto 4, 3) := by decide +kernel
theorem dX11_isQuiet_32 : decode cX11_isQuiet 32 = .ok (.iconst 0, 1) := by decide +kernel
theorem dX11_isQuiet_33 : decode cX11_isQuiet 33 = .ok (.ireturn, 1) := by decide +kernel
theorem dX11_entries_0 : decode cX11_entries 0 = .ok (.aload_n 0, 1) := by decide +kernel
theorem dX11_entries_1 : decode cX11_entries 1 = .ok (.iconst 0, 1) := by decide +kernel
theorem dX11_entries_2 : decode cX11_entries 2 = .ok (.putfield 121, 3) := by decide +kernel
theorem dX11_entries_5 : decode cX11_entries 5 = .ok (.iconst 0, 1) := by decide +kernel
theorem dX11_entries_6 : decode cX11_entries 6 = .ok (.istore_n 1, 1) := by decide +kernel
theorem dX11_entries_7 : decode cX11_entries 7 = .ok (.iconst 0, 1) := by decide +kernel
theorem dX11_entries_8 : decode cX11_entries 8 = .ok (.istore_n 2, 1) := by decide +kernel
theorem dX11_entries_9 : decode cX11_entries 9 = .ok (.iload_n 2, 1) := by decide +kernel
theorem dX11_entries_10 : decode cX11_entries 10 = .ok (.aload_n 0, 1) := by decide +kernel
theorem dX11_entries_11 : decode cX11_entries 11 = .ok (.getfield 118, 3) := by decide +kernel
theorem dX11_entries_14 : decode cX11_entries 14 = .ok (.if_icmp .ge 26, 3) := by decide +kernel
theorem dX11_entries_17 : decode cX11_entries 17 = .ok (.iload_n 1, 1) := by decide +kernel
theorem dX11_entries_18 : decode cX11_entries 18 = .ok (.aload_n 0, 1) := by decide +kernel
theorem dX11_entries_19 : decode cX11_entries 19 = .ok (.getfield 66, 3) := by decide +kernel
theorem dX11_entries_22 : decode cX11_entries 22 = .ok (.iload_n 2, 1) := by decide +kernel
theorem dX11_entries_23 : decode cX11_entries 23 = .ok (.baload, 1) := by decide +kernel
theorem dX11_entries_24 : decode cX11_entries 24 = .ok (.ifCond .eq 7, 3) := by decide +kernel
theorem dX11_entries_27 : decode cX11_entries 27 = .ok (.iconst 1, 1) := by decide +kernel
theorem dX11_entries_28 : decode cX11_entries 28 = .ok (.goto 4, 3) := by decide +kernel
theorem dX11_entries_31 : decode cX11_entries 31 = .ok (.iconst 0, 1) := by decide +kernel
theorem dX11_entries_32 : decode cX11_entries 32 = .ok (.iadd, 1) := by decide +kernel
theorem dX11_entries_33 : decode cX11_entries 33 = .ok (.istore_n 1, 1) := by decide +kernel
theorem dX11_entries_34 : decode cX11_entries 34 = .ok (.iinc 2 1, 3) := by decide +kernel
theorem dX11_entries_37 : decode cX11_entries 37 = .ok (.goto (-28), 3) := by decide +kernel
theorem dX11_entries_40 : decode cX11_entries 40 = .ok (.iload_n 1, 1) := by decide +kernel
theorem dX11_entries_41 : decode cX11_entries 41 = .ok (.ireturn, 1) := by decide +kernel
theorem dX11_edition_0 : decode cX11_edition 0 = .ok (.aload_n 0, 1) := by decide +kernel
theorem dX11_edition_1 : decode cX11_edition 1 = .ok (.iload_n 1, 1) := by decide +kernel
theorem dX11_edition_2 : decode cX11_edition 2 = .ok (.iconst 0, 1) := by decide +kernel
theorem dX11_edition_3 : decode cX11_edition 3 = .ok (.aload_n 0, 1) := by decide +kernel
theorem dX11_edition_4 : decode cX11_edition 4 = .ok (.getfield 118, 3) := by decide +kernel
theorem dX11_edition_7 : decode cX11_edition 7 = .ok (.iconst 1, 1) := by decide +kernel
theorem dX11_edition_8 : decode cX11_edition 8 = .ok (.isub, 1) := by decide +kernel
theorem dX11_edition_9 : decode cX11_edition 9 = .ok (.invokestatic 124, 3) := by decide +kernel
theorem dX11_edition_12 : decode cX11_edition 12 = .ok (.ifCond .eq 7, 3) := by decide +kernel
theorem dX11_edition_15 : decode cX11_edition 15 = .ok (.iconst 0, 1) := by decide +kernel
theorem dX11_edition_16 : decode cX11_edition 16 = .ok (.goto 4, 3) := by decide +kernel
theorem dX11_edition_19 : decode cX11_edition 19 = .ok (.iconst 1, 1) := by decide +kernel
theorem dX11_edition_20 : decode cX11_edition 20 = .ok (.putfield 121, 3) := by decide +kernel
theorem dX11_edition_23 : decode cX11_edition 23 = .ok (.aload_n 0, 1) := by decide +kernel
theorem dX11_edition_24 : decode cX11_edition 24 = .ok (.getfield 121, 3) := by decide +kernel
theorem dX11_edition_27 : decode cX11_edition 27 = .ok (.ifCond .le 7, 3) := by decide +kernel
theorem dX11_edition_30 : decode cX11_edition 30 = .ok (.iconst 0, 1) := by decide +kernel
theorem dX11_edition_31 : decode cX11_edition 31 = .ok (.goto 22, 3) := by decide +kernel
theorem dX11_edition_34 : decode cX11_edition 34 = .ok (.aload_n 0, 1) := by decide +kernel
theorem dX11_edition_35 : decode cX11_edition 35 = .ok (.getfield 66, 3) := by decide +kernel
theorem dX11_edition_38 : decode cX11_edition 38 = .ok (.iload_n 1, 1) := by decide +kernel
theorem dX11_edition_39 : decode cX11_edition 39 = .ok (.baload, 1) := by decide +kernel
theorem dX11_edition_40 : decode cX11_edition 40 = .ok (.ifCond .eq 12, 3) := by decide +kernel
theorem dX11_edition_43 : decode cX11_edition 43 = .ok (.aload_n 0, 1) := by decide +kernel
theorem dX11_edition_44 : decode cX11_edition 44 = .ok (.getfield 75, 3) := by decide +kernel
theorem dX11_edition_47 : decode cX11_edition 47 = .ok (.iload_n 1, 1) := by decide +kernel
theorem dX11_edition_48 : decode cX11_edition 48 = .ok (.iaload, 1) := by decide +kernel
theorem dX11_edition_49 : decode cX11_edition 49 = .ok (.goto 4, 3) := by decide +kernel
theorem dX11_edition_52 : decode cX11_edition 52 = .ok (.iconst (-1), 1) := by decide +kernel
theorem dX11_edition_53 : decode cX11_edition 53 = .ok (.ireturn, 1) := by decide +kernel
theorem dX11_stale_0 : decode cX11_stale 0 = .ok (.aload_n 0, 1) := by decide +kernel
theorem dX11_stale_1 : decode cX11_stale 1 = .ok (.iconst 0, 1) := by decide +kernel
theorem dX11_stale_2 : decode cX11_stale 2 = .ok (.putfield 121, 3) := by decide +kernel
theorem dX11_stale_5 : decode cX11_stale 5 = .ok (.iconst 0, 1) := by decide +kernel
theorem dX11_stale_6 : decode cX11_stale 6 = .ok (.istore_n 1, 1) := by decide +kernel
theorem dX11_stale_7 : decode cX11_stale 7 = .ok (.iconst 0, 1) := by decide +kernel
theorem dX11_stale_8 : decode cX11_stale 8 = .ok (.istore_n 2, 1) := by decide +kernel
theorem dX11_stale_9 : decode cX11_stale 9 = .ok (.iload_n 2, 1) := by decide +kernel
theorem dX11_stale_10 : decode cX11_stale 10 = .ok (.aload_n 0, 1) := by decide +kernel
theorem dX11_stale_11 : decode cX11_stale 11 = .ok (.getfield 118, 3) := by decide +kernel
theorem dX11_stale_14 : decode cX11_stale 14 = .ok (.if_icmp .ge 74, 3) := by decide +kernel
theorem dX11_stale_17 : decode cX11_stale 17 = .ok (.aload_n 0, 1) := by decide +kernel
theorem dX11_stale_18 : decode cX11_stale 18 = .ok (.iload_n 2, 1) := by decide +kernel
theorem dX11_stale_19 : decode cX11_stale 19 = .ok (.invokevirtual 150, 3) := by decide +kernel
theorem dX11_stale_22 : decode cX11_stale 22 = .ok (.iconst (-1), 1) := by decide +kernel
theorem dX11_stale_23 : decode cX11_stale 23 = .ok (.if_icmp .eq 7, 3) := by decide +kernel
theorem dX11_stale_26 : decode cX11_stale 26 = .ok (.iconst 1, 1) := by decide +kernel
theorem dX11_stale_27 : decode cX11_stale 27 = .ok (.goto 4, 3) := by decide +kernel
theorem dX11_stale_30 : decode cX11_stale 30 = .ok (.iconst 0, 1) := by decide +kernel
theorem dX11_stale_31 : decode cX11_stale 31 = .ok (.istore_n 3, 1) := by decide +kernel
theorem dX11_stale_32 : decode cX11_stale 32 = .ok (.iload_n 1, 1) := by decide +kernel
theorem dX11_stale_33 : decode cX11_stale 33 = .ok (.iload_n 3, 1) := by decide +kernel
theorem dX11_stale_34 : decode cX11_stale 34 = .ok (.ifCond .eq 24, 3) := by decide +kernel
theorem dX11_stale_37 : decode cX11_stale 37 = .ok (.aload_n 0, 1) := by decide +kernel
theorem dX11_stale_38 : decode cX11_stale 38 = .ok (.getfield 13, 3) := by decide +kernel
theorem dX11_stale_41 : decode cX11_stale 41 = .ok (.iload_n 2, 1) := by decide +kernel
theorem dX11_stale_42 : decode cX11_stale 42 = .ok (.baload, 1) := by decide +kernel
theorem dX11_stale_43 : decode cX11_stale 43 = .ok (.ifCond .ne 15, 3) := by decide +kernel
theorem dX11_stale_46 : decode cX11_stale 46 = .ok (.aload_n 0, 1) := by decide +kernel
theorem dX11_stale_47 : decode cX11_stale 47 = .ok (.iload_n 2, 1) := by decide +kernel
theorem dX11_stale_48 : decode cX11_stale 48 = .ok (.invokevirtual 213, 3) := by decide +kernel
theorem dX11_stale_51 : decode cX11_stale 51 = .ok (.ifCond .ne 7, 3) := by decide +kernel
theorem dX11_stale_54 : decode cX11_stale 54 = .ok (.iconst 1, 1) := by decide +kernel
theorem dX11_stale_55 : decode cX11_stale 55 = .ok (.goto 4, 3) := by decide +kernel
theorem dX11_stale_58 : decode cX11_stale 58 = .ok (.iconst 0, 1) := by decide +kernel
theorem dX11_stale_59 : decode cX11_stale 59 = .ok (.iadd, 1) := by decide +kernel
theorem dX11_stale_60 : decode cX11_stale 60 = .ok (.istore_n 1, 1) := by decide +kernel
theorem dX11_stale_61 : decode cX11_stale 61 = .ok (.iload_n 1, 1) := by decide +kernel
theorem dX11_stale_62 : decode cX11_stale 62 = .ok (.aload_n 0, 1) := by decide +kernel
theorem dX11_stale_63 : decode cX11_stale 63 = .ok (.getfield 66, 3) := by decide +kernel
theorem dX11_stale_66 : decode cX11_stale 66 = .ok (.iload_n 2, 1) := by decide +kernel
theorem dX11_stale_67 : decode cX11_stale 67 = .ok (.baload, 1) := by decide +kernel
theorem dX11_stale_68 : decode cX11_stale 68 = .ok (.ifCond .eq 11, 3) := by decide +kernel
theorem dX11_stale_71 : decode cX11_stale 71 = .ok (.iload_n 3, 1) := by decide +kernel
theorem dX11_stale_72 : decode cX11_stale 72 = .ok (.ifCond .ne 7, 3) := by decide +kernel
theorem dX11_stale_75 : decode cX11_stale 75 = .ok (.iconst 1, 1) := by decide +kernel
theorem dX11_stale_76 : decode cX11_stale 76 = .ok (.goto 4, 3) := by decide +kernel
theorem dX11_stale_79 : decode cX11_stale 79 = .ok (.iconst 0, 1) := by decide +kernel
theorem dX11_stale_80 : decode cX11_stale 80 = .ok (.iadd, 1) := by decide +kernel
theorem dX11_stale_81 : decode cX11_stale 81 = .ok (.istore_n 1, 1) := by decide +kernel
theorem dX11_stale_82 : decode cX11_stale 82 = .ok (.iinc 2 1, 3) := by decide +kernel
theorem dX11_stale_85 : decode cX11_stale 85 = .ok (.goto (-76), 3) := by decide +kernel
theorem dX11_stale_88 : decode cX11_stale 88 = .ok (.iload_n 1, 1) := by decide +kernel
theorem dX11_stale_89 : decode cX11_stale 89 = .ok (.ireturn, 1) := by decide +kernel
theorem dX11_count_0 : decode cX11_count 0 = .ok (.iconst 0, 1) := by decide +kernel
theorem dX11_count_1 : decode cX11_count 1 = .ok (.istore_n 3, 1) := by decide +kernel
theorem dX11_count_2 : decode cX11_count 2 = .ok (.iconst 0, 1) := by decide +kernel
theorem dX11_count_3 : decode cX11_count 3 = .ok (.istore 4, 2) := by decide +kernel
theorem dX11_count_5 : decode cX11_count 5 = .ok (.iload 4, 2) := by decide +kernel
theorem dX11_count_7 : decode cX11_count 7 = .ok (.aload_n 0, 1) := by decide +kernel
theorem dX11_count_8 : decode cX11_count 8 = .ok (.getfield 192, 3) := by decide +kernel
theorem dX11_count_11 : decode cX11_count 11 = .ok (.if_icmp .ge 42, 3) := by decide +kernel
theorem dX11_count_14 : decode cX11_count 14 = .ok (.iload_n 3, 1) := by decide +kernel
theorem dX11_count_15 : decode cX11_count 15 = .ok (.aload_n 0, 1) := by decide +kernel
theorem dX11_count_16 : decode cX11_count 16 = .ok (.getfield 100, 3) := by decide +kernel
theorem dX11_count_19 : decode cX11_count 19 = .ok (.iload 4, 2) := by decide +kernel
theorem dX11_count_21 : decode cX11_count 21 = .ok (.iaload, 1) := by decide +kernel
theorem dX11_count_22 : decode cX11_count 22 = .ok (.iload_n 1, 1) := by decide +kernel
theorem dX11_count_23 : decode cX11_count 23 = .ok (.if_icmp .ne 21, 3) := by decide +kernel
theorem dX11_count_26 : decode cX11_count 26 = .ok (.aload_n 0, 1) := by decide +kernel
theorem dX11_count_27 : decode cX11_count 27 = .ok (.getfield 106, 3) := by decide +kernel
theorem dX11_count_30 : decode cX11_count 30 = .ok (.iload 4, 2) := by decide +kernel
theorem dX11_count_32 : decode cX11_count 32 = .ok (.baload, 1) := by decide +kernel
theorem dX11_count_33 : decode cX11_count 33 = .ok (.ifCond .ne 7, 3) := by decide +kernel
theorem dX11_count_36 : decode cX11_count 36 = .ok (.iload_n 2, 1) := by decide +kernel
theorem dX11_count_37 : decode cX11_count 37 = .ok (.ifCond .ne 7, 3) := by decide +kernel
theorem dX11_count_40 : decode cX11_count 40 = .ok (.iconst 1, 1) := by decide +kernel
theorem dX11_count_41 : decode cX11_count 41 = .ok (.goto 4, 3) := by decide +kernel
theorem dX11_count_44 : decode cX11_count 44 = .ok (.iconst 0, 1) := by decide +kernel
theorem dX11_count_45 : decode cX11_count 45 = .ok (.iadd, 1) := by decide +kernel
theorem dX11_count_46 : decode cX11_count 46 = .ok (.istore_n 3, 1) := by decide +kernel
theorem dX11_count_47 : decode cX11_count 47 = .ok (.iinc 4 1, 3) := by decide +kernel
theorem dX11_count_50 : decode cX11_count 50 = .ok (.goto (-45), 3) := by decide +kernel
theorem dX11_count_53 : decode cX11_count 53 = .ok (.iload_n 3, 1) := by decide +kernel
theorem dX11_count_54 : decode cX11_count 54 = .ok (.ireturn, 1) := by decide +kernel
theorem dX11_takesPlace_0 : decode cX11_takesPlace 0 = .ok (.aload_n 0, 1) := by decide +kernel
theorem dX11_takesPlace_1 : decode cX11_takesPlace 1 = .ok (.dup, 1) := by decide +kernel
theorem dX11_takesPlace_2 : decode cX11_takesPlace 2 = .ok (.getfield 192, 3) := by decide +kernel
theorem dX11_takesPlace_5 : decode cX11_takesPlace 5 = .ok (.iconst 1, 1) := by decide +kernel
theorem dX11_takesPlace_6 : decode cX11_takesPlace 6 = .ok (.isub, 1) := by decide +kernel
theorem dX11_takesPlace_7 : decode cX11_takesPlace 7 = .ok (.putfield 192, 3) := by decide +kernel
theorem dX11_takesPlace_10 : decode cX11_takesPlace 10 = .ok (.iload_n 1, 1) := by decide +kernel
theorem dX11_takesPlace_11 : decode cX11_takesPlace 11 = .ok (.istore_n 2, 1) := by decide +kernel
theorem dX11_takesPlace_12 : decode cX11_takesPlace 12 = .ok (.iload_n 2, 1) := by decide +kernel
theorem dX11_takesPlace_13 : decode cX11_takesPlace 13 = .ok (.aload_n 0, 1) := by decide +kernel
theorem dX11_takesPlace_14 : decode cX11_takesPlace 14 = .ok (.getfield 192, 3) := by decide +kernel
theorem dX11_takesPlace_17 : decode cX11_takesPlace 17 = .ok (.if_icmp .ge 51, 3) := by decide +kernel
theorem dX11_takesPlace_20 : decode cX11_takesPlace 20 = .ok (.aload_n 0, 1) := by decide +kernel
theorem dX11_takesPlace_21 : decode cX11_takesPlace 21 = .ok (.getfield 100, 3) := by decide +kernel
theorem dX11_takesPlace_24 : decode cX11_takesPlace 24 = .ok (.iload_n 2, 1) := by decide +kernel
theorem dX11_takesPlace_25 : decode cX11_takesPlace 25 = .ok (.aload_n 0, 1) := by decide +kernel
theorem dX11_takesPlace_26 : decode cX11_takesPlace 26 = .ok (.getfield 100, 3) := by decide +kernel
theorem dX11_takesPlace_29 : decode cX11_takesPlace 29 = .ok (.iload_n 2, 1) := by decide +kernel
theorem dX11_takesPlace_30 : decode cX11_takesPlace 30 = .ok (.iconst 1, 1) := by decide +kernel
theorem dX11_takesPlace_31 : decode cX11_takesPlace 31 = .ok (.iadd, 1) := by decide +kernel
theorem dX11_takesPlace_32 : decode cX11_takesPlace 32 = .ok (.iaload, 1) := by decide +kernel
theorem dX11_takesPlace_33 : decode cX11_takesPlace 33 = .ok (.iastore, 1) := by decide +kernel
theorem dX11_takesPlace_34 : decode cX11_takesPlace 34 = .ok (.aload_n 0, 1) := by decide +kernel
theorem dX11_takesPlace_35 : decode cX11_takesPlace 35 = .ok (.getfield 103, 3) := by decide +kernel
theorem dX11_takesPlace_38 : decode cX11_takesPlace 38 = .ok (.iload_n 2, 1) := by decide +kernel
theorem dX11_takesPlace_39 : decode cX11_takesPlace 39 = .ok (.aload_n 0, 1) := by decide +kernel
theorem dX11_takesPlace_40 : decode cX11_takesPlace 40 = .ok (.getfield 103, 3) := by decide +kernel
theorem dX11_takesPlace_43 : decode cX11_takesPlace 43 = .ok (.iload_n 2, 1) := by decide +kernel
theorem dX11_takesPlace_44 : decode cX11_takesPlace 44 = .ok (.iconst 1, 1) := by decide +kernel
theorem dX11_takesPlace_45 : decode cX11_takesPlace 45 = .ok (.iadd, 1) := by decide +kernel
theorem dX11_takesPlace_46 : decode cX11_takesPlace 46 = .ok (.iaload, 1) := by decide +kernel
theorem dX11_takesPlace_47 : decode cX11_takesPlace 47 = .ok (.iastore, 1) := by decide +kernel
theorem dX11_takesPlace_48 : decode cX11_takesPlace 48 = .ok (.aload_n 0, 1) := by decide +kernel
theorem dX11_takesPlace_49 : decode cX11_takesPlace 49 = .ok (.getfield 106, 3) := by decide +kernel
theorem dX11_takesPlace_52 : decode cX11_takesPlace 52 = .ok (.iload_n 2, 1) := by decide +kernel
theorem dX11_takesPlace_53 : decode cX11_takesPlace 53 = .ok (.aload_n 0, 1) := by decide +kernel
theorem dX11_takesPlace_54 : decode cX11_takesPlace 54 = .ok (.getfield 106, 3) := by decide +kernel
theorem dX11_takesPlace_57 : decode cX11_takesPlace 57 = .ok (.iload_n 2, 1) := by decide +kernel
theorem dX11_takesPlace_58 : decode cX11_takesPlace 58 = .ok (.iconst 1, 1) := by decide +kernel
theorem dX11_takesPlace_59 : decode cX11_takesPlace 59 = .ok (.iadd, 1) := by decide +kernel
theorem dX11_takesPlace_60 : decode cX11_takesPlace 60 = .ok (.baload, 1) := by decide +kernel
theorem dX11_takesPlace_61 : decode cX11_takesPlace 61 = .ok (.bastore, 1) := by decide +kernel
theorem dX11_takesPlace_62 : decode cX11_takesPlace 62 = .ok (.iinc 2 1, 3) := by decide +kernel
theorem dX11_takesPlace_65 : decode cX11_takesPlace 65 = .ok (.goto (-53), 3) := by decide +kernel
theorem dX11_takesPlace_68 : decode cX11_takesPlace 68 = .ok (.return_, 1) := by decide +kernel
theorem dX11_cleans_0 : decode cX11_cleans 0 = .ok (.aload_n 0, 1) := by decide +kernel
theorem dX11_cleans_1 : decode cX11_cleans 1 = .ok (.getfield 192, 3) := by decide +kernel
theorem dX11_cleans_4 : decode cX11_cleans 4 = .ok (.iconst 1, 1) := by decide +kernel
theorem dX11_cleans_5 : decode cX11_cleans 5 = .ok (.isub, 1) := by decide +kernel
theorem dX11_cleans_6 : decode cX11_cleans 6 = .ok (.istore_n 2, 1) := by decide +kernel
theorem dX11_cleans_7 : decode cX11_cleans 7 = .ok (.iload_n 2, 1) := by decide +kernel
theorem dX11_cleans_8 : decode cX11_cleans 8 = .ok (.ifCond .lt 33, 3) := by decide +kernel
theorem dX11_cleans_11 : decode cX11_cleans 11 = .ok (.aload_n 0, 1) := by decide +kernel
theorem dX11_cleans_12 : decode cX11_cleans 12 = .ok (.getfield 100, 3) := by decide +kernel
theorem dX11_cleans_15 : decode cX11_cleans 15 = .ok (.iload_n 2, 1) := by decide +kernel
theorem dX11_cleans_16 : decode cX11_cleans 16 = .ok (.iaload, 1) := by decide +kernel
theorem dX11_cleans_17 : decode cX11_cleans 17 = .ok (.iload_n 1, 1) := by decide +kernel
theorem dX11_cleans_18 : decode cX11_cleans 18 = .ok (.if_icmp .ne 17, 3) := by decide +kernel
theorem dX11_cleans_21 : decode cX11_cleans 21 = .ok (.aload_n 0, 1) := by decide +kernel
theorem dX11_cleans_22 : decode cX11_cleans 22 = .ok (.getfield 106, 3) := by decide +kernel
theorem dX11_cleans_25 : decode cX11_cleans 25 = .ok (.iload_n 2, 1) := by decide +kernel
theorem dX11_cleans_26 : decode cX11_cleans 26 = .ok (.baload, 1) := by decide +kernel
theorem dX11_cleans_27 : decode cX11_cleans 27 = .ok (.ifCond .eq 8, 3) := by decide +kernel
theorem dX11_cleans_30 : decode cX11_cleans 30 = .ok (.aload_n 0, 1) := by decide +kernel
theorem dX11_cleans_31 : decode cX11_cleans 31 = .ok (.iload_n 2, 1) := by decide +kernel
theorem dX11_cleans_32 : decode cX11_cleans 32 = .ok (.invokevirtual 261, 3) := by decide +kernel
theorem dX11_cleans_35 : decode cX11_cleans 35 = .ok (.iinc 2 (-1), 3) := by decide +kernel
theorem dX11_cleans_38 : decode cX11_cleans 38 = .ok (.goto (-31), 3) := by decide +kernel
theorem dX11_cleans_41 : decode cX11_cleans 41 = .ok (.return_, 1) := by decide +kernel
theorem dX11_joins_0 : decode cX11_joins 0 = .ok (.aload_n 0, 1) := by decide +kernel
theorem dX11_joins_1 : decode cX11_joins 1 = .ok (.dup, 1) := by decide +kernel
theorem dX11_joins_2 : decode cX11_joins 2 = .ok (.getfield 264, 3) := by decide +kernel
theorem dX11_joins_5 : decode cX11_joins 5 = .ok (.iconst 1, 1) := by decide +kernel
theorem dX11_joins_6 : decode cX11_joins 6 = .ok (.isub, 1) := by decide +kernel
theorem dX11_joins_7 : decode cX11_joins 7 = .ok (.putfield 264, 3) := by decide +kernel
theorem dX11_joins_10 : decode cX11_joins 10 = .ok (.iconst 0, 1) := by decide +kernel
theorem dX11_joins_11 : decode cX11_joins 11 = .ok (.istore_n 2, 1) := by decide +kernel
theorem dX11_joins_12 : decode cX11_joins 12 = .ok (.iload_n 2, 1) := by decide +kernel
theorem dX11_joins_13 : decode cX11_joins 13 = .ok (.aload_n 0, 1) := by decide +kernel
theorem dX11_joins_14 : decode cX11_joins 14 = .ok (.getfield 192, 3) := by decide +kernel
theorem dX11_joins_17 : decode cX11_joins 17 = .ok (.if_icmp .ge 33, 3) := by decide +kernel
theorem dX11_joins_20 : decode cX11_joins 20 = .ok (.aload_n 0, 1) := by decide +kernel
theorem dX11_joins_21 : decode cX11_joins 21 = .ok (.getfield 100, 3) := by decide +kernel
theorem dX11_joins_24 : decode cX11_joins 24 = .ok (.iload_n 2, 1) := by decide +kernel
theorem dX11_joins_25 : decode cX11_joins 25 = .ok (.dup2, 1) := by decide +kernel
theorem dX11_joins_26 : decode cX11_joins 26 = .ok (.iaload, 1) := by decide +kernel
theorem dX11_joins_27 : decode cX11_joins 27 = .ok (.aload_n 0, 1) := by decide +kernel
theorem dX11_joins_28 : decode cX11_joins 28 = .ok (.getfield 100, 3) := by decide +kernel
theorem dX11_joins_31 : decode cX11_joins 31 = .ok (.iload_n 2, 1) := by decide +kernel
theorem dX11_joins_32 : decode cX11_joins 32 = .ok (.iaload, 1) := by decide +kernel
theorem dX11_joins_33 : decode cX11_joins 33 = .ok (.iload_n 1, 1) := by decide +kernel
theorem dX11_joins_34 : decode cX11_joins 34 = .ok (.if_icmp .le 7, 3) := by decide +kernel
theorem dX11_joins_37 : decode cX11_joins 37 = .ok (.iconst 1, 1) := by decide +kernel
theorem dX11_joins_38 : decode cX11_joins 38 = .ok (.goto 4, 3) := by decide +kernel
theorem dX11_joins_41 : decode cX11_joins 41 = .ok (.iconst 0, 1) := by decide +kernel
theorem dX11_joins_42 : decode cX11_joins 42 = .ok (.isub, 1) := by decide +kernel
theorem dX11_joins_43 : decode cX11_joins 43 = .ok (.iastore, 1) := by decide +kernel
theorem dX11_joins_44 : decode cX11_joins 44 = .ok (.iinc 2 1, 3) := by decide +kernel
theorem dX11_joins_47 : decode cX11_joins 47 = .ok (.goto (-35), 3) := by decide +kernel
theorem dX11_joins_50 : decode cX11_joins 50 = .ok (.return_, 1) := by decide +kernel
theorem dX11_indexes_0 : decode cX11_indexes 0 = .ok (.iconst 0, 1) := by decide +kernel
theorem dX11_indexes_1 : decode cX11_indexes 1 = .ok (.istore_n 1, 1) := by decide +kernel
theorem dX11_indexes_2 : decode cX11_indexes 2 = .ok (.iconst 0, 1) := by decide +kernel
theorem dX11_indexes_3 : decode cX11_indexes 3 = .ok (.istore_n 2, 1) := by decide +kernel
theorem dX11_indexes_4 : decode cX11_indexes 4 = .ok (.iload_n 2, 1) := by decide +kernel
theorem dX11_indexes_5 : decode cX11_indexes 5 = .ok (.aload_n 0, 1) := by decide +kernel
theorem dX11_indexes_6 : decode cX11_indexes 6 = .ok (.getfield 118, 3) := by decide +kernel
theorem dX11_indexes_9 : decode cX11_indexes 9 = .ok (.if_icmp .ge 70, 3) := by decide +kernel
theorem dX11_indexes_12 : decode cX11_indexes 12 = .ok (.aload_n 0, 1) := by decide +kernel
theorem dX11_indexes_13 : decode cX11_indexes 13 = .ok (.getfield 109, 3) := by decide +kernel
theorem dX11_indexes_16 : decode cX11_indexes 16 = .ok (.iload_n 2, 1) := by decide +kernel
theorem dX11_indexes_17 : decode cX11_indexes 17 = .ok (.baload, 1) := by decide +kernel
theorem dX11_indexes_18 : decode cX11_indexes 18 = .ok (.ifCond .eq 55, 3) := by decide +kernel
theorem dX11_indexes_21 : decode cX11_indexes 21 = .ok (.aload_n 0, 1) := by decide +kernel
theorem dX11_indexes_22 : decode cX11_indexes 22 = .ok (.getfield 100, 3) := by decide +kernel
theorem dX11_indexes_25 : decode cX11_indexes 25 = .ok (.aload_n 0, 1) := by decide +kernel
theorem dX11_indexes_26 : decode cX11_indexes 26 = .ok (.getfield 192, 3) := by decide +kernel
theorem dX11_indexes_29 : decode cX11_indexes 29 = .ok (.aload_n 0, 1) := by decide +kernel
theorem dX11_indexes_30 : decode cX11_indexes 30 = .ok (.getfield 264, 3) := by decide +kernel
theorem dX11_indexes_33 : decode cX11_indexes 33 = .ok (.iastore, 1) := by decide +kernel
theorem dX11_indexes_34 : decode cX11_indexes 34 = .ok (.aload_n 0, 1) := by decide +kernel
theorem dX11_indexes_35 : decode cX11_indexes 35 = .ok (.getfield 103, 3) := by decide +kernel
theorem dX11_indexes_38 : decode cX11_indexes 38 = .ok (.aload_n 0, 1) := by decide +kernel
theorem dX11_indexes_39 : decode cX11_indexes 39 = .ok (.getfield 192, 3) := by decide +kernel
theorem dX11_indexes_42 : decode cX11_indexes 42 = .ok (.iload_n 2, 1) := by decide +kernel
theorem dX11_indexes_43 : decode cX11_indexes 43 = .ok (.iastore, 1) := by decide +kernel
theorem dX11_indexes_44 : decode cX11_indexes 44 = .ok (.aload_n 0, 1) := by decide +kernel
theorem dX11_indexes_45 : decode cX11_indexes 45 = .ok (.getfield 106, 3) := by decide +kernel
theorem dX11_indexes_48 : decode cX11_indexes 48 = .ok (.aload_n 0, 1) := by decide +kernel
theorem dX11_indexes_49 : decode cX11_indexes 49 = .ok (.getfield 192, 3) := by decide +kernel
theorem dX11_indexes_52 : decode cX11_indexes 52 = .ok (.iconst 0, 1) := by decide +kernel
theorem dX11_indexes_53 : decode cX11_indexes 53 = .ok (.bastore, 1) := by decide +kernel
theorem dX11_indexes_54 : decode cX11_indexes 54 = .ok (.aload_n 0, 1) := by decide +kernel
theorem dX11_indexes_55 : decode cX11_indexes 55 = .ok (.dup, 1) := by decide +kernel
theorem dX11_indexes_56 : decode cX11_indexes 56 = .ok (.getfield 192, 3) := by decide +kernel
theorem dX11_indexes_59 : decode cX11_indexes 59 = .ok (.iconst 1, 1) := by decide +kernel
theorem dX11_indexes_60 : decode cX11_indexes 60 = .ok (.iadd, 1) := by decide +kernel
theorem dX11_indexes_61 : decode cX11_indexes 61 = .ok (.putfield 192, 3) := by decide +kernel
theorem dX11_indexes_64 : decode cX11_indexes 64 = .ok (.iconst 1, 1) := by decide +kernel
theorem dX11_indexes_65 : decode cX11_indexes 65 = .ok (.istore_n 1, 1) := by decide +kernel
theorem dX11_indexes_66 : decode cX11_indexes 66 = .ok (.aload_n 0, 1) := by decide +kernel
theorem dX11_indexes_67 : decode cX11_indexes 67 = .ok (.getfield 109, 3) := by decide +kernel
theorem dX11_indexes_70 : decode cX11_indexes 70 = .ok (.iload_n 2, 1) := by decide +kernel
theorem dX11_indexes_71 : decode cX11_indexes 71 = .ok (.iconst 0, 1) := by decide +kernel
theorem dX11_indexes_72 : decode cX11_indexes 72 = .ok (.bastore, 1) := by decide +kernel
theorem dX11_indexes_73 : decode cX11_indexes 73 = .ok (.iinc 2 1, 3) := by decide +kernel
theorem dX11_indexes_76 : decode cX11_indexes 76 = .ok (.goto (-72), 3) := by decide +kernel
theorem dX11_indexes_79 : decode cX11_indexes 79 = .ok (.aload_n 0, 1) := by decide +kernel
theorem dX11_indexes_80 : decode cX11_indexes 80 = .ok (.dup, 1) := by decide +kernel
theorem dX11_indexes_81 : decode cX11_indexes 81 = .ok (.getfield 264, 3) := by decide +kernel
theorem dX11_indexes_84 : decode cX11_indexes 84 = .ok (.iload_n 1, 1) := by decide +kernel
theorem dX11_indexes_85 : decode cX11_indexes 85 = .ok (.ifCond .eq 7, 3) := by decide +kernel
theorem dX11_indexes_88 : decode cX11_indexes 88 = .ok (.iconst 1, 1) := by decide +kernel
theorem dX11_indexes_89 : decode cX11_indexes 89 = .ok (.goto 4, 3) := by decide +kernel
theorem dX11_indexes_92 : decode cX11_indexes 92 = .ok (.iconst 0, 1) := by decide +kernel
theorem dX11_indexes_93 : decode cX11_indexes 93 = .ok (.iadd, 1) := by decide +kernel
theorem dX11_indexes_94 : decode cX11_indexes 94 = .ok (.putfield 264, 3) := by decide +kernel
theorem dX11_indexes_97 : decode cX11_indexes 97 = .ok (.aload_n 0, 1) := by decide +kernel
theorem dX11_indexes_98 : decode cX11_indexes 98 = .ok (.getfield 264, 3) := by decide +kernel
theorem dX11_indexes_101 : decode cX11_indexes 101 = .ok (.iconst 1, 1) := by decide +kernel
theorem dX11_indexes_102 : decode cX11_indexes 102 = .ok (.isub, 1) := by decide +kernel
theorem dX11_indexes_103 : decode cX11_indexes 103 = .ok (.istore_n 2, 1) := by decide +kernel
theorem dX11_indexes_104 : decode cX11_indexes 104 = .ok (.iload_n 2, 1) := by decide +kernel
theorem dX11_indexes_105 : decode cX11_indexes 105 = .ok (.ifCond .lt 34, 3) := by decide +kernel
theorem dX11_indexes_108 : decode cX11_indexes 108 = .ok (.aload_n 0, 1) := by decide +kernel
theorem dX11_indexes_109 : decode cX11_indexes 109 = .ok (.iload_n 2, 1) := by decide +kernel
theorem dX11_indexes_110 : decode cX11_indexes 110 = .ok (.iconst 0, 1) := by decide +kernel
theorem dX11_indexes_111 : decode cX11_indexes 111 = .ok (.invokevirtual 267, 3) := by decide +kernel
theorem dX11_indexes_114 : decode cX11_indexes 114 = .ok (.aload_n 0, 1) := by decide +kernel
theorem dX11_indexes_115 : decode cX11_indexes 115 = .ok (.iload_n 2, 1) := by decide +kernel
theorem dX11_indexes_116 : decode cX11_indexes 116 = .ok (.iconst 1, 1) := by decide +kernel
theorem dX11_indexes_117 : decode cX11_indexes 117 = .ok (.invokevirtual 267, 3) := by decide +kernel
theorem dX11_indexes_120 : decode cX11_indexes 120 = .ok (.if_icmp .ne 13, 3) := by decide +kernel
theorem dX11_indexes_123 : decode cX11_indexes 123 = .ok (.aload_n 0, 1) := by decide +kernel
theorem dX11_indexes_124 : decode cX11_indexes 124 = .ok (.iload_n 2, 1) := by decide +kernel
theorem dX11_indexes_125 : decode cX11_indexes 125 = .ok (.invokevirtual 271, 3) := by decide +kernel
theorem dX11_indexes_128 : decode cX11_indexes 128 = .ok (.aload_n 0, 1) := by decide +kernel
theorem dX11_indexes_129 : decode cX11_indexes 129 = .ok (.iload_n 2, 1) := by decide +kernel
theorem dX11_indexes_130 : decode cX11_indexes 130 = .ok (.invokevirtual 274, 3) := by decide +kernel
theorem dX11_indexes_133 : decode cX11_indexes 133 = .ok (.iinc 2 (-1), 3) := by decide +kernel
theorem dX11_indexes_136 : decode cX11_indexes 136 = .ok (.goto (-32), 3) := by decide +kernel
theorem dX11_indexes_139 : decode cX11_indexes 139 = .ok (.aload_n 0, 1) := by decide +kernel
theorem dX11_indexes_140 : decode cX11_indexes 140 = .ok (.getfield 264, 3) := by decide +kernel
theorem dX11_indexes_143 : decode cX11_indexes 143 = .ok (.iconst 3, 1) := by decide +kernel
theorem dX11_indexes_144 : decode cX11_indexes 144 = .ok (.if_icmp .le 82, 3) := by decide +kernel
theorem dX11_indexes_147 : decode cX11_indexes 147 = .ok (.iconst 0, 1) := by decide +kernel
theorem dX11_indexes_148 : decode cX11_indexes 148 = .ok (.istore_n 2, 1) := by decide +kernel
theorem dX11_indexes_149 : decode cX11_indexes 149 = .ok (.iconst 1, 1) := by decide +kernel
theorem dX11_indexes_150 : decode cX11_indexes 150 = .ok (.istore_n 3, 1) := by decide +kernel
theorem dX11_indexes_151 : decode cX11_indexes 151 = .ok (.iload_n 3, 1) := by decide +kernel
theorem dX11_indexes_152 : decode cX11_indexes 152 = .ok (.iconst 1, 1) := by decide +kernel
theorem dX11_indexes_153 : decode cX11_indexes 153 = .ok (.iadd, 1) := by decide +kernel
theorem dX11_indexes_154 : decode cX11_indexes 154 = .ok (.aload_n 0, 1) := by decide +kernel
theorem dX11_indexes_155 : decode cX11_indexes 155 = .ok (.getfield 264, 3) := by decide +kernel
theorem dX11_indexes_158 : decode cX11_indexes 158 = .ok (.if_icmp .ge 48, 3) := by decide +kernel
theorem dX11_indexes_161 : decode cX11_indexes 161 = .ok (.aload_n 0, 1) := by decide +kernel
theorem dX11_indexes_162 : decode cX11_indexes 162 = .ok (.iload_n 3, 1) := by decide +kernel
theorem dX11_indexes_163 : decode cX11_indexes 163 = .ok (.iconst 0, 1) := by decide +kernel
theorem dX11_indexes_164 : decode cX11_indexes 164 = .ok (.invokevirtual 267, 3) := by decide +kernel
theorem dX11_indexes_167 : decode cX11_indexes 167 = .ok (.aload_n 0, 1) := by decide +kernel
theorem dX11_indexes_168 : decode cX11_indexes 168 = .ok (.iload_n 3, 1) := by decide +kernel
theorem dX11_indexes_169 : decode cX11_indexes 169 = .ok (.iconst 1, 1) := by decide +kernel
theorem dX11_indexes_170 : decode cX11_indexes 170 = .ok (.iadd, 1) := by decide +kernel
theorem dX11_indexes_171 : decode cX11_indexes 171 = .ok (.iconst 0, 1) := by decide +kernel
theorem dX11_indexes_172 : decode cX11_indexes 172 = .ok (.invokevirtual 267, 3) := by decide +kernel
theorem dX11_indexes_175 : decode cX11_indexes 175 = .ok (.iadd, 1) := by decide +kernel
theorem dX11_indexes_176 : decode cX11_indexes 176 = .ok (.aload_n 0, 1) := by decide +kernel
theorem dX11_indexes_177 : decode cX11_indexes 177 = .ok (.iload_n 2, 1) := by decide +kernel
theorem dX11_indexes_178 : decode cX11_indexes 178 = .ok (.iconst 0, 1) := by decide +kernel
theorem dX11_indexes_179 : decode cX11_indexes 179 = .ok (.invokevirtual 267, 3) := by decide +kernel
theorem dX11_indexes_182 : decode cX11_indexes 182 = .ok (.aload_n 0, 1) := by decide +kernel
theorem dX11_indexes_183 : decode cX11_indexes 183 = .ok (.iload_n 2, 1) := by decide +kernel
theorem dX11_indexes_184 : decode cX11_indexes 184 = .ok (.iconst 1, 1) := by decide +kernel
theorem dX11_indexes_185 : decode cX11_indexes 185 = .ok (.iadd, 1) := by decide +kernel
theorem dX11_indexes_186 : decode cX11_indexes 186 = .ok (.iconst 0, 1) := by decide +kernel
theorem dX11_indexes_187 : decode cX11_indexes 187 = .ok (.invokevirtual 267, 3) := by decide +kernel
theorem dX11_indexes_190 : decode cX11_indexes 190 = .ok (.iadd, 1) := by decide +kernel
theorem dX11_indexes_191 : decode cX11_indexes 191 = .ok (.if_icmp .ge 7, 3) := by decide +kernel
theorem dX11_indexes_194 : decode cX11_indexes 194 = .ok (.iload_n 3, 1) := by decide +kernel
theorem dX11_indexes_195 : decode cX11_indexes 195 = .ok (.goto 4, 3) := by decide +kernel
theorem dX11_indexes_198 : decode cX11_indexes 198 = .ok (.iload_n 2, 1) := by decide +kernel
theorem dX11_indexes_199 : decode cX11_indexes 199 = .ok (.istore_n 2, 1) := by decide +kernel
theorem dX11_indexes_200 : decode cX11_indexes 200 = .ok (.iinc 3 1, 3) := by decide +kernel
theorem dX11_indexes_203 : decode cX11_indexes 203 = .ok (.goto (-52), 3) := by decide +kernel
theorem dX11_indexes_206 : decode cX11_indexes 206 = .ok (.aload_n 0, 1) := by decide +kernel
theorem dX11_indexes_207 : decode cX11_indexes 207 = .ok (.iload_n 2, 1) := by decide +kernel
theorem dX11_indexes_208 : decode cX11_indexes 208 = .ok (.invokevirtual 271, 3) := by decide +kernel
theorem dX11_indexes_211 : decode cX11_indexes 211 = .ok (.aload_n 0, 1) := by decide +kernel
theorem dX11_indexes_212 : decode cX11_indexes 212 = .ok (.iload_n 2, 1) := by decide +kernel
theorem dX11_indexes_213 : decode cX11_indexes 213 = .ok (.iconst 1, 1) := by decide +kernel
theorem dX11_indexes_214 : decode cX11_indexes 214 = .ok (.iadd, 1) := by decide +kernel
theorem dX11_indexes_215 : decode cX11_indexes 215 = .ok (.invokevirtual 271, 3) := by decide +kernel
theorem dX11_indexes_218 : decode cX11_indexes 218 = .ok (.aload_n 0, 1) := by decide +kernel
theorem dX11_indexes_219 : decode cX11_indexes 219 = .ok (.iload_n 2, 1) := by decide +kernel
theorem dX11_indexes_220 : decode cX11_indexes 220 = .ok (.invokevirtual 274, 3) := by decide +kernel
theorem dX11_indexes_223 : decode cX11_indexes 223 = .ok (.goto (-84), 3) := by decide +kernel
theorem dX11_indexes_226 : decode cX11_indexes 226 = .ok (.return_, 1) := by decide +kernel
theorem dX11_segments_0 : decode cX11_segments 0 = .ok (.aload_n 0, 1) := by decide +kernel
theorem dX11_segments_1 : decode cX11_segments 1 = .ok (.iconst 0, 1) := by decide +kernel
theorem dX11_segments_2 : decode cX11_segments 2 = .ok (.putfield 121, 3) := by decide +kernel
theorem dX11_segments_5 : decode cX11_segments 5 = .ok (.aload_n 0, 1) := by decide +kernel
theorem dX11_segments_6 : decode cX11_segments 6 = .ok (.getfield 264, 3) := by decide +kernel
theorem dX11_segments_9 : decode cX11_segments 9 = .ok (.ireturn, 1) := by decide +kernel
theorem dX11_dead_0 : decode cX11_dead 0 = .ok (.aload_n 0, 1) := by decide +kernel
theorem dX11_dead_1 : decode cX11_dead 1 = .ok (.iconst 0, 1) := by decide +kernel
theorem dX11_dead_2 : decode cX11_dead 2 = .ok (.putfield 121, 3) := by decide +kernel
theorem dX11_dead_5 : decode cX11_dead 5 = .ok (.iconst 0, 1) := by decide +kernel
theorem dX11_dead_6 : decode cX11_dead 6 = .ok (.istore_n 1, 1) := by decide +kernel
theorem dX11_dead_7 : decode cX11_dead 7 = .ok (.iconst 0, 1) := by decide +kernel
theorem dX11_dead_8 : decode cX11_dead 8 = .ok (.istore_n 2, 1) := by decide +kernel
theorem dX11_dead_9 : decode cX11_dead 9 = .ok (.iload_n 2, 1) := by decide +kernel
theorem dX11_dead_10 : decode cX11_dead 10 = .ok (.aload_n 0, 1) := by decide +kernel
theorem dX11_dead_11 : decode cX11_dead 11 = .ok (.getfield 192, 3) := by decide +kernel
theorem dX11_dead_14 : decode cX11_dead 14 = .ok (.if_icmp .ge 26, 3) := by decide +kernel
theorem dX11_dead_17 : decode cX11_dead 17 = .ok (.iload_n 1, 1) := by decide +kernel
theorem dX11_dead_18 : decode cX11_dead 18 = .ok (.aload_n 0, 1) := by decide +kernel
theorem dX11_dead_19 : decode cX11_dead 19 = .ok (.getfield 106, 3) := by decide +kernel
theorem dX11_dead_22 : decode cX11_dead 22 = .ok (.iload_n 2, 1) := by decide +kernel
theorem dX11_dead_23 : decode cX11_dead 23 = .ok (.baload, 1) := by decide +kernel
theorem dX11_dead_24 : decode cX11_dead 24 = .ok (.ifCond .eq 7, 3) := by decide +kernel
theorem dX11_dead_27 : decode cX11_dead 27 = .ok (.iconst 1, 1) := by decide +kernel
theorem dX11_dead_28 : decode cX11_dead 28 = .ok (.goto 4, 3) := by decide +kernel
theorem dX11_dead_31 : decode cX11_dead 31 = .ok (.iconst 0, 1) := by decide +kernel
theorem dX11_dead_32 : decode cX11_dead 32 = .ok (.iadd, 1) := by decide +kernel
theorem dX11_dead_33 : decode cX11_dead 33 = .ok (.istore_n 1, 1) := by decide +kernel
theorem dX11_dead_34 : decode cX11_dead 34 = .ok (.iinc 2 1, 3) := by decide +kernel
theorem dX11_dead_37 : decode cX11_dead 37 = .ok (.goto (-28), 3) := by decide +kernel
theorem dX11_dead_40 : decode cX11_dead 40 = .ok (.iload_n 1, 1) := by decide +kernel
theorem dX11_dead_41 : decode cX11_dead 41 = .ok (.ireturn, 1) := by decide +kernel
theorem dX11_areWords_0 : decode cX11_areWords 0 = .ok (.iload_n 1, 1) := by decide +kernel
theorem dX11_areWords_1 : decode cX11_areWords 1 = .ok (.iconst 0, 1) := by decide +kernel
theorem dX11_areWords_2 : decode cX11_areWords 2 = .ok (.bipush 99, 2) := by decide +kernel
theorem dX11_areWords_4 : decode cX11_areWords 4 = .ok (.invokestatic 124, 3) := by decide +kernel
theorem dX11_areWords_7 : decode cX11_areWords 7 = .ok (.ifCond .eq 17, 3) := by decide +kernel
theorem dX11_areWords_10 : decode cX11_areWords 10 = .ok (.iload_n 2, 1) := by decide +kernel
theorem dX11_areWords_11 : decode cX11_areWords 11 = .ok (.iconst (-1), 1) := by decide +kernel
theorem dX11_areWords_12 : decode cX11_areWords 12 = .ok (.bipush 99, 2) := by decide +kernel
theorem dX11_areWords_14 : decode cX11_areWords 14 = .ok (.invokestatic 124, 3) := by decide +kernel
theorem dX11_areWords_17 : decode cX11_areWords 17 = .ok (.ifCond .eq 7, 3) := by decide +kernel
theorem dX11_areWords_20 : decode cX11_areWords 20 = .ok (.iconst 1, 1) := by decide +kernel
theorem dX11_areWords_21 : decode cX11_areWords 21 = .ok (.goto 4, 3) := by decide +kernel
theorem dX11_areWords_24 : decode cX11_areWords 24 = .ok (.iconst 0, 1) := by decide +kernel
theorem dX11_areWords_25 : decode cX11_areWords 25 = .ok (.ireturn, 1) := by decide +kernel
theorem dX11_often_0 : decode cX11_often 0 = .ok (.iconst 0, 1) := by decide +kernel
theorem dX11_often_1 : decode cX11_often 1 = .ok (.istore_n 3, 1) := by decide +kernel
theorem dX11_often_2 : decode cX11_often 2 = .ok (.iconst 0, 1) := by decide +kernel
theorem dX11_often_3 : decode cX11_often 3 = .ok (.istore 4, 2) := by decide +kernel
theorem dX11_often_5 : decode cX11_often 5 = .ok (.iload 4, 2) := by decide +kernel
theorem dX11_often_7 : decode cX11_often 7 = .ok (.aload_n 0, 1) := by decide +kernel
theorem dX11_often_8 : decode cX11_often 8 = .ok (.getfield 78, 3) := by decide +kernel
theorem dX11_often_11 : decode cX11_often 11 = .ok (.iload_n 1, 1) := by decide +kernel
theorem dX11_often_12 : decode cX11_often 12 = .ok (.iaload, 1) := by decide +kernel
theorem dX11_often_13 : decode cX11_often 13 = .ok (.if_icmp .ge 33, 3) := by decide +kernel
theorem dX11_often_16 : decode cX11_often 16 = .ok (.iload_n 3, 1) := by decide +kernel
theorem dX11_often_17 : decode cX11_often 17 = .ok (.aload_n 0, 1) := by decide +kernel
theorem dX11_often_18 : decode cX11_often 18 = .ok (.getfield 81, 3) := by decide +kernel
theorem dX11_often_21 : decode cX11_often 21 = .ok (.bipush 20, 2) := by decide +kernel
theorem dX11_often_23 : decode cX11_often 23 = .ok (.iload_n 1, 1) := by decide +kernel
theorem dX11_often_24 : decode cX11_often 24 = .ok (.imul, 1) := by decide +kernel
theorem dX11_often_25 : decode cX11_often 25 = .ok (.iload 4, 2) := by decide +kernel
theorem dX11_often_27 : decode cX11_often 27 = .ok (.iadd, 1) := by decide +kernel
theorem dX11_often_28 : decode cX11_often 28 = .ok (.iaload, 1) := by decide +kernel
theorem dX11_often_29 : decode cX11_often 29 = .ok (.iload_n 2, 1) := by decide +kernel
theorem dX11_often_30 : decode cX11_often 30 = .ok (.if_icmp .ne 7, 3) := by decide +kernel
theorem dX11_often_33 : decode cX11_often 33 = .ok (.iconst 1, 1) := by decide +kernel
theorem dX11_often_34 : decode cX11_often 34 = .ok (.goto 4, 3) := by decide +kernel
theorem dX11_often_37 : decode cX11_often 37 = .ok (.iconst 0, 1) := by decide +kernel
theorem dX11_often_38 : decode cX11_often 38 = .ok (.iadd, 1) := by decide +kernel
theorem dX11_often_39 : decode cX11_often 39 = .ok (.istore_n 3, 1) := by decide +kernel
theorem dX11_often_40 : decode cX11_often 40 = .ok (.iinc 4 1, 3) := by decide +kernel
theorem dX11_often_43 : decode cX11_often 43 = .ok (.goto (-38), 3) := by decide +kernel
theorem dX11_often_46 : decode cX11_often 46 = .ok (.iload_n 3, 1) := by decide +kernel
theorem dX11_often_47 : decode cX11_often 47 = .ok (.ireturn, 1) := by decide +kernel
theorem dX11_has_0 : decode cX11_has 0 = .ok (.aload_n 0, 1) := by decide +kernel
theorem dX11_has_1 : decode cX11_has 1 = .ok (.getfield 66, 3) := by decide +kernel
theorem dX11_has_4 : decode cX11_has 4 = .ok (.iload_n 1, 1) := by decide +kernel
theorem dX11_has_5 : decode cX11_has 5 = .ok (.baload, 1) := by decide +kernel
theorem dX11_has_6 : decode cX11_has 6 = .ok (.ifCond .eq 39, 3) := by decide +kernel
theorem dX11_has_9 : decode cX11_has 9 = .ok (.aload_n 0, 1) := by decide +kernel
theorem dX11_has_10 : decode cX11_has 10 = .ok (.getfield 13, 3) := by decide +kernel
theorem dX11_has_13 : decode cX11_has 13 = .ok (.iload_n 1, 1) := by decide +kernel
theorem dX11_has_14 : decode cX11_has 14 = .ok (.baload, 1) := by decide +kernel
theorem dX11_has_15 : decode cX11_has 15 = .ok (.ifCond .ne 30, 3) := by decide +kernel
theorem dX11_has_18 : decode cX11_has 18 = .ok (.aload_n 0, 1) := by decide +kernel
theorem dX11_has_19 : decode cX11_has 19 = .ok (.iload_n 1, 1) := by decide +kernel
theorem dX11_has_20 : decode cX11_has 20 = .ok (.iload_n 2, 1) := by decide +kernel
theorem dX11_has_21 : decode cX11_has 21 = .ok (.invokevirtual 277, 3) := by decide +kernel
theorem dX11_has_24 : decode cX11_has 24 = .ok (.ifCond .le 21, 3) := by decide +kernel
theorem dX11_has_27 : decode cX11_has 27 = .ok (.iload_n 3, 1) := by decide +kernel
theorem dX11_has_28 : decode cX11_has 28 = .ok (.iconst (-1), 1) := by decide +kernel
theorem dX11_has_29 : decode cX11_has 29 = .ok (.if_icmp .eq 12, 3) := by decide +kernel
theorem dX11_has_32 : decode cX11_has 32 = .ok (.aload_n 0, 1) := by decide +kernel
theorem dX11_has_33 : decode cX11_has 33 = .ok (.iload_n 1, 1) := by decide +kernel
theorem dX11_has_34 : decode cX11_has 34 = .ok (.iload_n 3, 1) := by decide +kernel
theorem dX11_has_35 : decode cX11_has 35 = .ok (.invokevirtual 277, 3) := by decide +kernel
theorem dX11_has_38 : decode cX11_has 38 = .ok (.ifCond .le 7, 3) := by decide +kernel
theorem dX11_has_41 : decode cX11_has 41 = .ok (.iconst 1, 1) := by decide +kernel
theorem dX11_has_42 : decode cX11_has 42 = .ok (.goto 4, 3) := by decide +kernel
theorem dX11_has_45 : decode cX11_has 45 = .ok (.iconst 0, 1) := by decide +kernel
theorem dX11_has_46 : decode cX11_has 46 = .ok (.ireturn, 1) := by decide +kernel
theorem dX11_score_0 : decode cX11_score 0 = .ok (.aload_n 0, 1) := by decide +kernel
theorem dX11_score_1 : decode cX11_score 1 = .ok (.iload_n 1, 1) := by decide +kernel
theorem dX11_score_2 : decode cX11_score 2 = .ok (.iload_n 2, 1) := by decide +kernel
theorem dX11_score_3 : decode cX11_score 3 = .ok (.invokevirtual 277, 3) := by decide +kernel
theorem dX11_score_6 : decode cX11_score 6 = .ok (.iload_n 3, 1) := by decide +kernel
theorem dX11_score_7 : decode cX11_score 7 = .ok (.iconst (-1), 1) := by decide +kernel
theorem dX11_score_8 : decode cX11_score 8 = .ok (.if_icmp .ne 7, 3) := by decide +kernel
theorem dX11_score_11 : decode cX11_score 11 = .ok (.iconst 0, 1) := by decide +kernel
theorem dX11_score_12 : decode cX11_score 12 = .ok (.goto 9, 3) := by decide +kernel
theorem dX11_score_15 : decode cX11_score 15 = .ok (.aload_n 0, 1) := by decide +kernel
theorem dX11_score_16 : decode cX11_score 16 = .ok (.iload_n 1, 1) := by decide +kernel
theorem dX11_score_17 : decode cX11_score 17 = .ok (.iload_n 3, 1) := by decide +kernel
theorem dX11_score_18 : decode cX11_score 18 = .ok (.invokevirtual 277, 3) := by decide +kernel
theorem dX11_score_21 : decode cX11_score 21 = .ok (.iadd, 1) := by decide +kernel
theorem dX11_score_22 : decode cX11_score 22 = .ok (.istore 4, 2) := by decide +kernel
theorem dX11_score_24 : decode cX11_score 24 = .ok (.iconst 0, 1) := by decide +kernel
theorem dX11_score_25 : decode cX11_score 25 = .ok (.istore 5, 2) := by decide +kernel
theorem dX11_score_27 : decode cX11_score 27 = .ok (.iconst 0, 1) := by decide +kernel
theorem dX11_score_28 : decode cX11_score 28 = .ok (.istore 6, 2) := by decide +kernel
theorem dX11_score_30 : decode cX11_score 30 = .ok (.iload 6, 2) := by decide +kernel
theorem dX11_score_32 : decode cX11_score 32 = .ok (.iconst 1, 1) := by decide +kernel
theorem dX11_score_33 : decode cX11_score 33 = .ok (.iadd, 1) := by decide +kernel
theorem dX11_score_34 : decode cX11_score 34 = .ok (.aload_n 0, 1) := by decide +kernel
theorem dX11_score_35 : decode cX11_score 35 = .ok (.getfield 78, 3) := by decide +kernel
theorem dX11_score_38 : decode cX11_score 38 = .ok (.iload_n 1, 1) := by decide +kernel
theorem dX11_score_39 : decode cX11_score 39 = .ok (.iaload, 1) := by decide +kernel
theorem dX11_score_40 : decode cX11_score 40 = .ok (.if_icmp .ge 55, 3) := by decide +kernel
theorem dX11_score_43 : decode cX11_score 43 = .ok (.iload 5, 2) := by decide +kernel
theorem dX11_score_45 : decode cX11_score 45 = .ok (.ifCond .ne 37, 3) := by decide +kernel
theorem dX11_score_48 : decode cX11_score 48 = .ok (.aload_n 0, 1) := by decide +kernel
theorem dX11_score_49 : decode cX11_score 49 = .ok (.getfield 81, 3) := by decide +kernel
theorem dX11_score_52 : decode cX11_score 52 = .ok (.bipush 20, 2) := by decide +kernel
theorem dX11_score_54 : decode cX11_score 54 = .ok (.iload_n 1, 1) := by decide +kernel
theorem dX11_score_55 : decode cX11_score 55 = .ok (.imul, 1) := by decide +kernel
theorem dX11_score_56 : decode cX11_score 56 = .ok (.iload 6, 2) := by decide +kernel
theorem dX11_score_58 : decode cX11_score 58 = .ok (.iadd, 1) := by decide +kernel
theorem dX11_score_59 : decode cX11_score 59 = .ok (.iaload, 1) := by decide +kernel
theorem dX11_score_60 : decode cX11_score 60 = .ok (.iload_n 2, 1) := by decide +kernel
theorem dX11_score_61 : decode cX11_score 61 = .ok (.if_icmp .ne 25, 3) := by decide +kernel
theorem dX11_score_64 : decode cX11_score 64 = .ok (.aload_n 0, 1) := by decide +kernel
theorem dX11_score_65 : decode cX11_score 65 = .ok (.getfield 81, 3) := by decide +kernel
theorem dX11_score_68 : decode cX11_score 68 = .ok (.bipush 20, 2) := by decide +kernel
theorem dX11_score_70 : decode cX11_score 70 = .ok (.iload_n 1, 1) := by decide +kernel
theorem dX11_score_71 : decode cX11_score 71 = .ok (.imul, 1) := by decide +kernel
theorem dX11_score_72 : decode cX11_score 72 = .ok (.iload 6, 2) := by decide +kernel
theorem dX11_score_74 : decode cX11_score 74 = .ok (.iadd, 1) := by decide +kernel
theorem dX11_score_75 : decode cX11_score 75 = .ok (.iconst 1, 1) := by decide +kernel
theorem dX11_score_76 : decode cX11_score 76 = .ok (.iadd, 1) := by decide +kernel
theorem dX11_score_77 : decode cX11_score 77 = .ok (.iaload, 1) := by decide +kernel
theorem dX11_score_78 : decode cX11_score 78 = .ok (.iload_n 3, 1) := by decide +kernel
theorem dX11_score_79 : decode cX11_score 79 = .ok (.if_icmp .ne 7, 3) := by decide +kernel
theorem dX11_score_82 : decode cX11_score 82 = .ok (.iconst 1, 1) := by decide +kernel
theorem dX11_score_83 : decode cX11_score 83 = .ok (.goto 4, 3) := by decide +kernel
theorem dX11_score_86 : decode cX11_score 86 = .ok (.iconst 0, 1) := by decide +kernel
theorem dX11_score_87 : decode cX11_score 87 = .ok (.istore 5, 2) := by decide +kernel
theorem dX11_score_89 : decode cX11_score 89 = .ok (.iinc 6 1, 3) := by decide +kernel
theorem dX11_score_92 : decode cX11_score 92 = .ok (.goto (-62), 3) := by decide +kernel
theorem dX11_score_95 : decode cX11_score 95 = .ok (.iload 5, 2) := by decide +kernel
theorem dX11_score_97 : decode cX11_score 97 = .ok (.ifCond .eq 11, 3) := by decide +kernel
theorem dX11_score_100 : decode cX11_score 100 = .ok (.iload 4, 2) := by decide +kernel
theorem dX11_score_102 : decode cX11_score 102 = .ok (.bipush 10, 2) := by decide +kernel
theorem dX11_score_104 : decode cX11_score 104 = .ok (.iadd, 1) := by decide +kernel
theorem dX11_score_105 : decode cX11_score 105 = .ok (.goto 5, 3) := by decide +kernel
theorem dX11_score_108 : decode cX11_score 108 = .ok (.iload 4, 2) := by decide +kernel
theorem dX11_score_110 : decode cX11_score 110 = .ok (.ireturn, 1) := by decide +kernel
theorem dX11_isAnswer_0 : decode cX11_isAnswer 0 = .ok (.aload_n 0, 1) := by decide +kernel
theorem dX11_isAnswer_1 : decode cX11_isAnswer 1 = .ok (.getfield 7, 3) := by decide +kernel
theorem dX11_isAnswer_4 : decode cX11_isAnswer 4 = .ok (.iload_n 1, 1) := by decide +kernel
theorem dX11_isAnswer_5 : decode cX11_isAnswer 5 = .ok (.baload, 1) := by decide +kernel
theorem dX11_isAnswer_6 : decode cX11_isAnswer 6 = .ok (.ifCond .eq 43, 3) := by decide +kernel
theorem dX11_isAnswer_9 : decode cX11_isAnswer 9 = .ok (.aload_n 0, 1) := by decide +kernel
theorem dX11_isAnswer_10 : decode cX11_isAnswer 10 = .ok (.iload_n 1, 1) := by decide +kernel
theorem dX11_isAnswer_11 : decode cX11_isAnswer 11 = .ok (.iload_n 3, 1) := by decide +kernel
theorem dX11_isAnswer_12 : decode cX11_isAnswer 12 = .ok (.iload 4, 2) := by decide +kernel
theorem dX11_isAnswer_14 : decode cX11_isAnswer 14 = .ok (.invokevirtual 281, 3) := by decide +kernel
theorem dX11_isAnswer_17 : decode cX11_isAnswer 17 = .ok (.ifCond .eq 32, 3) := by decide +kernel
theorem dX11_isAnswer_20 : decode cX11_isAnswer 20 = .ok (.iload 5, 2) := by decide +kernel
theorem dX11_isAnswer_22 : decode cX11_isAnswer 22 = .ok (.iconst (-1), 1) := by decide +kernel
theorem dX11_isAnswer_23 : decode cX11_isAnswer 23 = .ok (.if_icmp .eq 13, 3) := by decide +kernel
theorem dX11_isAnswer_26 : decode cX11_isAnswer 26 = .ok (.aload_n 0, 1) := by decide +kernel
theorem dX11_isAnswer_27 : decode cX11_isAnswer 27 = .ok (.iload_n 1, 1) := by decide +kernel
theorem dX11_isAnswer_28 : decode cX11_isAnswer 28 = .ok (.iload 5, 2) := by decide +kernel
theorem dX11_isAnswer_30 : decode cX11_isAnswer 30 = .ok (.invokevirtual 186, 3) := by decide +kernel
theorem dX11_isAnswer_33 : decode cX11_isAnswer 33 = .ok (.ifCond .eq 16, 3) := by decide +kernel
theorem dX11_isAnswer_36 : decode cX11_isAnswer 36 = .ok (.aload_n 0, 1) := by decide +kernel
theorem dX11_isAnswer_37 : decode cX11_isAnswer 37 = .ok (.iload_n 2, 1) := by decide +kernel
theorem dX11_isAnswer_38 : decode cX11_isAnswer 38 = .ok (.iload_n 1, 1) := by decide +kernel
theorem dX11_isAnswer_39 : decode cX11_isAnswer 39 = .ok (.invokevirtual 173, 3) := by decide +kernel
theorem dX11_isAnswer_42 : decode cX11_isAnswer 42 = .ok (.ifCond .eq 7, 3) := by decide +kernel
theorem dX11_isAnswer_45 : decode cX11_isAnswer 45 = .ok (.iconst 1, 1) := by decide +kernel
theorem dX11_isAnswer_46 : decode cX11_isAnswer 46 = .ok (.goto 4, 3) := by decide +kernel
theorem dX11_isAnswer_49 : decode cX11_isAnswer 49 = .ok (.iconst 0, 1) := by decide +kernel
theorem dX11_isAnswer_50 : decode cX11_isAnswer 50 = .ok (.ireturn, 1) := by decide +kernel
theorem dX11_canAsk_0 : decode cX11_canAsk 0 = .ok (.iload_n 1, 1) := by decide +kernel
theorem dX11_canAsk_1 : decode cX11_canAsk 1 = .ok (.iconst 0, 1) := by decide +kernel
theorem dX11_canAsk_2 : decode cX11_canAsk 2 = .ok (.iconst 3, 1) := by decide +kernel
theorem dX11_canAsk_3 : decode cX11_canAsk 3 = .ok (.invokestatic 124, 3) := by decide +kernel
theorem dX11_canAsk_6 : decode cX11_canAsk 6 = .ok (.ifCond .eq 22, 3) := by decide +kernel
theorem dX11_canAsk_9 : decode cX11_canAsk 9 = .ok (.iload 4, 2) := by decide +kernel
theorem dX11_canAsk_11 : decode cX11_canAsk 11 = .ok (.iconst (-1), 1) := by decide +kernel
theorem dX11_canAsk_12 : decode cX11_canAsk 12 = .ok (.aload_n 0, 1) := by decide +kernel
theorem dX11_canAsk_13 : decode cX11_canAsk 13 = .ok (.getfield 118, 3) := by decide +kernel
theorem dX11_canAsk_16 : decode cX11_canAsk 16 = .ok (.iconst 1, 1) := by decide +kernel
theorem dX11_canAsk_17 : decode cX11_canAsk 17 = .ok (.isub, 1) := by decide +kernel
theorem dX11_canAsk_18 : decode cX11_canAsk 18 = .ok (.invokestatic 124, 3) := by decide +kernel
theorem dX11_canAsk_21 : decode cX11_canAsk 21 = .ok (.ifCond .eq 7, 3) := by decide +kernel
theorem dX11_canAsk_24 : decode cX11_canAsk 24 = .ok (.iconst 1, 1) := by decide +kernel
theorem dX11_canAsk_25 : decode cX11_canAsk 25 = .ok (.goto 4, 3) := by decide +kernel
theorem dX11_canAsk_28 : decode cX11_canAsk 28 = .ok (.iconst 0, 1) := by decide +kernel
theorem dX11_canAsk_29 : decode cX11_canAsk 29 = .ok (.istore 5, 2) := by decide +kernel
theorem dX11_canAsk_31 : decode cX11_canAsk 31 = .ok (.aload_n 0, 1) := by decide +kernel
theorem dX11_canAsk_32 : decode cX11_canAsk 32 = .ok (.iload 5, 2) := by decide +kernel
theorem dX11_canAsk_34 : decode cX11_canAsk 34 = .ok (.ifCond .ne 7, 3) := by decide +kernel
theorem dX11_canAsk_37 : decode cX11_canAsk 37 = .ok (.iconst 1, 1) := by decide +kernel
theorem dX11_canAsk_38 : decode cX11_canAsk 38 = .ok (.goto 17, 3) := by decide +kernel
theorem dX11_canAsk_41 : decode cX11_canAsk 41 = .ok (.aload_n 0, 1) := by decide +kernel
theorem dX11_canAsk_42 : decode cX11_canAsk 42 = .ok (.iload_n 2, 1) := by decide +kernel
theorem dX11_canAsk_43 : decode cX11_canAsk 43 = .ok (.iload_n 3, 1) := by decide +kernel
theorem dX11_canAsk_44 : decode cX11_canAsk 44 = .ok (.invokevirtual 284, 3) := by decide +kernel
theorem dX11_canAsk_47 : decode cX11_canAsk 47 = .ok (.ifCond .eq 7, 3) := by decide +kernel
theorem dX11_canAsk_50 : decode cX11_canAsk 50 = .ok (.iconst 0, 1) := by decide +kernel
theorem dX11_canAsk_51 : decode cX11_canAsk 51 = .ok (.goto 4, 3) := by decide +kernel
theorem dX11_canAsk_54 : decode cX11_canAsk 54 = .ok (.iconst 2, 1) := by decide +kernel
theorem dX11_canAsk_55 : decode cX11_canAsk 55 = .ok (.putfield 121, 3) := by decide +kernel
theorem dX11_canAsk_58 : decode cX11_canAsk 58 = .ok (.aload_n 0, 1) := by decide +kernel
theorem dX11_canAsk_59 : decode cX11_canAsk 59 = .ok (.getfield 121, 3) := by decide +kernel
theorem dX11_canAsk_62 : decode cX11_canAsk 62 = .ok (.ifCond .ne 7, 3) := by decide +kernel
theorem dX11_canAsk_65 : decode cX11_canAsk 65 = .ok (.iconst 1, 1) := by decide +kernel
theorem dX11_canAsk_66 : decode cX11_canAsk 66 = .ok (.goto 4, 3) := by decide +kernel
theorem dX11_canAsk_69 : decode cX11_canAsk 69 = .ok (.iconst 0, 1) := by decide +kernel
theorem dX11_canAsk_70 : decode cX11_canAsk 70 = .ok (.ireturn, 1) := by decide +kernel
theorem dX11_answers_0 : decode cX11_answers 0 = .ok (.aload_n 0, 1) := by decide +kernel
theorem dX11_answers_1 : decode cX11_answers 1 = .ok (.iload_n 1, 1) := by decide +kernel
theorem dX11_answers_2 : decode cX11_answers 2 = .ok (.iload_n 2, 1) := by decide +kernel
theorem dX11_answers_3 : decode cX11_answers 3 = .ok (.iload_n 3, 1) := by decide +kernel
theorem dX11_answers_4 : decode cX11_answers 4 = .ok (.iload 4, 2) := by decide +kernel
theorem dX11_answers_6 : decode cX11_answers 6 = .ok (.invokevirtual 287, 3) := by decide +kernel
theorem dX11_answers_9 : decode cX11_answers 9 = .ok (.istore 5, 2) := by decide +kernel
theorem dX11_answers_11 : decode cX11_answers 11 = .ok (.iconst 0, 1) := by decide +kernel
theorem dX11_answers_12 : decode cX11_answers 12 = .ok (.istore 6, 2) := by decide +kernel
theorem dX11_answers_14 : decode cX11_answers 14 = .ok (.iconst 0, 1) := by decide +kernel
theorem dX11_answers_15 : decode cX11_answers 15 = .ok (.istore 7, 2) := by decide +kernel
theorem dX11_answers_17 : decode cX11_answers 17 = .ok (.iload 7, 2) := by decide +kernel
theorem dX11_answers_19 : decode cX11_answers 19 = .ok (.aload_n 0, 1) := by decide +kernel
theorem dX11_answers_20 : decode cX11_answers 20 = .ok (.getfield 118, 3) := by decide +kernel
theorem dX11_answers_23 : decode cX11_answers 23 = .ok (.if_icmp .ge 38, 3) := by decide +kernel
theorem dX11_answers_26 : decode cX11_answers 26 = .ok (.iload 5, 2) := by decide +kernel
theorem dX11_answers_28 : decode cX11_answers 28 = .ok (.ifCond .eq 33, 3) := by decide +kernel
theorem dX11_answers_31 : decode cX11_answers 31 = .ok (.iload 6, 2) := by decide +kernel
theorem dX11_answers_33 : decode cX11_answers 33 = .ok (.aload_n 0, 1) := by decide +kernel
theorem dX11_answers_34 : decode cX11_answers 34 = .ok (.iload 7, 2) := by decide +kernel
theorem dX11_answers_36 : decode cX11_answers 36 = .ok (.iload_n 1, 1) := by decide +kernel
theorem dX11_answers_37 : decode cX11_answers 37 = .ok (.iload_n 2, 1) := by decide +kernel
theorem dX11_answers_38 : decode cX11_answers 38 = .ok (.iload_n 3, 1) := by decide +kernel
theorem dX11_answers_39 : decode cX11_answers 39 = .ok (.iload 4, 2) := by decide +kernel
theorem dX11_answers_41 : decode cX11_answers 41 = .ok (.invokevirtual 291, 3) := by decide +kernel
theorem dX11_answers_44 : decode cX11_answers 44 = .ok (.ifCond .eq 7, 3) := by decide +kernel
theorem dX11_answers_47 : decode cX11_answers 47 = .ok (.iconst 1, 1) := by decide +kernel
theorem dX11_answers_48 : decode cX11_answers 48 = .ok (.goto 4, 3) := by decide +kernel
theorem dX11_answers_51 : decode cX11_answers 51 = .ok (.iconst 0, 1) := by decide +kernel
theorem dX11_answers_52 : decode cX11_answers 52 = .ok (.iadd, 1) := by decide +kernel
theorem dX11_answers_53 : decode cX11_answers 53 = .ok (.istore 6, 2) := by decide +kernel
theorem dX11_answers_55 : decode cX11_answers 55 = .ok (.iinc 7 1, 3) := by decide +kernel
theorem dX11_answers_58 : decode cX11_answers 58 = .ok (.goto (-41), 3) := by decide +kernel
theorem dX11_answers_61 : decode cX11_answers 61 = .ok (.iload 6, 2) := by decide +kernel
theorem dX11_answers_63 : decode cX11_answers 63 = .ok (.ireturn, 1) := by decide +kernel
theorem dX11_answersAnew_0 : decode cX11_answersAnew 0 = .ok (.aload_n 0, 1) := by decide +kernel
theorem dX11_answersAnew_1 : decode cX11_answersAnew 1 = .ok (.iload_n 1, 1) := by decide +kernel
theorem dX11_answersAnew_2 : decode cX11_answersAnew 2 = .ok (.iload_n 2, 1) := by decide +kernel
theorem dX11_answersAnew_3 : decode cX11_answersAnew 3 = .ok (.iload_n 3, 1) := by decide +kernel
theorem dX11_answersAnew_4 : decode cX11_answersAnew 4 = .ok (.iload 4, 2) := by decide +kernel
theorem dX11_answersAnew_6 : decode cX11_answersAnew 6 = .ok (.invokevirtual 287, 3) := by decide +kernel
theorem dX11_answersAnew_9 : decode cX11_answersAnew 9 = .ok (.istore 5, 2) := by decide +kernel
theorem dX11_answersAnew_11 : decode cX11_answersAnew 11 = .ok (.iconst 0, 1) := by decide +kernel
theorem dX11_answersAnew_12 : decode cX11_answersAnew 12 = .ok (.istore 6, 2) := by decide +kernel
theorem dX11_answersAnew_14 : decode cX11_answersAnew 14 = .ok (.iconst 0, 1) := by decide +kernel
theorem dX11_answersAnew_15 : decode cX11_answersAnew 15 = .ok (.istore 7, 2) := by decide +kernel
theorem dX11_answersAnew_17 : decode cX11_answersAnew 17 = .ok (.iload 7, 2) := by decide +kernel
theorem dX11_answersAnew_19 : decode cX11_answersAnew 19 = .ok (.aload_n 0, 1) := by decide +kernel
theorem dX11_answersAnew_20 : decode cX11_answersAnew 20 = .ok (.getfield 118, 3) := by decide +kernel
theorem dX11_answersAnew_23 : decode cX11_answersAnew 23 = .ok (.if_icmp .ge 210, 3) := by decide +kernel
theorem dX11_answersAnew_26 : decode cX11_answersAnew 26 = .ok (.iload 5, 2) := by decide +kernel
theorem dX11_answersAnew_28 : decode cX11_answersAnew 28 = .ok (.ifCond .eq 205, 3) := by decide +kernel
theorem dX11_answersAnew_31 : decode cX11_answersAnew 31 = .ok (.aload_n 0, 1) := by decide +kernel
theorem dX11_answersAnew_32 : decode cX11_answersAnew 32 = .ok (.iload 7, 2) := by decide +kernel
theorem dX11_answersAnew_34 : decode cX11_answersAnew 34 = .ok (.invokevirtual 150, 3) := by decide +kernel
theorem dX11_answersAnew_37 : decode cX11_answersAnew 37 = .ok (.istore 8, 2) := by decide +kernel
theorem dX11_answersAnew_39 : decode cX11_answersAnew 39 = .ok (.iload 8, 2) := by decide +kernel
theorem dX11_answersAnew_41 : decode cX11_answersAnew 41 = .ok (.iconst (-1), 1) := by decide +kernel
theorem dX11_answersAnew_42 : decode cX11_answersAnew 42 = .ok (.if_icmp .eq 62, 3) := by decide +kernel
theorem dX11_answersAnew_45 : decode cX11_answersAnew 45 = .ok (.aload_n 0, 1) := by decide +kernel
theorem dX11_answersAnew_46 : decode cX11_answersAnew 46 = .ok (.getfield 13, 3) := by decide +kernel
theorem dX11_answersAnew_49 : decode cX11_answersAnew 49 = .ok (.iload 7, 2) := by decide +kernel
theorem dX11_answersAnew_51 : decode cX11_answersAnew 51 = .ok (.baload, 1) := by decide +kernel
theorem dX11_answersAnew_52 : decode cX11_answersAnew 52 = .ok (.ifCond .ne 52, 3) := by decide +kernel
theorem dX11_answersAnew_55 : decode cX11_answersAnew 55 = .ok (.iload 4, 2) := by decide +kernel
theorem dX11_answersAnew_57 : decode cX11_answersAnew 57 = .ok (.iconst (-1), 1) := by decide +kernel
theorem dX11_answersAnew_58 : decode cX11_answersAnew 58 = .ok (.if_icmp .eq 42, 3) := by decide +kernel
theorem dX11_answersAnew_61 : decode cX11_answersAnew 61 = .ok (.aload_n 0, 1) := by decide +kernel
theorem dX11_answersAnew_62 : decode cX11_answersAnew 62 = .ok (.iload 7, 2) := by decide +kernel
theorem dX11_answersAnew_64 : decode cX11_answersAnew 64 = .ok (.iload 4, 2) := by decide +kernel
theorem dX11_answersAnew_66 : decode cX11_answersAnew 66 = .ok (.invokevirtual 135, 3) := by decide +kernel
theorem dX11_answersAnew_69 : decode cX11_answersAnew 69 = .ok (.ifCond .eq 35, 3) := by decide +kernel
theorem dX11_answersAnew_72 : decode cX11_answersAnew 72 = .ok (.iload 4, 2) := by decide +kernel
theorem dX11_answersAnew_74 : decode cX11_answersAnew 74 = .ok (.aload_n 0, 1) := by decide +kernel
theorem dX11_answersAnew_75 : decode cX11_answersAnew 75 = .ok (.getfield 39, 3) := by decide +kernel
theorem dX11_answersAnew_78 : decode cX11_answersAnew 78 = .ok (.iload 8, 2) := by decide +kernel
theorem dX11_answersAnew_80 : decode cX11_answersAnew 80 = .ok (.iaload, 1) := by decide +kernel
theorem dX11_answersAnew_81 : decode cX11_answersAnew 81 = .ok (.if_icmp .eq 19, 3) := by decide +kernel
theorem dX11_answersAnew_84 : decode cX11_answersAnew 84 = .ok (.aload_n 0, 1) := by decide +kernel
theorem dX11_answersAnew_85 : decode cX11_answersAnew 85 = .ok (.iload 4, 2) := by decide +kernel
theorem dX11_answersAnew_87 : decode cX11_answersAnew 87 = .ok (.aload_n 0, 1) := by decide +kernel
theorem dX11_answersAnew_88 : decode cX11_answersAnew 88 = .ok (.getfield 39, 3) := by decide +kernel
theorem dX11_answersAnew_91 : decode cX11_answersAnew 91 = .ok (.iload 8, 2) := by decide +kernel
theorem dX11_answersAnew_93 : decode cX11_answersAnew 93 = .ok (.iaload, 1) := by decide +kernel
theorem dX11_answersAnew_94 : decode cX11_answersAnew 94 = .ok (.invokevirtual 135, 3) := by decide +kernel
theorem dX11_answersAnew_97 : decode cX11_answersAnew 97 = .ok (.ifCond .eq 7, 3) := by decide +kernel
theorem dX11_answersAnew_100 : decode cX11_answersAnew 100 = .ok (.iconst 1, 1) := by decide +kernel
theorem dX11_answersAnew_101 : decode cX11_answersAnew 101 = .ok (.goto 4, 3) := by decide +kernel
theorem dX11_answersAnew_104 : decode cX11_answersAnew 104 = .ok (.iconst 0, 1) := by decide +kernel
theorem dX11_answersAnew_105 : decode cX11_answersAnew 105 = .ok (.istore 9, 2) := by decide +kernel
theorem dX11_answersAnew_107 : decode cX11_answersAnew 107 = .ok (.iload 9, 2) := by decide +kernel
theorem dX11_answersAnew_109 : decode cX11_answersAnew 109 = .ok (.ifCond .eq 118, 3) := by decide +kernel
theorem dX11_answersAnew_112 : decode cX11_answersAnew 112 = .ok (.aload_n 0, 1) := by decide +kernel
theorem dX11_answersAnew_113 : decode cX11_answersAnew 113 = .ok (.iload_n 1, 1) := by decide +kernel
theorem dX11_answersAnew_114 : decode cX11_answersAnew 114 = .ok (.iload 7, 2) := by decide +kernel
theorem dX11_answersAnew_116 : decode cX11_answersAnew 116 = .ok (.invokevirtual 173, 3) := by decide +kernel
theorem dX11_answersAnew_119 : decode cX11_answersAnew 119 = .ok (.ifCond .eq 108, 3) := by decide +kernel
theorem dX11_answersAnew_122 : decode cX11_answersAnew 122 = .ok (.aload_n 0, 1) := by decide +kernel
theorem dX11_answersAnew_123 : decode cX11_answersAnew 123 = .ok (.iload 7, 2) := by decide +kernel
theorem dX11_answersAnew_125 : decode cX11_answersAnew 125 = .ok (.invokevirtual 210, 3) := by decide +kernel
theorem dX11_answersAnew_128 : decode cX11_answersAnew 128 = .ok (.iconst 0, 1) := by decide +kernel
theorem dX11_answersAnew_129 : decode cX11_answersAnew 129 = .ok (.istore 10, 2) := by decide +kernel
theorem dX11_answersAnew_131 : decode cX11_answersAnew 131 = .ok (.iload_n 3, 1) := by decide +kernel
theorem dX11_answersAnew_132 : decode cX11_answersAnew 132 = .ok (.iconst (-1), 1) := by decide +kernel
theorem dX11_answersAnew_133 : decode cX11_answersAnew 133 = .ok (.if_icmp .ne 7, 3) := by decide +kernel
theorem dX11_answersAnew_136 : decode cX11_answersAnew 136 = .ok (.iconst 1, 1) := by decide +kernel
theorem dX11_answersAnew_137 : decode cX11_answersAnew 137 = .ok (.goto 4, 3) := by decide +kernel
theorem dX11_answersAnew_140 : decode cX11_answersAnew 140 = .ok (.iconst 0, 1) := by decide +kernel
theorem dX11_answersAnew_141 : decode cX11_answersAnew 141 = .ok (.istore 11, 2) := by decide +kernel
theorem dX11_answersAnew_143 : decode cX11_answersAnew 143 = .ok (.iconst 0, 1) := by decide +kernel
theorem dX11_answersAnew_144 : decode cX11_answersAnew 144 = .ok (.istore 12, 2) := by decide +kernel
theorem dX11_answersAnew_146 : decode cX11_answersAnew 146 = .ok (.iload 12, 2) := by decide +kernel
theorem dX11_answersAnew_148 : decode cX11_answersAnew 148 = .ok (.aload_n 0, 1) := by decide +kernel
theorem dX11_answersAnew_149 : decode cX11_answersAnew 149 = .ok (.getfield 195, 3) := by decide +kernel
theorem dX11_answersAnew_152 : decode cX11_answersAnew 152 = .ok (.if_icmp .ge 55, 3) := by decide +kernel
theorem dX11_answersAnew_155 : decode cX11_answersAnew 155 = .ok (.iload 10, 2) := by decide +kernel
theorem dX11_answersAnew_157 : decode cX11_answersAnew 157 = .ok (.ifCond .ne 14, 3) := by decide +kernel
theorem dX11_answersAnew_160 : decode cX11_answersAnew 160 = .ok (.aload_n 0, 1) := by decide +kernel
theorem dX11_answersAnew_161 : decode cX11_answersAnew 161 = .ok (.getfield 115, 3) := by decide +kernel
theorem dX11_answersAnew_164 : decode cX11_answersAnew 164 = .ok (.iload 12, 2) := by decide +kernel
theorem dX11_answersAnew_166 : decode cX11_answersAnew 166 = .ok (.iaload, 1) := by decide +kernel
theorem dX11_answersAnew_167 : decode cX11_answersAnew 167 = .ok (.iload_n 2, 1) := by decide +kernel
theorem dX11_answersAnew_168 : decode cX11_answersAnew 168 = .ok (.if_icmp .ne 7, 3) := by decide +kernel
theorem dX11_answersAnew_171 : decode cX11_answersAnew 171 = .ok (.iconst 1, 1) := by decide +kernel
theorem dX11_answersAnew_172 : decode cX11_answersAnew 172 = .ok (.goto 4, 3) := by decide +kernel
theorem dX11_answersAnew_175 : decode cX11_answersAnew 175 = .ok (.iconst 0, 1) := by decide +kernel
theorem dX11_answersAnew_176 : decode cX11_answersAnew 176 = .ok (.istore 10, 2) := by decide +kernel
theorem dX11_answersAnew_178 : decode cX11_answersAnew 178 = .ok (.iload 11, 2) := by decide +kernel
theorem dX11_answersAnew_180 : decode cX11_answersAnew 180 = .ok (.ifCond .ne 14, 3) := by decide +kernel
theorem dX11_answersAnew_183 : decode cX11_answersAnew 183 = .ok (.aload_n 0, 1) := by decide +kernel
theorem dX11_answersAnew_184 : decode cX11_answersAnew 184 = .ok (.getfield 115, 3) := by decide +kernel
theorem dX11_answersAnew_187 : decode cX11_answersAnew 187 = .ok (.iload 12, 2) := by decide +kernel
theorem dX11_answersAnew_189 : decode cX11_answersAnew 189 = .ok (.iaload, 1) := by decide +kernel
theorem dX11_answersAnew_190 : decode cX11_answersAnew 190 = .ok (.iload_n 3, 1) := by decide +kernel
theorem dX11_answersAnew_191 : decode cX11_answersAnew 191 = .ok (.if_icmp .ne 7, 3) := by decide +kernel
theorem dX11_answersAnew_194 : decode cX11_answersAnew 194 = .ok (.iconst 1, 1) := by decide +kernel
theorem dX11_answersAnew_195 : decode cX11_answersAnew 195 = .ok (.goto 4, 3) := by decide +kernel
theorem dX11_answersAnew_198 : decode cX11_answersAnew 198 = .ok (.iconst 0, 1) := by decide +kernel
theorem dX11_answersAnew_199 : decode cX11_answersAnew 199 = .ok (.istore 11, 2) := by decide +kernel
theorem dX11_answersAnew_201 : decode cX11_answersAnew 201 = .ok (.iinc 12 1, 3) := by decide +kernel
theorem dX11_answersAnew_204 : decode cX11_answersAnew 204 = .ok (.goto (-58), 3) := by decide +kernel
theorem dX11_answersAnew_207 : decode cX11_answersAnew 207 = .ok (.iload 6, 2) := by decide +kernel
theorem dX11_answersAnew_209 : decode cX11_answersAnew 209 = .ok (.iload 10, 2) := by decide +kernel
theorem dX11_answersAnew_211 : decode cX11_answersAnew 211 = .ok (.ifCond .eq 12, 3) := by decide +kernel
theorem dX11_answersAnew_214 : decode cX11_answersAnew 214 = .ok (.iload 11, 2) := by decide +kernel
theorem dX11_answersAnew_216 : decode cX11_answersAnew 216 = .ok (.ifCond .eq 7, 3) := by decide +kernel
theorem dX11_answersAnew_219 : decode cX11_answersAnew 219 = .ok (.iconst 1, 1) := by decide +kernel
theorem dX11_answersAnew_220 : decode cX11_answersAnew 220 = .ok (.goto 4, 3) := by decide +kernel
theorem dX11_answersAnew_223 : decode cX11_answersAnew 223 = .ok (.iconst 0, 1) := by decide +kernel
theorem dX11_answersAnew_224 : decode cX11_answersAnew 224 = .ok (.iadd, 1) := by decide +kernel
theorem dX11_answersAnew_225 : decode cX11_answersAnew 225 = .ok (.istore 6, 2) := by decide +kernel
theorem dX11_answersAnew_227 : decode cX11_answersAnew 227 = .ok (.iinc 7 1, 3) := by decide +kernel
theorem dX11_answersAnew_230 : decode cX11_answersAnew 230 = .ok (.goto (-213), 3) := by decide +kernel
theorem dX11_answersAnew_233 : decode cX11_answersAnew 233 = .ok (.iload 6, 2) := by decide +kernel
theorem dX11_answersAnew_235 : decode cX11_answersAnew 235 = .ok (.ireturn, 1) := by decide +kernel
theorem dX11_answer_0 : decode cX11_answer 0 = .ok (.iload_n 1, 1) := by decide +kernel
theorem dX11_answer_1 : decode cX11_answer 1 = .ok (.iconst 0, 1) := by decide +kernel
theorem dX11_answer_2 : decode cX11_answer 2 = .ok (.iconst 3, 1) := by decide +kernel
theorem dX11_answer_3 : decode cX11_answer 3 = .ok (.invokestatic 124, 3) := by decide +kernel
theorem dX11_answer_6 : decode cX11_answer 6 = .ok (.ifCond .ne 9, 3) := by decide +kernel
theorem dX11_answer_9 : decode cX11_answer 9 = .ok (.aload_n 0, 1) := by decide +kernel
theorem dX11_answer_10 : decode cX11_answer 10 = .ok (.iconst 1, 1) := by decide +kernel
theorem dX11_answer_11 : decode cX11_answer 11 = .ok (.invokevirtual 142, 3) := by decide +kernel
theorem dX11_answer_14 : decode cX11_answer 14 = .ok (.ireturn, 1) := by decide +kernel
theorem dX11_answer_15 : decode cX11_answer 15 = .ok (.aload_n 0, 1) := by decide +kernel
theorem dX11_answer_16 : decode cX11_answer 16 = .ok (.aload_n 0, 1) := by decide +kernel
theorem dX11_answer_17 : decode cX11_answer 17 = .ok (.iload_n 2, 1) := by decide +kernel
theorem dX11_answer_18 : decode cX11_answer 18 = .ok (.iload_n 3, 1) := by decide +kernel
theorem dX11_answer_19 : decode cX11_answer 19 = .ok (.invokevirtual 284, 3) := by decide +kernel
theorem dX11_answer_22 : decode cX11_answer 22 = .ok (.ifCond .eq 7, 3) := by decide +kernel
theorem dX11_answer_25 : decode cX11_answer 25 = .ok (.iconst 0, 1) := by decide +kernel
theorem dX11_answer_26 : decode cX11_answer 26 = .ok (.goto 4, 3) := by decide +kernel
theorem dX11_answer_29 : decode cX11_answer 29 = .ok (.iconst 2, 1) := by decide +kernel
theorem dX11_answer_30 : decode cX11_answer 30 = .ok (.putfield 121, 3) := by decide +kernel
theorem dX11_answer_33 : decode cX11_answer 33 = .ok (.aload_n 0, 1) := by decide +kernel
theorem dX11_answer_34 : decode cX11_answer 34 = .ok (.getfield 121, 3) := by decide +kernel
theorem dX11_answer_37 : decode cX11_answer 37 = .ok (.ifCond .le 5, 3) := by decide +kernel
theorem dX11_answer_40 : decode cX11_answer 40 = .ok (.iconst 0, 1) := by decide +kernel
theorem dX11_answer_41 : decode cX11_answer 41 = .ok (.ireturn, 1) := by decide +kernel
theorem dX11_answer_42 : decode cX11_answer 42 = .ok (.iconst 0, 1) := by decide +kernel
theorem dX11_answer_43 : decode cX11_answer 43 = .ok (.istore 5, 2) := by decide +kernel
theorem dX11_answer_45 : decode cX11_answer 45 = .ok (.iload 5, 2) := by decide +kernel
theorem dX11_answer_47 : decode cX11_answer 47 = .ok (.aload_n 0, 1) := by decide +kernel
theorem dX11_answer_48 : decode cX11_answer 48 = .ok (.getfield 118, 3) := by decide +kernel
theorem dX11_answer_51 : decode cX11_answer 51 = .ok (.if_icmp .ge 144, 3) := by decide +kernel
theorem dX11_answer_54 : decode cX11_answer 54 = .ok (.aload_n 0, 1) := by decide +kernel
theorem dX11_answer_55 : decode cX11_answer 55 = .ok (.iload 5, 2) := by decide +kernel
theorem dX11_answer_57 : decode cX11_answer 57 = .ok (.iload_n 1, 1) := by decide +kernel
theorem dX11_answer_58 : decode cX11_answer 58 = .ok (.iload_n 2, 1) := by decide +kernel
theorem dX11_answer_59 : decode cX11_answer 59 = .ok (.iload_n 3, 1) := by decide +kernel
theorem dX11_answer_60 : decode cX11_answer 60 = .ok (.iconst (-1), 1) := by decide +kernel
theorem dX11_answer_61 : decode cX11_answer 61 = .ok (.invokevirtual 291, 3) := by decide +kernel
theorem dX11_answer_64 : decode cX11_answer 64 = .ok (.ifCond .eq 125, 3) := by decide +kernel
theorem dX11_answer_67 : decode cX11_answer 67 = .ok (.iconst 0, 1) := by decide +kernel
theorem dX11_answer_68 : decode cX11_answer 68 = .ok (.istore 6, 2) := by decide +kernel
theorem dX11_answer_70 : decode cX11_answer 70 = .ok (.aload_n 0, 1) := by decide +kernel
theorem dX11_answer_71 : decode cX11_answer 71 = .ok (.iload 5, 2) := by decide +kernel
theorem dX11_answer_73 : decode cX11_answer 73 = .ok (.iload_n 2, 1) := by decide +kernel
theorem dX11_answer_74 : decode cX11_answer 74 = .ok (.iload_n 3, 1) := by decide +kernel
theorem dX11_answer_75 : decode cX11_answer 75 = .ok (.invokevirtual 295, 3) := by decide +kernel
theorem dX11_answer_78 : decode cX11_answer 78 = .ok (.istore 7, 2) := by decide +kernel
theorem dX11_answer_80 : decode cX11_answer 80 = .ok (.iconst 0, 1) := by decide +kernel
theorem dX11_answer_81 : decode cX11_answer 81 = .ok (.istore 8, 2) := by decide +kernel
theorem dX11_answer_83 : decode cX11_answer 83 = .ok (.iload 8, 2) := by decide +kernel
theorem dX11_answer_85 : decode cX11_answer 85 = .ok (.aload_n 0, 1) := by decide +kernel
theorem dX11_answer_86 : decode cX11_answer 86 = .ok (.getfield 118, 3) := by decide +kernel
theorem dX11_answer_89 : decode cX11_answer 89 = .ok (.if_icmp .ge 84, 3) := by decide +kernel
theorem dX11_answer_92 : decode cX11_answer 92 = .ok (.iload 8, 2) := by decide +kernel
theorem dX11_answer_94 : decode cX11_answer 94 = .ok (.iload 5, 2) := by decide +kernel
theorem dX11_answer_96 : decode cX11_answer 96 = .ok (.if_icmp .eq 20, 3) := by decide +kernel
theorem dX11_answer_99 : decode cX11_answer 99 = .ok (.aload_n 0, 1) := by decide +kernel
theorem dX11_answer_100 : decode cX11_answer 100 = .ok (.iload 8, 2) := by decide +kernel
theorem dX11_answer_102 : decode cX11_answer 102 = .ok (.iload_n 1, 1) := by decide +kernel
theorem dX11_answer_103 : decode cX11_answer 103 = .ok (.iload_n 2, 1) := by decide +kernel
theorem dX11_answer_104 : decode cX11_answer 104 = .ok (.iload_n 3, 1) := by decide +kernel
theorem dX11_answer_105 : decode cX11_answer 105 = .ok (.iconst (-1), 1) := by decide +kernel
theorem dX11_answer_106 : decode cX11_answer 106 = .ok (.invokevirtual 291, 3) := by decide +kernel
theorem dX11_answer_109 : decode cX11_answer 109 = .ok (.ifCond .eq 7, 3) := by decide +kernel
theorem dX11_answer_112 : decode cX11_answer 112 = .ok (.iconst 1, 1) := by decide +kernel
theorem dX11_answer_113 : decode cX11_answer 113 = .ok (.goto 4, 3) := by decide +kernel
theorem dX11_answer_116 : decode cX11_answer 116 = .ok (.iconst 0, 1) := by decide +kernel
theorem dX11_answer_117 : decode cX11_answer 117 = .ok (.istore 9, 2) := by decide +kernel
theorem dX11_answer_119 : decode cX11_answer 119 = .ok (.iload 6, 2) := by decide +kernel
theorem dX11_answer_121 : decode cX11_answer 121 = .ok (.iload 9, 2) := by decide +kernel
theorem dX11_answer_123 : decode cX11_answer 123 = .ok (.ifCond .eq 40, 3) := by decide +kernel
theorem dX11_answer_126 : decode cX11_answer 126 = .ok (.aload_n 0, 1) := by decide +kernel
theorem dX11_answer_127 : decode cX11_answer 127 = .ok (.iload 8, 2) := by decide +kernel
theorem dX11_answer_129 : decode cX11_answer 129 = .ok (.iload_n 2, 1) := by decide +kernel
theorem dX11_answer_130 : decode cX11_answer 130 = .ok (.iload_n 3, 1) := by decide +kernel
theorem dX11_answer_131 : decode cX11_answer 131 = .ok (.invokevirtual 295, 3) := by decide +kernel
theorem dX11_answer_134 : decode cX11_answer 134 = .ok (.iload 7, 2) := by decide +kernel
theorem dX11_answer_136 : decode cX11_answer 136 = .ok (.if_icmp .gt 23, 3) := by decide +kernel
theorem dX11_answer_139 : decode cX11_answer 139 = .ok (.aload_n 0, 1) := by decide +kernel
theorem dX11_answer_140 : decode cX11_answer 140 = .ok (.iload 8, 2) := by decide +kernel
theorem dX11_answer_142 : decode cX11_answer 142 = .ok (.iload_n 2, 1) := by decide +kernel
theorem dX11_answer_143 : decode cX11_answer 143 = .ok (.iload_n 3, 1) := by decide +kernel
theorem dX11_answer_144 : decode cX11_answer 144 = .ok (.invokevirtual 295, 3) := by decide +kernel
theorem dX11_answer_147 : decode cX11_answer 147 = .ok (.iload 7, 2) := by decide +kernel
theorem dX11_answer_149 : decode cX11_answer 149 = .ok (.if_icmp .ne 14, 3) := by decide +kernel
theorem dX11_answer_152 : decode cX11_answer 152 = .ok (.iload 8, 2) := by decide +kernel
theorem dX11_answer_154 : decode cX11_answer 154 = .ok (.iload 5, 2) := by decide +kernel
theorem dX11_answer_156 : decode cX11_answer 156 = .ok (.if_icmp .ge 7, 3) := by decide +kernel
theorem dX11_answer_159 : decode cX11_answer 159 = .ok (.iconst 1, 1) := by decide +kernel
theorem dX11_answer_160 : decode cX11_answer 160 = .ok (.goto 4, 3) := by decide +kernel
theorem dX11_answer_163 : decode cX11_answer 163 = .ok (.iconst 0, 1) := by decide +kernel
theorem dX11_answer_164 : decode cX11_answer 164 = .ok (.iadd, 1) := by decide +kernel
theorem dX11_answer_165 : decode cX11_answer 165 = .ok (.istore 6, 2) := by decide +kernel
theorem dX11_answer_167 : decode cX11_answer 167 = .ok (.iinc 8 1, 3) := by decide +kernel
theorem dX11_answer_170 : decode cX11_answer 170 = .ok (.goto (-87), 3) := by decide +kernel
theorem dX11_answer_173 : decode cX11_answer 173 = .ok (.iload 6, 2) := by decide +kernel
theorem dX11_answer_175 : decode cX11_answer 175 = .ok (.iload 4, 2) := by decide +kernel
theorem dX11_answer_177 : decode cX11_answer 177 = .ok (.if_icmp .ne 12, 3) := by decide +kernel
theorem dX11_answer_180 : decode cX11_answer 180 = .ok (.bipush 100, 2) := by decide +kernel
theorem dX11_answer_182 : decode cX11_answer 182 = .ok (.iload 7, 2) := by decide +kernel
theorem dX11_answer_184 : decode cX11_answer 184 = .ok (.imul, 1) := by decide +kernel
theorem dX11_answer_185 : decode cX11_answer 185 = .ok (.iload 5, 2) := by decide +kernel
theorem dX11_answer_187 : decode cX11_answer 187 = .ok (.iadd, 1) := by decide +kernel
theorem dX11_answer_188 : decode cX11_answer 188 = .ok (.ireturn, 1) := by decide +kernel
theorem dX11_answer_189 : decode cX11_answer 189 = .ok (.iinc 5 1, 3) := by decide +kernel
theorem dX11_answer_192 : decode cX11_answer 192 = .ok (.goto (-147), 3) := by decide +kernel
theorem dX11_answer_195 : decode cX11_answer 195 = .ok (.aload_n 0, 1) := by decide +kernel
theorem dX11_answer_196 : decode cX11_answer 196 = .ok (.iconst 1, 1) := by decide +kernel
theorem dX11_answer_197 : decode cX11_answer 197 = .ok (.invokevirtual 142, 3) := by decide +kernel
theorem dX11_answer_200 : decode cX11_answer 200 = .ok (.ireturn, 1) := by decide +kernel
theorem dX11_closest_0 : decode cX11_closest 0 = .ok (.iload_n 1, 1) := by decide +kernel
theorem dX11_closest_1 : decode cX11_closest 1 = .ok (.iconst 0, 1) := by decide +kernel
theorem dX11_closest_2 : decode cX11_closest 2 = .ok (.iconst 3, 1) := by decide +kernel
theorem dX11_closest_3 : decode cX11_closest 3 = .ok (.invokestatic 124, 3) := by decide +kernel
theorem dX11_closest_6 : decode cX11_closest 6 = .ok (.ifCond .eq 20, 3) := by decide +kernel
theorem dX11_closest_9 : decode cX11_closest 9 = .ok (.aload_n 0, 1) := by decide +kernel
theorem dX11_closest_10 : decode cX11_closest 10 = .ok (.iload_n 2, 1) := by decide +kernel
theorem dX11_closest_11 : decode cX11_closest 11 = .ok (.invokevirtual 157, 3) := by decide +kernel
theorem dX11_closest_14 : decode cX11_closest 14 = .ok (.ifCond .eq 12, 3) := by decide +kernel
theorem dX11_closest_17 : decode cX11_closest 17 = .ok (.aload_n 0, 1) := by decide +kernel
theorem dX11_closest_18 : decode cX11_closest 18 = .ok (.iload_n 1, 1) := by decide +kernel
theorem dX11_closest_19 : decode cX11_closest 19 = .ok (.iload_n 2, 1) := by decide +kernel
theorem dX11_closest_20 : decode cX11_closest 20 = .ok (.invokevirtual 173, 3) := by decide +kernel
theorem dX11_closest_23 : decode cX11_closest 23 = .ok (.ifCond .ne 9, 3) := by decide +kernel
theorem dX11_closest_26 : decode cX11_closest 26 = .ok (.aload_n 0, 1) := by decide +kernel
theorem dX11_closest_27 : decode cX11_closest 27 = .ok (.iconst 1, 1) := by decide +kernel
theorem dX11_closest_28 : decode cX11_closest 28 = .ok (.invokevirtual 142, 3) := by decide +kernel
theorem dX11_closest_31 : decode cX11_closest 31 = .ok (.ireturn, 1) := by decide +kernel
theorem dX11_closest_32 : decode cX11_closest 32 = .ok (.aload_n 0, 1) := by decide +kernel
theorem dX11_closest_33 : decode cX11_closest 33 = .ok (.iload_n 3, 1) := by decide +kernel
theorem dX11_closest_34 : decode cX11_closest 34 = .ok (.iconst 0, 1) := by decide +kernel
theorem dX11_closest_35 : decode cX11_closest 35 = .ok (.bipush 99, 2) := by decide +kernel
theorem dX11_closest_37 : decode cX11_closest 37 = .ok (.invokestatic 124, 3) := by decide +kernel
theorem dX11_closest_40 : decode cX11_closest 40 = .ok (.ifCond .eq 18, 3) := by decide +kernel
theorem dX11_closest_43 : decode cX11_closest 43 = .ok (.iload 4, 2) := by decide +kernel
theorem dX11_closest_45 : decode cX11_closest 45 = .ok (.iconst 0, 1) := by decide +kernel
theorem dX11_closest_46 : decode cX11_closest 46 = .ok (.bipush 99, 2) := by decide +kernel
theorem dX11_closest_48 : decode cX11_closest 48 = .ok (.invokestatic 124, 3) := by decide +kernel
theorem dX11_closest_51 : decode cX11_closest 51 = .ok (.ifCond .eq 7, 3) := by decide +kernel
theorem dX11_closest_54 : decode cX11_closest 54 = .ok (.iconst 0, 1) := by decide +kernel
theorem dX11_closest_55 : decode cX11_closest 55 = .ok (.goto 4, 3) := by decide +kernel
theorem dX11_closest_58 : decode cX11_closest 58 = .ok (.iconst 2, 1) := by decide +kernel
theorem dX11_closest_59 : decode cX11_closest 59 = .ok (.putfield 121, 3) := by decide +kernel
theorem dX11_closest_62 : decode cX11_closest 62 = .ok (.aload_n 0, 1) := by decide +kernel
theorem dX11_closest_63 : decode cX11_closest 63 = .ok (.getfield 121, 3) := by decide +kernel
theorem dX11_closest_66 : decode cX11_closest 66 = .ok (.ifCond .le 5, 3) := by decide +kernel
theorem dX11_closest_69 : decode cX11_closest 69 = .ok (.iconst 0, 1) := by decide +kernel
theorem dX11_closest_70 : decode cX11_closest 70 = .ok (.ireturn, 1) := by decide +kernel
theorem dX11_closest_71 : decode cX11_closest 71 = .ok (.iconst (-1), 1) := by decide +kernel
theorem dX11_closest_72 : decode cX11_closest 72 = .ok (.istore 5, 2) := by decide +kernel
theorem dX11_closest_74 : decode cX11_closest 74 = .ok (.aload_n 0, 1) := by decide +kernel
theorem dX11_closest_75 : decode cX11_closest 75 = .ok (.getfield 66, 3) := by decide +kernel
theorem dX11_closest_78 : decode cX11_closest 78 = .ok (.iload_n 2, 1) := by decide +kernel
theorem dX11_closest_79 : decode cX11_closest 79 = .ok (.baload, 1) := by decide +kernel
theorem dX11_closest_80 : decode cX11_closest 80 = .ok (.ifCond .eq 12, 3) := by decide +kernel
theorem dX11_closest_83 : decode cX11_closest 83 = .ok (.aload_n 0, 1) := by decide +kernel
theorem dX11_closest_84 : decode cX11_closest 84 = .ok (.getfield 78, 3) := by decide +kernel
theorem dX11_closest_87 : decode cX11_closest 87 = .ok (.iload_n 2, 1) := by decide +kernel
theorem dX11_closest_88 : decode cX11_closest 88 = .ok (.iaload, 1) := by decide +kernel
theorem dX11_closest_89 : decode cX11_closest 89 = .ok (.goto 4, 3) := by decide +kernel
theorem dX11_closest_92 : decode cX11_closest 92 = .ok (.iconst 0, 1) := by decide +kernel
theorem dX11_closest_93 : decode cX11_closest 93 = .ok (.istore 6, 2) := by decide +kernel
theorem dX11_closest_95 : decode cX11_closest 95 = .ok (.iconst 0, 1) := by decide +kernel
theorem dX11_closest_96 : decode cX11_closest 96 = .ok (.istore 7, 2) := by decide +kernel
theorem dX11_closest_98 : decode cX11_closest 98 = .ok (.iload 7, 2) := by decide +kernel
theorem dX11_closest_100 : decode cX11_closest 100 = .ok (.iload 6, 2) := by decide +kernel
theorem dX11_closest_102 : decode cX11_closest 102 = .ok (.if_icmp .ge 113, 3) := by decide +kernel
theorem dX11_closest_105 : decode cX11_closest 105 = .ok (.iconst 0, 1) := by decide +kernel
theorem dX11_closest_106 : decode cX11_closest 106 = .ok (.istore 8, 2) := by decide +kernel
theorem dX11_closest_108 : decode cX11_closest 108 = .ok (.iload 8, 2) := by decide +kernel
theorem dX11_closest_110 : decode cX11_closest 110 = .ok (.iload 6, 2) := by decide +kernel
theorem dX11_closest_112 : decode cX11_closest 112 = .ok (.if_icmp .ge 97, 3) := by decide +kernel
theorem dX11_closest_115 : decode cX11_closest 115 = .ok (.iload 7, 2) := by decide +kernel
theorem dX11_closest_117 : decode cX11_closest 117 = .ok (.iload 8, 2) := by decide +kernel
theorem dX11_closest_119 : decode cX11_closest 119 = .ok (.if_icmp .eq 40, 3) := by decide +kernel
theorem dX11_closest_122 : decode cX11_closest 122 = .ok (.aload_n 0, 1) := by decide +kernel
theorem dX11_closest_123 : decode cX11_closest 123 = .ok (.getfield 81, 3) := by decide +kernel
theorem dX11_closest_126 : decode cX11_closest 126 = .ok (.bipush 20, 2) := by decide +kernel
theorem dX11_closest_128 : decode cX11_closest 128 = .ok (.iload_n 2, 1) := by decide +kernel
theorem dX11_closest_129 : decode cX11_closest 129 = .ok (.imul, 1) := by decide +kernel
theorem dX11_closest_130 : decode cX11_closest 130 = .ok (.iload 7, 2) := by decide +kernel
theorem dX11_closest_132 : decode cX11_closest 132 = .ok (.iadd, 1) := by decide +kernel
theorem dX11_closest_133 : decode cX11_closest 133 = .ok (.iaload, 1) := by decide +kernel
theorem dX11_closest_134 : decode cX11_closest 134 = .ok (.iload_n 3, 1) := by decide +kernel
theorem dX11_closest_135 : decode cX11_closest 135 = .ok (.if_icmp .ne 24, 3) := by decide +kernel
theorem dX11_closest_138 : decode cX11_closest 138 = .ok (.aload_n 0, 1) := by decide +kernel
theorem dX11_closest_139 : decode cX11_closest 139 = .ok (.getfield 81, 3) := by decide +kernel
theorem dX11_closest_142 : decode cX11_closest 142 = .ok (.bipush 20, 2) := by decide +kernel
theorem dX11_closest_144 : decode cX11_closest 144 = .ok (.iload_n 2, 1) := by decide +kernel
theorem dX11_closest_145 : decode cX11_closest 145 = .ok (.imul, 1) := by decide +kernel
theorem dX11_closest_146 : decode cX11_closest 146 = .ok (.iload 8, 2) := by decide +kernel
theorem dX11_closest_148 : decode cX11_closest 148 = .ok (.iadd, 1) := by decide +kernel
theorem dX11_closest_149 : decode cX11_closest 149 = .ok (.iaload, 1) := by decide +kernel
theorem dX11_closest_150 : decode cX11_closest 150 = .ok (.iload 4, 2) := by decide +kernel
theorem dX11_closest_152 : decode cX11_closest 152 = .ok (.if_icmp .ne 7, 3) := by decide +kernel
theorem dX11_closest_155 : decode cX11_closest 155 = .ok (.iconst 1, 1) := by decide +kernel
theorem dX11_closest_156 : decode cX11_closest 156 = .ok (.goto 4, 3) := by decide +kernel
theorem dX11_closest_159 : decode cX11_closest 159 = .ok (.iconst 0, 1) := by decide +kernel
theorem dX11_closest_160 : decode cX11_closest 160 = .ok (.istore 9, 2) := by decide +kernel
theorem dX11_closest_162 : decode cX11_closest 162 = .ok (.iload 9, 2) := by decide +kernel
theorem dX11_closest_164 : decode cX11_closest 164 = .ok (.ifCond .eq 39, 3) := by decide +kernel
theorem dX11_closest_167 : decode cX11_closest 167 = .ok (.iload 5, 2) := by decide +kernel
theorem dX11_closest_169 : decode cX11_closest 169 = .ok (.iconst (-1), 1) := by decide +kernel
theorem dX11_closest_170 : decode cX11_closest 170 = .ok (.if_icmp .eq 23, 3) := by decide +kernel
theorem dX11_closest_173 : decode cX11_closest 173 = .ok (.iload 7, 2) := by decide +kernel
theorem dX11_closest_175 : decode cX11_closest 175 = .ok (.iload 8, 2) := by decide +kernel
theorem dX11_closest_177 : decode cX11_closest 177 = .ok (.iload 5, 2) := by decide +kernel
theorem dX11_closest_179 : decode cX11_closest 179 = .ok (.bipush 100, 2) := by decide +kernel
theorem dX11_closest_181 : decode cX11_closest 181 = .ok (.idiv, 1) := by decide +kernel
theorem dX11_closest_182 : decode cX11_closest 182 = .ok (.iload 5, 2) := by decide +kernel
theorem dX11_closest_184 : decode cX11_closest 184 = .ok (.bipush 100, 2) := by decide +kernel
theorem dX11_closest_186 : decode cX11_closest 186 = .ok (.irem, 1) := by decide +kernel
theorem dX11_closest_187 : decode cX11_closest 187 = .ok (.invokestatic 299, 3) := by decide +kernel
theorem dX11_closest_190 : decode cX11_closest 190 = .ok (.ifCond .eq 13, 3) := by decide +kernel
theorem dX11_closest_193 : decode cX11_closest 193 = .ok (.bipush 100, 2) := by decide +kernel
theorem dX11_closest_195 : decode cX11_closest 195 = .ok (.iload 7, 2) := by decide +kernel
theorem dX11_closest_197 : decode cX11_closest 197 = .ok (.imul, 1) := by decide +kernel
theorem dX11_closest_198 : decode cX11_closest 198 = .ok (.iload 8, 2) := by decide +kernel
theorem dX11_closest_200 : decode cX11_closest 200 = .ok (.iadd, 1) := by decide +kernel
theorem dX11_closest_201 : decode cX11_closest 201 = .ok (.istore 5, 2) := by decide +kernel
theorem dX11_closest_203 : decode cX11_closest 203 = .ok (.iinc 8 1, 3) := by decide +kernel
theorem dX11_closest_206 : decode cX11_closest 206 = .ok (.goto (-98), 3) := by decide +kernel
theorem dX11_closest_209 : decode cX11_closest 209 = .ok (.iinc 7 1, 3) := by decide +kernel
theorem dX11_closest_212 : decode cX11_closest 212 = .ok (.goto (-114), 3) := by decide +kernel
theorem dX11_closest_215 : decode cX11_closest 215 = .ok (.iload 5, 2) := by decide +kernel
theorem dX11_closest_217 : decode cX11_closest 217 = .ok (.ireturn, 1) := by decide +kernel
theorem dX11_isCloser_0 : decode cX11_isCloser 0 = .ok (.iload_n 0, 1) := by decide +kernel
theorem dX11_isCloser_1 : decode cX11_isCloser 1 = .ok (.iload_n 1, 1) := by decide +kernel
theorem dX11_isCloser_2 : decode cX11_isCloser 2 = .ok (.if_icmp .ge 9, 3) := by decide +kernel
theorem dX11_isCloser_5 : decode cX11_isCloser 5 = .ok (.iload_n 1, 1) := by decide +kernel
theorem dX11_isCloser_6 : decode cX11_isCloser 6 = .ok (.iload_n 0, 1) := by decide +kernel
theorem dX11_isCloser_7 : decode cX11_isCloser 7 = .ok (.isub, 1) := by decide +kernel
theorem dX11_isCloser_8 : decode cX11_isCloser 8 = .ok (.goto 6, 3) := by decide +kernel
theorem dX11_isCloser_11 : decode cX11_isCloser 11 = .ok (.iload_n 0, 1) := by decide +kernel
theorem dX11_isCloser_12 : decode cX11_isCloser 12 = .ok (.iload_n 1, 1) := by decide +kernel
theorem dX11_isCloser_13 : decode cX11_isCloser 13 = .ok (.isub, 1) := by decide +kernel
theorem dX11_isCloser_14 : decode cX11_isCloser 14 = .ok (.istore 4, 2) := by decide +kernel
theorem dX11_isCloser_16 : decode cX11_isCloser 16 = .ok (.iload_n 2, 1) := by decide +kernel
theorem dX11_isCloser_17 : decode cX11_isCloser 17 = .ok (.iload_n 3, 1) := by decide +kernel
theorem dX11_isCloser_18 : decode cX11_isCloser 18 = .ok (.if_icmp .ge 9, 3) := by decide +kernel
theorem dX11_isCloser_21 : decode cX11_isCloser 21 = .ok (.iload_n 3, 1) := by decide +kernel
theorem dX11_isCloser_22 : decode cX11_isCloser 22 = .ok (.iload_n 2, 1) := by decide +kernel
theorem dX11_isCloser_23 : decode cX11_isCloser 23 = .ok (.isub, 1) := by decide +kernel
theorem dX11_isCloser_24 : decode cX11_isCloser 24 = .ok (.goto 6, 3) := by decide +kernel
theorem dX11_isCloser_27 : decode cX11_isCloser 27 = .ok (.iload_n 2, 1) := by decide +kernel
theorem dX11_isCloser_28 : decode cX11_isCloser 28 = .ok (.iload_n 3, 1) := by decide +kernel
theorem dX11_isCloser_29 : decode cX11_isCloser 29 = .ok (.isub, 1) := by decide +kernel
theorem dX11_isCloser_30 : decode cX11_isCloser 30 = .ok (.istore 5, 2) := by decide +kernel
theorem dX11_isCloser_32 : decode cX11_isCloser 32 = .ok (.iload_n 0, 1) := by decide +kernel
theorem dX11_isCloser_33 : decode cX11_isCloser 33 = .ok (.iload_n 1, 1) := by decide +kernel
theorem dX11_isCloser_34 : decode cX11_isCloser 34 = .ok (.if_icmp .ge 7, 3) := by decide +kernel
theorem dX11_isCloser_37 : decode cX11_isCloser 37 = .ok (.iload_n 0, 1) := by decide +kernel
theorem dX11_isCloser_38 : decode cX11_isCloser 38 = .ok (.goto 4, 3) := by decide +kernel
theorem dX11_isCloser_41 : decode cX11_isCloser 41 = .ok (.iload_n 1, 1) := by decide +kernel
theorem dX11_isCloser_42 : decode cX11_isCloser 42 = .ok (.istore 6, 2) := by decide +kernel
theorem dX11_isCloser_44 : decode cX11_isCloser 44 = .ok (.iload_n 2, 1) := by decide +kernel
theorem dX11_isCloser_45 : decode cX11_isCloser 45 = .ok (.iload_n 3, 1) := by decide +kernel
theorem dX11_isCloser_46 : decode cX11_isCloser 46 = .ok (.if_icmp .ge 7, 3) := by decide +kernel
theorem dX11_isCloser_49 : decode cX11_isCloser 49 = .ok (.iload_n 2, 1) := by decide +kernel
theorem dX11_isCloser_50 : decode cX11_isCloser 50 = .ok (.goto 4, 3) := by decide +kernel
theorem dX11_isCloser_53 : decode cX11_isCloser 53 = .ok (.iload_n 3, 1) := by decide +kernel
theorem dX11_isCloser_54 : decode cX11_isCloser 54 = .ok (.istore 7, 2) := by decide +kernel
theorem dX11_isCloser_56 : decode cX11_isCloser 56 = .ok (.iload 4, 2) := by decide +kernel
theorem dX11_isCloser_58 : decode cX11_isCloser 58 = .ok (.iload 5, 2) := by decide +kernel
theorem dX11_isCloser_60 : decode cX11_isCloser 60 = .ok (.if_icmp .eq 18, 3) := by decide +kernel
theorem dX11_isCloser_63 : decode cX11_isCloser 63 = .ok (.iload 4, 2) := by decide +kernel
theorem dX11_isCloser_65 : decode cX11_isCloser 65 = .ok (.iload 5, 2) := by decide +kernel
theorem dX11_isCloser_67 : decode cX11_isCloser 67 = .ok (.if_icmp .ge 7, 3) := by decide +kernel
theorem dX11_isCloser_70 : decode cX11_isCloser 70 = .ok (.iconst 1, 1) := by decide +kernel
theorem dX11_isCloser_71 : decode cX11_isCloser 71 = .ok (.goto 39, 3) := by decide +kernel
theorem dX11_isCloser_74 : decode cX11_isCloser 74 = .ok (.iconst 0, 1) := by decide +kernel
theorem dX11_isCloser_75 : decode cX11_isCloser 75 = .ok (.goto 35, 3) := by decide +kernel
theorem dX11_isCloser_78 : decode cX11_isCloser 78 = .ok (.iload 6, 2) := by decide +kernel
theorem dX11_isCloser_80 : decode cX11_isCloser 80 = .ok (.iload 7, 2) := by decide +kernel
theorem dX11_isCloser_82 : decode cX11_isCloser 82 = .ok (.if_icmp .eq 18, 3) := by decide +kernel
theorem dX11_isCloser_85 : decode cX11_isCloser 85 = .ok (.iload 6, 2) := by decide +kernel
theorem dX11_isCloser_87 : decode cX11_isCloser 87 = .ok (.iload 7, 2) := by decide +kernel
theorem dX11_isCloser_89 : decode cX11_isCloser 89 = .ok (.if_icmp .ge 7, 3) := by decide +kernel
theorem dX11_isCloser_92 : decode cX11_isCloser 92 = .ok (.iconst 1, 1) := by decide +kernel
theorem dX11_isCloser_93 : decode cX11_isCloser 93 = .ok (.goto 17, 3) := by decide +kernel
theorem dX11_isCloser_96 : decode cX11_isCloser 96 = .ok (.iconst 0, 1) := by decide +kernel
theorem dX11_isCloser_97 : decode cX11_isCloser 97 = .ok (.goto 13, 3) := by decide +kernel
theorem dX11_isCloser_100 : decode cX11_isCloser 100 = .ok (.iload_n 0, 1) := by decide +kernel
theorem dX11_isCloser_101 : decode cX11_isCloser 101 = .ok (.iload_n 2, 1) := by decide +kernel
theorem dX11_isCloser_102 : decode cX11_isCloser 102 = .ok (.if_icmp .ge 7, 3) := by decide +kernel
theorem dX11_isCloser_105 : decode cX11_isCloser 105 = .ok (.iconst 1, 1) := by decide +kernel
theorem dX11_isCloser_106 : decode cX11_isCloser 106 = .ok (.goto 4, 3) := by decide +kernel
theorem dX11_isCloser_109 : decode cX11_isCloser 109 = .ok (.iconst 0, 1) := by decide +kernel
theorem dX11_isCloser_110 : decode cX11_isCloser 110 = .ok (.ireturn, 1) := by decide +kernel
