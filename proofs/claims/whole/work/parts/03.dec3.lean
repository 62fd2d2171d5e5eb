theorem dX5_append_47 : decode cX5_append 47 = .ok (.iastore, 1) := by decide +kernel
theorem dX5_append_48 : decode cX5_append 48 = .ok (.iload_n 2, 1) := by decide +kernel
theorem dX5_append_49 : decode cX5_append 49 = .ok (.bipush 10, 2) := by decide +kernel
theorem dX5_append_51 : decode cX5_append 51 = .ok (.idiv, 1) := by decide +kernel
theorem dX5_append_52 : decode cX5_append 52 = .ok (.istore_n 2, 1) := by decide +kernel
theorem dX5_append_53 : decode cX5_append 53 = .ok (.iinc 3 (-1), 3) := by decide +kernel
theorem dX5_append_56 : decode cX5_append 56 = .ok (.goto (-47), 3) := by decide +kernel
theorem dX5_append_59 : decode cX5_append 59 = .ok (.aload_n 0, 1) := by decide +kernel
theorem dX5_append_60 : decode cX5_append 60 = .ok (.dup, 1) := by decide +kernel
theorem dX5_append_61 : decode cX5_append 61 = .ok (.getfield 25, 3) := by decide +kernel
theorem dX5_append_64 : decode cX5_append 64 = .ok (.iconst 1, 1) := by decide +kernel
theorem dX5_append_65 : decode cX5_append 65 = .ok (.iadd, 1) := by decide +kernel
theorem dX5_append_66 : decode cX5_append 66 = .ok (.putfield 25, 3) := by decide +kernel
theorem dX5_append_69 : decode cX5_append 69 = .ok (.return_, 1) := by decide +kernel
theorem dX5_waysNext_0 : decode cX5_waysNext 0 = .ok (.aload_n 0, 1) := by decide +kernel
theorem dX5_waysNext_1 : decode cX5_waysNext 1 = .ok (.invokevirtual 36, 3) := by decide +kernel
theorem dX5_waysNext_4 : decode cX5_waysNext 4 = .ok (.aload_n 0, 1) := by decide +kernel
theorem dX5_waysNext_5 : decode cX5_waysNext 5 = .ok (.getfield 18, 3) := by decide +kernel
theorem dX5_waysNext_8 : decode cX5_waysNext 8 = .ok (.aload_n 0, 1) := by decide +kernel
theorem dX5_waysNext_9 : decode cX5_waysNext 9 = .ok (.invokevirtual 28, 3) := by decide +kernel
theorem dX5_waysNext_12 : decode cX5_waysNext 12 = .ok (.iaload, 1) := by decide +kernel
theorem dX5_waysNext_13 : decode cX5_waysNext 13 = .ok (.ireturn, 1) := by decide +kernel
theorem dX5_leastNext_0 : decode cX5_leastNext 0 = .ok (.aload_n 0, 1) := by decide +kernel
theorem dX5_leastNext_1 : decode cX5_leastNext 1 = .ok (.invokevirtual 36, 3) := by decide +kernel
theorem dX5_leastNext_4 : decode cX5_leastNext 4 = .ok (.aload_n 0, 1) := by decide +kernel
theorem dX5_leastNext_5 : decode cX5_leastNext 5 = .ok (.invokevirtual 28, 3) := by decide +kernel
theorem dX5_leastNext_8 : decode cX5_leastNext 8 = .ok (.istore_n 1, 1) := by decide +kernel
theorem dX5_leastNext_9 : decode cX5_leastNext 9 = .ok (.iconst 0, 1) := by decide +kernel
theorem dX5_leastNext_10 : decode cX5_leastNext 10 = .ok (.istore_n 2, 1) := by decide +kernel
theorem dX5_leastNext_11 : decode cX5_leastNext 11 = .ok (.iconst 0, 1) := by decide +kernel
theorem dX5_leastNext_12 : decode cX5_leastNext 12 = .ok (.istore_n 3, 1) := by decide +kernel
theorem dX5_leastNext_13 : decode cX5_leastNext 13 = .ok (.iload_n 3, 1) := by decide +kernel
theorem dX5_leastNext_14 : decode cX5_leastNext 14 = .ok (.aload_n 0, 1) := by decide +kernel
theorem dX5_leastNext_15 : decode cX5_leastNext 15 = .ok (.getfield 21, 3) := by decide +kernel
theorem dX5_leastNext_18 : decode cX5_leastNext 18 = .ok (.if_icmp .ge 32, 3) := by decide +kernel
theorem dX5_leastNext_21 : decode cX5_leastNext 21 = .ok (.aload_n 0, 1) := by decide +kernel
theorem dX5_leastNext_22 : decode cX5_leastNext 22 = .ok (.iload_n 3, 1) := by decide +kernel
theorem dX5_leastNext_23 : decode cX5_leastNext 23 = .ok (.iload_n 1, 1) := by decide +kernel
theorem dX5_leastNext_24 : decode cX5_leastNext 24 = .ok (.invokevirtual 39, 3) := by decide +kernel
theorem dX5_leastNext_27 : decode cX5_leastNext 27 = .ok (.istore 4, 2) := by decide +kernel
theorem dX5_leastNext_29 : decode cX5_leastNext 29 = .ok (.iload_n 1, 1) := by decide +kernel
theorem dX5_leastNext_30 : decode cX5_leastNext 30 = .ok (.iconst 1, 1) := by decide +kernel
theorem dX5_leastNext_31 : decode cX5_leastNext 31 = .ok (.iload 4, 2) := by decide +kernel
theorem dX5_leastNext_33 : decode cX5_leastNext 33 = .ok (.ishl, 1) := by decide +kernel
theorem dX5_leastNext_34 : decode cX5_leastNext 34 = .ok (.ixor, 1) := by decide +kernel
theorem dX5_leastNext_35 : decode cX5_leastNext 35 = .ok (.istore_n 1, 1) := by decide +kernel
theorem dX5_leastNext_36 : decode cX5_leastNext 36 = .ok (.iload_n 2, 1) := by decide +kernel
theorem dX5_leastNext_37 : decode cX5_leastNext 37 = .ok (.bipush 10, 2) := by decide +kernel
theorem dX5_leastNext_39 : decode cX5_leastNext 39 = .ok (.imul, 1) := by decide +kernel
theorem dX5_leastNext_40 : decode cX5_leastNext 40 = .ok (.iload 4, 2) := by decide +kernel
theorem dX5_leastNext_42 : decode cX5_leastNext 42 = .ok (.iadd, 1) := by decide +kernel
theorem dX5_leastNext_43 : decode cX5_leastNext 43 = .ok (.istore_n 2, 1) := by decide +kernel
theorem dX5_leastNext_44 : decode cX5_leastNext 44 = .ok (.iinc 3 1, 3) := by decide +kernel
theorem dX5_leastNext_47 : decode cX5_leastNext 47 = .ok (.goto (-34), 3) := by decide +kernel
theorem dX5_leastNext_50 : decode cX5_leastNext 50 = .ok (.iload_n 2, 1) := by decide +kernel
theorem dX5_leastNext_51 : decode cX5_leastNext 51 = .ok (.ireturn, 1) := by decide +kernel
theorem dX5_leastDigit_0 : decode cX5_leastDigit 0 = .ok (.iconst 0, 1) := by decide +kernel
theorem dX5_leastDigit_1 : decode cX5_leastDigit 1 = .ok (.istore_n 3, 1) := by decide +kernel
theorem dX5_leastDigit_2 : decode cX5_leastDigit 2 = .ok (.aload_n 0, 1) := by decide +kernel
theorem dX5_leastDigit_3 : decode cX5_leastDigit 3 = .ok (.getfield 21, 3) := by decide +kernel
theorem dX5_leastDigit_6 : decode cX5_leastDigit 6 = .ok (.iconst 1, 1) := by decide +kernel
theorem dX5_leastDigit_7 : decode cX5_leastDigit 7 = .ok (.isub, 1) := by decide +kernel
theorem dX5_leastDigit_8 : decode cX5_leastDigit 8 = .ok (.istore 4, 2) := by decide +kernel
theorem dX5_leastDigit_10 : decode cX5_leastDigit 10 = .ok (.iload 4, 2) := by decide +kernel
theorem dX5_leastDigit_12 : decode cX5_leastDigit 12 = .ok (.ifCond .lt 44, 3) := by decide +kernel
theorem dX5_leastDigit_15 : decode cX5_leastDigit 15 = .ok (.iload_n 2, 1) := by decide +kernel
theorem dX5_leastDigit_16 : decode cX5_leastDigit 16 = .ok (.aload_n 0, 1) := by decide +kernel
theorem dX5_leastDigit_17 : decode cX5_leastDigit 17 = .ok (.getfield 15, 3) := by decide +kernel
theorem dX5_leastDigit_20 : decode cX5_leastDigit 20 = .ok (.iload_n 1, 1) := by decide +kernel
theorem dX5_leastDigit_21 : decode cX5_leastDigit 21 = .ok (.iaload, 1) := by decide +kernel
theorem dX5_leastDigit_22 : decode cX5_leastDigit 22 = .ok (.iconst (-1), 1) := by decide +kernel
theorem dX5_leastDigit_23 : decode cX5_leastDigit 23 = .ok (.ixor, 1) := by decide +kernel
theorem dX5_leastDigit_24 : decode cX5_leastDigit 24 = .ok (.iand, 1) := by decide +kernel
theorem dX5_leastDigit_25 : decode cX5_leastDigit 25 = .ok (.iload 4, 2) := by decide +kernel
theorem dX5_leastDigit_27 : decode cX5_leastDigit 27 = .ok (.invokestatic 32, 3) := by decide +kernel
theorem dX5_leastDigit_30 : decode cX5_leastDigit 30 = .ok (.ifCond .eq 20, 3) := by decide +kernel
theorem dX5_leastDigit_33 : decode cX5_leastDigit 33 = .ok (.aload_n 0, 1) := by decide +kernel
theorem dX5_leastDigit_34 : decode cX5_leastDigit 34 = .ok (.getfield 18, 3) := by decide +kernel
theorem dX5_leastDigit_37 : decode cX5_leastDigit 37 = .ok (.iload_n 2, 1) := by decide +kernel
theorem dX5_leastDigit_38 : decode cX5_leastDigit 38 = .ok (.iconst 1, 1) := by decide +kernel
theorem dX5_leastDigit_39 : decode cX5_leastDigit 39 = .ok (.iload 4, 2) := by decide +kernel
theorem dX5_leastDigit_41 : decode cX5_leastDigit 41 = .ok (.ishl, 1) := by decide +kernel
theorem dX5_leastDigit_42 : decode cX5_leastDigit 42 = .ok (.ixor, 1) := by decide +kernel
theorem dX5_leastDigit_43 : decode cX5_leastDigit 43 = .ok (.iaload, 1) := by decide +kernel
theorem dX5_leastDigit_44 : decode cX5_leastDigit 44 = .ok (.ifCond .le 6, 3) := by decide +kernel
theorem dX5_leastDigit_47 : decode cX5_leastDigit 47 = .ok (.iload 4, 2) := by decide +kernel
theorem dX5_leastDigit_49 : decode cX5_leastDigit 49 = .ok (.istore_n 3, 1) := by decide +kernel
theorem dX5_leastDigit_50 : decode cX5_leastDigit 50 = .ok (.iinc 4 (-1), 3) := by decide +kernel
theorem dX5_leastDigit_53 : decode cX5_leastDigit 53 = .ok (.goto (-43), 3) := by decide +kernel
theorem dX5_leastDigit_56 : decode cX5_leastDigit 56 = .ok (.iload_n 3, 1) := by decide +kernel
theorem dX5_leastDigit_57 : decode cX5_leastDigit 57 = .ok (.ireturn, 1) := by decide +kernel
theorem dX5_fillWays_0 : decode cX5_fillWays 0 = .ok (.aload_n 0, 1) := by decide +kernel
theorem dX5_fillWays_1 : decode cX5_fillWays 1 = .ok (.getfield 18, 3) := by decide +kernel
theorem dX5_fillWays_4 : decode cX5_fillWays 4 = .ok (.iconst 0, 1) := by decide +kernel
theorem dX5_fillWays_5 : decode cX5_fillWays 5 = .ok (.iconst 1, 1) := by decide +kernel
theorem dX5_fillWays_6 : decode cX5_fillWays 6 = .ok (.iastore, 1) := by decide +kernel
theorem dX5_fillWays_7 : decode cX5_fillWays 7 = .ok (.iconst 1, 1) := by decide +kernel
theorem dX5_fillWays_8 : decode cX5_fillWays 8 = .ok (.istore_n 1, 1) := by decide +kernel
theorem dX5_fillWays_9 : decode cX5_fillWays 9 = .ok (.iload_n 1, 1) := by decide +kernel
theorem dX5_fillWays_10 : decode cX5_fillWays 10 = .ok (.aload_n 0, 1) := by decide +kernel
theorem dX5_fillWays_11 : decode cX5_fillWays 11 = .ok (.invokevirtual 28, 3) := by decide +kernel
theorem dX5_fillWays_14 : decode cX5_fillWays 14 = .ok (.if_icmp .gt 29, 3) := by decide +kernel
theorem dX5_fillWays_17 : decode cX5_fillWays 17 = .ok (.aload_n 0, 1) := by decide +kernel
theorem dX5_fillWays_18 : decode cX5_fillWays 18 = .ok (.getfield 18, 3) := by decide +kernel
theorem dX5_fillWays_21 : decode cX5_fillWays 21 = .ok (.iload_n 1, 1) := by decide +kernel
theorem dX5_fillWays_22 : decode cX5_fillWays 22 = .ok (.aload_n 0, 1) := by decide +kernel
theorem dX5_fillWays_23 : decode cX5_fillWays 23 = .ok (.iload_n 1, 1) := by decide +kernel
theorem dX5_fillWays_24 : decode cX5_fillWays 24 = .ok (.aload_n 0, 1) := by decide +kernel
theorem dX5_fillWays_25 : decode cX5_fillWays 25 = .ok (.getfield 21, 3) := by decide +kernel
theorem dX5_fillWays_28 : decode cX5_fillWays 28 = .ok (.iload_n 1, 1) := by decide +kernel
theorem dX5_fillWays_29 : decode cX5_fillWays 29 = .ok (.invokestatic 43, 3) := by decide +kernel
theorem dX5_fillWays_32 : decode cX5_fillWays 32 = .ok (.isub, 1) := by decide +kernel
theorem dX5_fillWays_33 : decode cX5_fillWays 33 = .ok (.invokevirtual 49, 3) := by decide +kernel
theorem dX5_fillWays_36 : decode cX5_fillWays 36 = .ok (.iastore, 1) := by decide +kernel
theorem dX5_fillWays_37 : decode cX5_fillWays 37 = .ok (.iinc 1 1, 3) := by decide +kernel
theorem dX5_fillWays_40 : decode cX5_fillWays 40 = .ok (.goto (-31), 3) := by decide +kernel
theorem dX5_fillWays_43 : decode cX5_fillWays 43 = .ok (.return_, 1) := by decide +kernel
theorem dX5_waysFor_0 : decode cX5_waysFor 0 = .ok (.iconst 0, 1) := by decide +kernel
theorem dX5_waysFor_1 : decode cX5_waysFor 1 = .ok (.istore_n 3, 1) := by decide +kernel
theorem dX5_waysFor_2 : decode cX5_waysFor 2 = .ok (.iconst 0, 1) := by decide +kernel
theorem dX5_waysFor_3 : decode cX5_waysFor 3 = .ok (.istore 4, 2) := by decide +kernel
theorem dX5_waysFor_5 : decode cX5_waysFor 5 = .ok (.iload 4, 2) := by decide +kernel
theorem dX5_waysFor_7 : decode cX5_waysFor 7 = .ok (.aload_n 0, 1) := by decide +kernel
theorem dX5_waysFor_8 : decode cX5_waysFor 8 = .ok (.getfield 21, 3) := by decide +kernel
theorem dX5_waysFor_11 : decode cX5_waysFor 11 = .ok (.if_icmp .ge 41, 3) := by decide +kernel
theorem dX5_waysFor_14 : decode cX5_waysFor 14 = .ok (.iload_n 1, 1) := by decide +kernel
theorem dX5_waysFor_15 : decode cX5_waysFor 15 = .ok (.aload_n 0, 1) := by decide +kernel
theorem dX5_waysFor_16 : decode cX5_waysFor 16 = .ok (.getfield 15, 3) := by decide +kernel
theorem dX5_waysFor_19 : decode cX5_waysFor 19 = .ok (.iload_n 2, 1) := by decide +kernel
theorem dX5_waysFor_20 : decode cX5_waysFor 20 = .ok (.iaload, 1) := by decide +kernel
theorem dX5_waysFor_21 : decode cX5_waysFor 21 = .ok (.iconst (-1), 1) := by decide +kernel
theorem dX5_waysFor_22 : decode cX5_waysFor 22 = .ok (.ixor, 1) := by decide +kernel
theorem dX5_waysFor_23 : decode cX5_waysFor 23 = .ok (.iand, 1) := by decide +kernel
theorem dX5_waysFor_24 : decode cX5_waysFor 24 = .ok (.iload 4, 2) := by decide +kernel
theorem dX5_waysFor_26 : decode cX5_waysFor 26 = .ok (.invokestatic 32, 3) := by decide +kernel
theorem dX5_waysFor_29 : decode cX5_waysFor 29 = .ok (.ifCond .eq 17, 3) := by decide +kernel
theorem dX5_waysFor_32 : decode cX5_waysFor 32 = .ok (.iload_n 3, 1) := by decide +kernel
theorem dX5_waysFor_33 : decode cX5_waysFor 33 = .ok (.aload_n 0, 1) := by decide +kernel
theorem dX5_waysFor_34 : decode cX5_waysFor 34 = .ok (.getfield 18, 3) := by decide +kernel
theorem dX5_waysFor_37 : decode cX5_waysFor 37 = .ok (.iload_n 1, 1) := by decide +kernel
theorem dX5_waysFor_38 : decode cX5_waysFor 38 = .ok (.iconst 1, 1) := by decide +kernel
theorem dX5_waysFor_39 : decode cX5_waysFor 39 = .ok (.iload 4, 2) := by decide +kernel
theorem dX5_waysFor_41 : decode cX5_waysFor 41 = .ok (.ishl, 1) := by decide +kernel
theorem dX5_waysFor_42 : decode cX5_waysFor 42 = .ok (.ixor, 1) := by decide +kernel
theorem dX5_waysFor_43 : decode cX5_waysFor 43 = .ok (.iaload, 1) := by decide +kernel
theorem dX5_waysFor_44 : decode cX5_waysFor 44 = .ok (.iadd, 1) := by decide +kernel
theorem dX5_waysFor_45 : decode cX5_waysFor 45 = .ok (.istore_n 3, 1) := by decide +kernel
theorem dX5_waysFor_46 : decode cX5_waysFor 46 = .ok (.iinc 4 1, 3) := by decide +kernel
theorem dX5_waysFor_49 : decode cX5_waysFor 49 = .ok (.goto (-44), 3) := by decide +kernel
theorem dX5_waysFor_52 : decode cX5_waysFor 52 = .ok (.iload_n 3, 1) := by decide +kernel
theorem dX5_waysFor_53 : decode cX5_waysFor 53 = .ok (.ireturn, 1) := by decide +kernel
theorem dX6_init_0 : decode cX6_init 0 = .ok (.aload_n 0, 1) := by decide +kernel
theorem dX6_init_1 : decode cX6_init 1 = .ok (.invokespecial 3, 3) := by decide +kernel
theorem dX6_init_4 : decode cX6_init 4 = .ok (.aload_n 0, 1) := by decide +kernel
theorem dX6_init_5 : decode cX6_init 5 = .ok (.sipush 4096, 3) := by decide +kernel
theorem dX6_init_8 : decode cX6_init 8 = .ok (.newarray .long, 2) := by decide +kernel
theorem dX6_init_10 : decode cX6_init 10 = .ok (.putfield 9, 3) := by decide +kernel
theorem dX6_init_13 : decode cX6_init 13 = .ok (.aload_n 0, 1) := by decide +kernel
theorem dX6_init_14 : decode cX6_init 14 = .ok (.aload_n 1, 1) := by decide +kernel
theorem dX6_init_15 : decode cX6_init 15 = .ok (.putfield 15, 3) := by decide +kernel
theorem dX6_init_18 : decode cX6_init 18 = .ok (.return_, 1) := by decide +kernel
theorem dX6_colourings_0 : decode cX6_colourings 0 = .ok (.aload_n 0, 1) := by decide +kernel
theorem dX6_colourings_1 : decode cX6_colourings 1 = .ok (.getfield 15, 3) := by decide +kernel
theorem dX6_colourings_4 : decode cX6_colourings 4 = .ok (.invokevirtual 19, 3) := by decide +kernel
theorem dX6_colourings_7 : decode cX6_colourings 7 = .ok (.istore_n 2, 1) := by decide +kernel
theorem dX6_colourings_8 : decode cX6_colourings 8 = .ok (.iconst 0, 1) := by decide +kernel
theorem dX6_colourings_9 : decode cX6_colourings 9 = .ok (.istore_n 3, 1) := by decide +kernel
theorem dX6_colourings_10 : decode cX6_colourings 10 = .ok (.iload_n 3, 1) := by decide +kernel
theorem dX6_colourings_11 : decode cX6_colourings 11 = .ok (.iload_n 2, 1) := by decide +kernel
theorem dX6_colourings_12 : decode cX6_colourings 12 = .ok (.if_icmp .gt 16, 3) := by decide +kernel
theorem dX6_colourings_15 : decode cX6_colourings 15 = .ok (.aload_n 0, 1) := by decide +kernel
theorem dX6_colourings_16 : decode cX6_colourings 16 = .ok (.getfield 9, 3) := by decide +kernel
theorem dX6_colourings_19 : decode cX6_colourings 19 = .ok (.iload_n 3, 1) := by decide +kernel
theorem dX6_colourings_20 : decode cX6_colourings 20 = .ok (.lconst 0, 1) := by decide +kernel
theorem dX6_colourings_21 : decode cX6_colourings 21 = .ok (.lastore, 1) := by decide +kernel
theorem dX6_colourings_22 : decode cX6_colourings 22 = .ok (.iinc 3 1, 3) := by decide +kernel
theorem dX6_colourings_25 : decode cX6_colourings 25 = .ok (.goto (-15), 3) := by decide +kernel
theorem dX6_colourings_28 : decode cX6_colourings 28 = .ok (.aload_n 0, 1) := by decide +kernel
theorem dX6_colourings_29 : decode cX6_colourings 29 = .ok (.getfield 9, 3) := by decide +kernel
theorem dX6_colourings_32 : decode cX6_colourings 32 = .ok (.iload_n 2, 1) := by decide +kernel
theorem dX6_colourings_33 : decode cX6_colourings 33 = .ok (.lconst 1, 1) := by decide +kernel
theorem dX6_colourings_34 : decode cX6_colourings 34 = .ok (.lastore, 1) := by decide +kernel
theorem dX6_colourings_35 : decode cX6_colourings 35 = .ok (.iconst 0, 1) := by decide +kernel
theorem dX6_colourings_36 : decode cX6_colourings 36 = .ok (.istore_n 3, 1) := by decide +kernel
theorem dX6_colourings_37 : decode cX6_colourings 37 = .ok (.iload_n 3, 1) := by decide +kernel
theorem dX6_colourings_38 : decode cX6_colourings 38 = .ok (.iload_n 1, 1) := by decide +kernel
theorem dX6_colourings_39 : decode cX6_colourings 39 = .ok (.if_icmp .ge 17, 3) := by decide +kernel
theorem dX6_colourings_42 : decode cX6_colourings 42 = .ok (.aload_n 0, 1) := by decide +kernel
theorem dX6_colourings_43 : decode cX6_colourings 43 = .ok (.iload_n 2, 1) := by decide +kernel
theorem dX6_colourings_44 : decode cX6_colourings 44 = .ok (.iload_n 1, 1) := by decide +kernel
theorem dX6_colourings_45 : decode cX6_colourings 45 = .ok (.iload_n 3, 1) := by decide +kernel
theorem dX6_colourings_46 : decode cX6_colourings 46 = .ok (.isub, 1) := by decide +kernel
theorem dX6_colourings_47 : decode cX6_colourings 47 = .ok (.invokevirtual 25, 3) := by decide +kernel
theorem dX6_colourings_50 : decode cX6_colourings 50 = .ok (.iinc 3 1, 3) := by decide +kernel
theorem dX6_colourings_53 : decode cX6_colourings 53 = .ok (.goto (-16), 3) := by decide +kernel
theorem dX6_colourings_56 : decode cX6_colourings 56 = .ok (.aload_n 0, 1) := by decide +kernel
theorem dX6_colourings_57 : decode cX6_colourings 57 = .ok (.getfield 9, 3) := by decide +kernel
theorem dX6_colourings_60 : decode cX6_colourings 60 = .ok (.iconst 0, 1) := by decide +kernel
theorem dX6_colourings_61 : decode cX6_colourings 61 = .ok (.laload, 1) := by decide +kernel
theorem dX6_colourings_62 : decode cX6_colourings 62 = .ok (.lreturn, 1) := by decide +kernel
theorem dX6_giveNumber_0 : decode cX6_giveNumber 0 = .ok (.iconst 1, 1) := by decide +kernel
theorem dX6_giveNumber_1 : decode cX6_giveNumber 1 = .ok (.istore_n 3, 1) := by decide +kernel
theorem dX6_giveNumber_2 : decode cX6_giveNumber 2 = .ok (.iload_n 3, 1) := by decide +kernel
theorem dX6_giveNumber_3 : decode cX6_giveNumber 3 = .ok (.iload_n 1, 1) := by decide +kernel
theorem dX6_giveNumber_4 : decode cX6_giveNumber 4 = .ok (.if_icmp .gt 75, 3) := by decide +kernel
theorem dX6_giveNumber_7 : decode cX6_giveNumber 7 = .ok (.aload_n 0, 1) := by decide +kernel
theorem dX6_giveNumber_8 : decode cX6_giveNumber 8 = .ok (.getfield 9, 3) := by decide +kernel
theorem dX6_giveNumber_11 : decode cX6_giveNumber 11 = .ok (.iload_n 3, 1) := by decide +kernel
theorem dX6_giveNumber_12 : decode cX6_giveNumber 12 = .ok (.laload, 1) := by decide +kernel
theorem dX6_giveNumber_13 : decode cX6_giveNumber 13 = .ok (.lconst 0, 1) := by decide +kernel
theorem dX6_giveNumber_14 : decode cX6_giveNumber 14 = .ok (.lcmp, 1) := by decide +kernel
theorem dX6_giveNumber_15 : decode cX6_giveNumber 15 = .ok (.ifCond .eq 58, 3) := by decide +kernel
theorem dX6_giveNumber_18 : decode cX6_giveNumber 18 = .ok (.aload_n 0, 1) := by decide +kernel
theorem dX6_giveNumber_19 : decode cX6_giveNumber 19 = .ok (.getfield 9, 3) := by decide +kernel
theorem dX6_giveNumber_22 : decode cX6_giveNumber 22 = .ok (.iload_n 3, 1) := by decide +kernel
theorem dX6_giveNumber_23 : decode cX6_giveNumber 23 = .ok (.laload, 1) := by decide +kernel
theorem dX6_giveNumber_24 : decode cX6_giveNumber 24 = .ok (.iload_n 2, 1) := by decide +kernel
theorem dX6_giveNumber_25 : decode cX6_giveNumber 25 = .ok (.i2l, 1) := by decide +kernel
theorem dX6_giveNumber_26 : decode cX6_giveNumber 26 = .ok (.lmul, 1) := by decide +kernel
theorem dX6_giveNumber_27 : decode cX6_giveNumber 27 = .ok (.lstore 4, 2) := by decide +kernel
theorem dX6_giveNumber_29 : decode cX6_giveNumber 29 = .ok (.aload_n 0, 1) := by decide +kernel
theorem dX6_giveNumber_30 : decode cX6_giveNumber 30 = .ok (.getfield 9, 3) := by decide +kernel
theorem dX6_giveNumber_33 : decode cX6_giveNumber 33 = .ok (.iload_n 3, 1) := by decide +kernel
theorem dX6_giveNumber_34 : decode cX6_giveNumber 34 = .ok (.lconst 0, 1) := by decide +kernel
theorem dX6_giveNumber_35 : decode cX6_giveNumber 35 = .ok (.lastore, 1) := by decide +kernel
theorem dX6_giveNumber_36 : decode cX6_giveNumber 36 = .ok (.iload_n 3, 1) := by decide +kernel
theorem dX6_giveNumber_37 : decode cX6_giveNumber 37 = .ok (.iload_n 3, 1) := by decide +kernel
theorem dX6_giveNumber_38 : decode cX6_giveNumber 38 = .ok (.ineg, 1) := by decide +kernel
theorem dX6_giveNumber_39 : decode cX6_giveNumber 39 = .ok (.iand, 1) := by decide +kernel
theorem dX6_giveNumber_40 : decode cX6_giveNumber 40 = .ok (.invokestatic 29, 3) := by decide +kernel
theorem dX6_giveNumber_43 : decode cX6_giveNumber 43 = .ok (.istore 6, 2) := by decide +kernel
theorem dX6_giveNumber_45 : decode cX6_giveNumber 45 = .ok (.aload_n 0, 1) := by decide +kernel
theorem dX6_giveNumber_46 : decode cX6_giveNumber 46 = .ok (.iload_n 3, 1) := by decide +kernel
theorem dX6_giveNumber_47 : decode cX6_giveNumber 47 = .ok (.iconst 1, 1) := by decide +kernel
theorem dX6_giveNumber_48 : decode cX6_giveNumber 48 = .ok (.iload 6, 2) := by decide +kernel
theorem dX6_giveNumber_50 : decode cX6_giveNumber 50 = .ok (.ishl, 1) := by decide +kernel
theorem dX6_giveNumber_51 : decode cX6_giveNumber 51 = .ok (.ixor, 1) := by decide +kernel
theorem dX6_giveNumber_52 : decode cX6_giveNumber 52 = .ok (.iload_n 3, 1) := by decide +kernel
theorem dX6_giveNumber_53 : decode cX6_giveNumber 53 = .ok (.aload_n 0, 1) := by decide +kernel
theorem dX6_giveNumber_54 : decode cX6_giveNumber 54 = .ok (.getfield 15, 3) := by decide +kernel
theorem dX6_giveNumber_57 : decode cX6_giveNumber 57 = .ok (.getfield 33, 3) := by decide +kernel
theorem dX6_giveNumber_60 : decode cX6_giveNumber 60 = .ok (.iload 6, 2) := by decide +kernel
theorem dX6_giveNumber_62 : decode cX6_giveNumber 62 = .ok (.iaload, 1) := by decide +kernel
theorem dX6_giveNumber_63 : decode cX6_giveNumber 63 = .ok (.iconst (-1), 1) := by decide +kernel
theorem dX6_giveNumber_64 : decode cX6_giveNumber 64 = .ok (.ixor, 1) := by decide +kernel
theorem dX6_giveNumber_65 : decode cX6_giveNumber 65 = .ok (.iand, 1) := by decide +kernel
theorem dX6_giveNumber_66 : decode cX6_giveNumber 66 = .ok (.iload 6, 2) := by decide +kernel
theorem dX6_giveNumber_68 : decode cX6_giveNumber 68 = .ok (.lload 4, 2) := by decide +kernel
theorem dX6_giveNumber_70 : decode cX6_giveNumber 70 = .ok (.invokevirtual 37, 3) := by decide +kernel
theorem dX6_giveNumber_73 : decode cX6_giveNumber 73 = .ok (.iinc 3 1, 3) := by decide +kernel
theorem dX6_giveNumber_76 : decode cX6_giveNumber 76 = .ok (.goto (-74), 3) := by decide +kernel
theorem dX6_giveNumber_79 : decode cX6_giveNumber 79 = .ok (.return_, 1) := by decide +kernel
theorem dX6_takeOut_0 : decode cX6_takeOut 0 = .ok (.aload_n 0, 1) := by decide +kernel
theorem dX6_takeOut_1 : decode cX6_takeOut 1 = .ok (.getfield 9, 3) := by decide +kernel
theorem dX6_takeOut_4 : decode cX6_takeOut 4 = .ok (.iload_n 1, 1) := by decide +kernel
theorem dX6_takeOut_5 : decode cX6_takeOut 5 = .ok (.dup2, 1) := by decide +kernel
theorem dX6_takeOut_6 : decode cX6_takeOut 6 = .ok (.laload, 1) := by decide +kernel
theorem dX6_takeOut_7 : decode cX6_takeOut 7 = .ok (.lload 4, 2) := by decide +kernel
theorem dX6_takeOut_9 : decode cX6_takeOut 9 = .ok (.ladd, 1) := by decide +kernel
theorem dX6_takeOut_10 : decode cX6_takeOut 10 = .ok (.lastore, 1) := by decide +kernel
theorem dX6_takeOut_11 : decode cX6_takeOut 11 = .ok (.iload_n 3, 1) := by decide +kernel
theorem dX6_takeOut_12 : decode cX6_takeOut 12 = .ok (.iconst 1, 1) := by decide +kernel
theorem dX6_takeOut_13 : decode cX6_takeOut 13 = .ok (.iadd, 1) := by decide +kernel
theorem dX6_takeOut_14 : decode cX6_takeOut 14 = .ok (.istore 6, 2) := by decide +kernel
theorem dX6_takeOut_16 : decode cX6_takeOut 16 = .ok (.iload 6, 2) := by decide +kernel
theorem dX6_takeOut_18 : decode cX6_takeOut 18 = .ok (.aload_n 0, 1) := by decide +kernel
theorem dX6_takeOut_19 : decode cX6_takeOut 19 = .ok (.getfield 15, 3) := by decide +kernel
theorem dX6_takeOut_22 : decode cX6_takeOut 22 = .ok (.getfield 41, 3) := by decide +kernel
theorem dX6_takeOut_25 : decode cX6_takeOut 25 = .ok (.if_icmp .ge 46, 3) := by decide +kernel
theorem dX6_takeOut_28 : decode cX6_takeOut 28 = .ok (.iload_n 2, 1) := by decide +kernel
theorem dX6_takeOut_29 : decode cX6_takeOut 29 = .ok (.iload 6, 2) := by decide +kernel
theorem dX6_takeOut_31 : decode cX6_takeOut 31 = .ok (.invokestatic 45, 3) := by decide +kernel
theorem dX6_takeOut_34 : decode cX6_takeOut 34 = .ok (.ifCond .eq 31, 3) := by decide +kernel
theorem dX6_takeOut_37 : decode cX6_takeOut 37 = .ok (.aload_n 0, 1) := by decide +kernel
theorem dX6_takeOut_38 : decode cX6_takeOut 38 = .ok (.iload_n 1, 1) := by decide +kernel
theorem dX6_takeOut_39 : decode cX6_takeOut 39 = .ok (.iconst 1, 1) := by decide +kernel
theorem dX6_takeOut_40 : decode cX6_takeOut 40 = .ok (.iload 6, 2) := by decide +kernel
theorem dX6_takeOut_42 : decode cX6_takeOut 42 = .ok (.ishl, 1) := by decide +kernel
theorem dX6_takeOut_43 : decode cX6_takeOut 43 = .ok (.ixor, 1) := by decide +kernel
theorem dX6_takeOut_44 : decode cX6_takeOut 44 = .ok (.iload_n 2, 1) := by decide +kernel
theorem dX6_takeOut_45 : decode cX6_takeOut 45 = .ok (.aload_n 0, 1) := by decide +kernel
theorem dX6_takeOut_46 : decode cX6_takeOut 46 = .ok (.getfield 15, 3) := by decide +kernel
theorem dX6_takeOut_49 : decode cX6_takeOut 49 = .ok (.getfield 33, 3) := by decide +kernel
theorem dX6_takeOut_52 : decode cX6_takeOut 52 = .ok (.iload 6, 2) := by decide +kernel
theorem dX6_takeOut_54 : decode cX6_takeOut 54 = .ok (.iaload, 1) := by decide +kernel
theorem dX6_takeOut_55 : decode cX6_takeOut 55 = .ok (.iconst (-1), 1) := by decide +kernel
theorem dX6_takeOut_56 : decode cX6_takeOut 56 = .ok (.ixor, 1) := by decide +kernel
theorem dX6_takeOut_57 : decode cX6_takeOut 57 = .ok (.iand, 1) := by decide +kernel
theorem dX6_takeOut_58 : decode cX6_takeOut 58 = .ok (.iload 6, 2) := by decide +kernel
theorem dX6_takeOut_60 : decode cX6_takeOut 60 = .ok (.lload 4, 2) := by decide +kernel
theorem dX6_takeOut_62 : decode cX6_takeOut 62 = .ok (.invokevirtual 37, 3) := by decide +kernel
theorem dX6_takeOut_65 : decode cX6_takeOut 65 = .ok (.iinc 6 1, 3) := by decide +kernel
theorem dX6_takeOut_68 : decode cX6_takeOut 68 = .ok (.goto (-52), 3) := by decide +kernel
theorem dX6_takeOut_71 : decode cX6_takeOut 71 = .ok (.return_, 1) := by decide +kernel
theorem dX7_init_0 : decode cX7_init 0 = .ok (.aload_n 0, 1) := by decide +kernel
theorem dX7_init_1 : decode cX7_init 1 = .ok (.invokespecial 3, 3) := by decide +kernel
theorem dX7_init_4 : decode cX7_init 4 = .ok (.aload_n 0, 1) := by decide +kernel
theorem dX7_init_5 : decode cX7_init 5 = .ok (.new 9, 3) := by decide +kernel
theorem dX7_init_8 : decode cX7_init 8 = .ok (.dup, 1) := by decide +kernel
theorem dX7_init_9 : decode cX7_init 9 = .ok (.invokespecial 11, 3) := by decide +kernel
theorem dX7_init_12 : decode cX7_init 12 = .ok (.putfield 12, 3) := by decide +kernel
theorem dX7_init_15 : decode cX7_init 15 = .ok (.aload_n 0, 1) := by decide +kernel
theorem dX7_init_16 : decode cX7_init 16 = .ok (.new 16, 3) := by decide +kernel
theorem dX7_init_19 : decode cX7_init 19 = .ok (.dup, 1) := by decide +kernel
theorem dX7_init_20 : decode cX7_init 20 = .ok (.invokespecial 18, 3) := by decide +kernel
theorem dX7_init_23 : decode cX7_init 23 = .ok (.putfield 19, 3) := by decide +kernel
theorem dX7_init_26 : decode cX7_init 26 = .ok (.return_, 1) := by decide +kernel
theorem dX7_post_0 : decode cX7_post 0 = .ok (.aload_n 0, 1) := by decide +kernel
theorem dX7_post_1 : decode cX7_post 1 = .ok (.getfield 12, 3) := by decide +kernel
theorem dX7_post_4 : decode cX7_post 4 = .ok (.getfield 23, 3) := by decide +kernel
theorem dX7_post_7 : decode cX7_post 7 = .ok (.bipush 12, 2) := by decide +kernel
theorem dX7_post_9 : decode cX7_post 9 = .ok (.if_icmp .lt 6, 3) := by decide +kernel
theorem dX7_post_12 : decode cX7_post 12 = .ok (.bipush (-2), 2) := by decide +kernel
theorem dX7_post_14 : decode cX7_post 14 = .ok (.ireturn, 1) := by decide +kernel
theorem dX7_post_15 : decode cX7_post 15 = .ok (.aload_n 0, 1) := by decide +kernel
theorem dX7_post_16 : decode cX7_post 16 = .ok (.getfield 12, 3) := by decide +kernel
theorem dX7_post_19 : decode cX7_post 19 = .ok (.invokevirtual 27, 3) := by decide +kernel
theorem dX7_post_22 : decode cX7_post 22 = .ok (.ireturn, 1) := by decide +kernel
theorem dX7_road_0 : decode cX7_road 0 = .ok (.aload_n 0, 1) := by decide +kernel
theorem dX7_road_1 : decode cX7_road 1 = .ok (.getfield 12, 3) := by decide +kernel
theorem dX7_road_4 : decode cX7_road 4 = .ok (.iload_n 1, 1) := by decide +kernel
theorem dX7_road_5 : decode cX7_road 5 = .ok (.invokevirtual 31, 3) := by decide +kernel
theorem dX7_road_8 : decode cX7_road 8 = .ok (.ifCond .eq 31, 3) := by decide +kernel
theorem dX7_road_11 : decode cX7_road 11 = .ok (.aload_n 0, 1) := by decide +kernel
theorem dX7_road_12 : decode cX7_road 12 = .ok (.getfield 12, 3) := by decide +kernel
theorem dX7_road_15 : decode cX7_road 15 = .ok (.iload_n 2, 1) := by decide +kernel
theorem dX7_road_16 : decode cX7_road 16 = .ok (.invokevirtual 31, 3) := by decide +kernel
theorem dX7_road_19 : decode cX7_road 19 = .ok (.ifCond .eq 20, 3) := by decide +kernel
theorem dX7_road_22 : decode cX7_road 22 = .ok (.iload_n 1, 1) := by decide +kernel
theorem dX7_road_23 : decode cX7_road 23 = .ok (.iload_n 2, 1) := by decide +kernel
theorem dX7_road_24 : decode cX7_road 24 = .ok (.if_icmp .eq 15, 3) := by decide +kernel
theorem dX7_road_27 : decode cX7_road 27 = .ok (.aload_n 0, 1) := by decide +kernel
theorem dX7_road_28 : decode cX7_road 28 = .ok (.getfield 12, 3) := by decide +kernel
theorem dX7_road_31 : decode cX7_road 31 = .ok (.getfield 35, 3) := by decide +kernel
theorem dX7_road_34 : decode cX7_road 34 = .ok (.bipush 24, 2) := by decide +kernel
theorem dX7_road_36 : decode cX7_road 36 = .ok (.if_icmp .lt 6, 3) := by decide +kernel
theorem dX7_road_39 : decode cX7_road 39 = .ok (.bipush (-2), 2) := by decide +kernel
theorem dX7_road_41 : decode cX7_road 41 = .ok (.ireturn, 1) := by decide +kernel
theorem dX7_road_42 : decode cX7_road 42 = .ok (.aload_n 0, 1) := by decide +kernel
theorem dX7_road_43 : decode cX7_road 43 = .ok (.getfield 12, 3) := by decide +kernel
theorem dX7_road_46 : decode cX7_road 46 = .ok (.iload_n 1, 1) := by decide +kernel
theorem dX7_road_47 : decode cX7_road 47 = .ok (.iload_n 2, 1) := by decide +kernel
theorem dX7_road_48 : decode cX7_road 48 = .ok (.invokevirtual 38, 3) := by decide +kernel
theorem dX7_road_51 : decode cX7_road 51 = .ok (.ireturn, 1) := by decide +kernel
theorem dX7_drop_0 : decode cX7_drop 0 = .ok (.aload_n 0, 1) := by decide +kernel
theorem dX7_drop_1 : decode cX7_drop 1 = .ok (.getfield 12, 3) := by decide +kernel
theorem dX7_drop_4 : decode cX7_drop 4 = .ok (.getfield 35, 3) := by decide +kernel
theorem dX7_drop_7 : decode cX7_drop 7 = .ok (.ifCond .ne 6, 3) := by decide +kernel
theorem dX7_drop_10 : decode cX7_drop 10 = .ok (.bipush (-2), 2) := by decide +kernel
theorem dX7_drop_12 : decode cX7_drop 12 = .ok (.ireturn, 1) := by decide +kernel
theorem dX7_drop_13 : decode cX7_drop 13 = .ok (.aload_n 0, 1) := by decide +kernel
theorem dX7_drop_14 : decode cX7_drop 14 = .ok (.getfield 12, 3) := by decide +kernel
theorem dX7_drop_17 : decode cX7_drop 17 = .ok (.invokevirtual 42, 3) := by decide +kernel
theorem dX7_drop_20 : decode cX7_drop 20 = .ok (.ireturn, 1) := by decide +kernel
theorem dX7_paint_0 : decode cX7_paint 0 = .ok (.aload_n 0, 1) := by decide +kernel
theorem dX7_paint_1 : decode cX7_paint 1 = .ok (.getfield 12, 3) := by decide +kernel
theorem dX7_paint_4 : decode cX7_paint 4 = .ok (.iload_n 1, 1) := by decide +kernel
theorem dX7_paint_5 : decode cX7_paint 5 = .ok (.invokevirtual 45, 3) := by decide +kernel
theorem dX7_paint_8 : decode cX7_paint 8 = .ok (.ifCond .eq 14, 3) := by decide +kernel
theorem dX7_paint_11 : decode cX7_paint 11 = .ok (.iload_n 2, 1) := by decide +kernel
theorem dX7_paint_12 : decode cX7_paint 12 = .ok (.iconst (-1), 1) := by decide +kernel
theorem dX7_paint_13 : decode cX7_paint 13 = .ok (.if_icmp .lt 9, 3) := by decide +kernel
theorem dX7_paint_16 : decode cX7_paint 16 = .ok (.iload_n 2, 1) := by decide +kernel
theorem dX7_paint_17 : decode cX7_paint 17 = .ok (.bipush 16, 2) := by decide +kernel
theorem dX7_paint_19 : decode cX7_paint 19 = .ok (.if_icmp .lt 6, 3) := by decide +kernel
theorem dX7_paint_22 : decode cX7_paint 22 = .ok (.bipush (-2), 2) := by decide +kernel
theorem dX7_paint_24 : decode cX7_paint 24 = .ok (.ireturn, 1) := by decide +kernel
theorem dX7_paint_25 : decode cX7_paint 25 = .ok (.aload_n 0, 1) := by decide +kernel
theorem dX7_paint_26 : decode cX7_paint 26 = .ok (.getfield 12, 3) := by decide +kernel
theorem dX7_paint_29 : decode cX7_paint 29 = .ok (.getfield 48, 3) := by decide +kernel
theorem dX7_paint_32 : decode cX7_paint 32 = .ok (.iload_n 1, 1) := by decide +kernel
theorem dX7_paint_33 : decode cX7_paint 33 = .ok (.iaload, 1) := by decide +kernel
theorem dX7_paint_34 : decode cX7_paint 34 = .ok (.istore_n 3, 1) := by decide +kernel
theorem dX7_paint_35 : decode cX7_paint 35 = .ok (.aload_n 0, 1) := by decide +kernel
theorem dX7_paint_36 : decode cX7_paint 36 = .ok (.getfield 12, 3) := by decide +kernel
theorem dX7_paint_39 : decode cX7_paint 39 = .ok (.getfield 48, 3) := by decide +kernel
theorem dX7_paint_42 : decode cX7_paint 42 = .ok (.iload_n 1, 1) := by decide +kernel
theorem dX7_paint_43 : decode cX7_paint 43 = .ok (.iload_n 2, 1) := by decide +kernel
theorem dX7_paint_44 : decode cX7_paint 44 = .ok (.iastore, 1) := by decide +kernel
theorem dX7_paint_45 : decode cX7_paint 45 = .ok (.iload_n 3, 1) := by decide +kernel
theorem dX7_paint_46 : decode cX7_paint 46 = .ok (.ireturn, 1) := by decide +kernel
theorem dX7_wash_0 : decode cX7_wash 0 = .ok (.aload_n 0, 1) := by decide +kernel
theorem dX7_wash_1 : decode cX7_wash 1 = .ok (.getfield 12, 3) := by decide +kernel
theorem dX7_wash_4 : decode cX7_wash 4 = .ok (.invokevirtual 52, 3) := by decide +kernel
theorem dX7_wash_7 : decode cX7_wash 7 = .ok (.istore_n 1, 1) := by decide +kernel
theorem dX7_wash_8 : decode cX7_wash 8 = .ok (.aload_n 0, 1) := by decide +kernel
theorem dX7_wash_9 : decode cX7_wash 9 = .ok (.getfield 12, 3) := by decide +kernel
theorem dX7_wash_12 : decode cX7_wash 12 = .ok (.invokevirtual 55, 3) := by decide +kernel
theorem dX7_wash_15 : decode cX7_wash 15 = .ok (.iload_n 1, 1) := by decide +kernel
theorem dX7_wash_16 : decode cX7_wash 16 = .ok (.ireturn, 1) := by decide +kernel
theorem dX7_of_0 : decode cX7_of 0 = .ok (.aload_n 0, 1) := by decide +kernel
theorem dX7_of_1 : decode cX7_of 1 = .ok (.getfield 12, 3) := by decide +kernel
theorem dX7_of_4 : decode cX7_of 4 = .ok (.iload_n 1, 1) := by decide +kernel
theorem dX7_of_5 : decode cX7_of 5 = .ok (.invokevirtual 45, 3) := by decide +kernel
theorem dX7_of_8 : decode cX7_of 8 = .ok (.ifCond .ne 6, 3) := by decide +kernel
theorem dX7_of_11 : decode cX7_of 11 = .ok (.bipush (-2), 2) := by decide +kernel
theorem dX7_of_13 : decode cX7_of 13 = .ok (.ireturn, 1) := by decide +kernel
theorem dX7_of_14 : decode cX7_of 14 = .ok (.iload_n 2, 1) := by decide +kernel
theorem dX7_of_15 : decode cX7_of 15 = .ok (.tableswitch 69 0 3 #[29, 39, 49, 59], 29) := by decide +kernel
theorem dX7_of_44 : decode cX7_of 44 = .ok (.aload_n 0, 1) := by decide +kernel
theorem dX7_of_45 : decode cX7_of 45 = .ok (.getfield 12, 3) := by decide +kernel
theorem dX7_of_48 : decode cX7_of 48 = .ok (.getfield 58, 3) := by decide +kernel
theorem dX7_of_51 : decode cX7_of 51 = .ok (.iload_n 1, 1) := by decide +kernel
theorem dX7_of_52 : decode cX7_of 52 = .ok (.iaload, 1) := by decide +kernel
theorem dX7_of_53 : decode cX7_of 53 = .ok (.ireturn, 1) := by decide +kernel
theorem dX7_of_54 : decode cX7_of 54 = .ok (.aload_n 0, 1) := by decide +kernel
theorem dX7_of_55 : decode cX7_of 55 = .ok (.getfield 12, 3) := by decide +kernel
theorem dX7_of_58 : decode cX7_of 58 = .ok (.getfield 61, 3) := by decide +kernel
theorem dX7_of_61 : decode cX7_of 61 = .ok (.iload_n 1, 1) := by decide +kernel
theorem dX7_of_62 : decode cX7_of 62 = .ok (.iaload, 1) := by decide +kernel
theorem dX7_of_63 : decode cX7_of 63 = .ok (.ireturn, 1) := by decide +kernel
theorem dX7_of_64 : decode cX7_of 64 = .ok (.aload_n 0, 1) := by decide +kernel
theorem dX7_of_65 : decode cX7_of 65 = .ok (.getfield 12, 3) := by decide +kernel
theorem dX7_of_68 : decode cX7_of 68 = .ok (.getfield 48, 3) := by decide +kernel
theorem dX7_of_71 : decode cX7_of 71 = .ok (.iload_n 1, 1) := by decide +kernel
theorem dX7_of_72 : decode cX7_of 72 = .ok (.iaload, 1) := by decide +kernel
theorem dX7_of_73 : decode cX7_of 73 = .ok (.ireturn, 1) := by decide +kernel
theorem dX7_of_74 : decode cX7_of 74 = .ok (.aload_n 0, 1) := by decide +kernel
theorem dX7_of_75 : decode cX7_of 75 = .ok (.getfield 12, 3) := by decide +kernel
theorem dX7_of_78 : decode cX7_of 78 = .ok (.getfield 64, 3) := by decide +kernel
theorem dX7_of_81 : decode cX7_of 81 = .ok (.iload_n 1, 1) := by decide +kernel
theorem dX7_of_82 : decode cX7_of 82 = .ok (.iaload, 1) := by decide +kernel
theorem dX7_of_83 : decode cX7_of 83 = .ok (.ireturn, 1) := by decide +kernel
theorem dX7_of_84 : decode cX7_of 84 = .ok (.bipush (-2), 2) := by decide +kernel
theorem dX7_of_86 : decode cX7_of 86 = .ok (.ireturn, 1) := by decide +kernel
theorem dX7_roads_0 : decode cX7_roads 0 = .ok (.aload_n 0, 1) := by decide +kernel
theorem dX7_roads_1 : decode cX7_roads 1 = .ok (.getfield 12, 3) := by decide +kernel
theorem dX7_roads_4 : decode cX7_roads 4 = .ok (.iload_n 1, 1) := by decide +kernel
theorem dX7_roads_5 : decode cX7_roads 5 = .ok (.invokevirtual 31, 3) := by decide +kernel
theorem dX7_roads_8 : decode cX7_roads 8 = .ok (.ifCond .ne 6, 3) := by decide +kernel
theorem dX7_roads_11 : decode cX7_roads 11 = .ok (.bipush (-2), 2) := by decide +kernel
theorem dX7_roads_13 : decode cX7_roads 13 = .ok (.ireturn, 1) := by decide +kernel
theorem dX7_roads_14 : decode cX7_roads 14 = .ok (.aload_n 0, 1) := by decide +kernel
theorem dX7_roads_15 : decode cX7_roads 15 = .ok (.getfield 12, 3) := by decide +kernel
theorem dX7_roads_18 : decode cX7_roads 18 = .ok (.getfield 67, 3) := by decide +kernel
theorem dX7_roads_21 : decode cX7_roads 21 = .ok (.iload_n 1, 1) := by decide +kernel
theorem dX7_roads_22 : decode cX7_roads 22 = .ok (.iaload, 1) := by decide +kernel
theorem dX7_roads_23 : decode cX7_roads 23 = .ok (.invokestatic 70, 3) := by decide +kernel
theorem dX7_roads_26 : decode cX7_roads 26 = .ok (.ireturn, 1) := by decide +kernel
theorem dX7_free_0 : decode cX7_free 0 = .ok (.aload_n 0, 1) := by decide +kernel
theorem dX7_free_1 : decode cX7_free 1 = .ok (.getfield 12, 3) := by decide +kernel
theorem dX7_free_4 : decode cX7_free 4 = .ok (.iload_n 1, 1) := by decide +kernel
theorem dX7_free_5 : decode cX7_free 5 = .ok (.invokevirtual 31, 3) := by decide +kernel
theorem dX7_free_8 : decode cX7_free 8 = .ok (.ifCond .ne 6, 3) := by decide +kernel
theorem dX7_free_11 : decode cX7_free 11 = .ok (.bipush (-2), 2) := by decide +kernel
theorem dX7_free_13 : decode cX7_free 13 = .ok (.ireturn, 1) := by decide +kernel
theorem dX7_free_14 : decode cX7_free 14 = .ok (.aload_n 0, 1) := by decide +kernel
theorem dX7_free_15 : decode cX7_free 15 = .ok (.getfield 12, 3) := by decide +kernel
theorem dX7_free_18 : decode cX7_free 18 = .ok (.iload_n 1, 1) := by decide +kernel
theorem dX7_free_19 : decode cX7_free 19 = .ok (.invokevirtual 76, 3) := by decide +kernel
theorem dX7_free_22 : decode cX7_free 22 = .ok (.ireturn, 1) := by decide +kernel
theorem dX7_clash_0 : decode cX7_clash 0 = .ok (.aload_n 0, 1) := by decide +kernel
theorem dX7_clash_1 : decode cX7_clash 1 = .ok (.getfield 12, 3) := by decide +kernel
theorem dX7_clash_4 : decode cX7_clash 4 = .ok (.invokevirtual 79, 3) := by decide +kernel
theorem dX7_clash_7 : decode cX7_clash 7 = .ok (.ireturn, 1) := by decide +kernel
theorem dX7_chain_0 : decode cX7_chain 0 = .ok (.aload_n 0, 1) := by decide +kernel
theorem dX7_chain_1 : decode cX7_chain 1 = .ok (.iload_n 1, 1) := by decide +kernel
theorem dX7_chain_2 : decode cX7_chain 2 = .ok (.iload_n 2, 1) := by decide +kernel
theorem dX7_chain_3 : decode cX7_chain 3 = .ok (.iload_n 3, 1) := by decide +kernel
theorem dX7_chain_4 : decode cX7_chain 4 = .ok (.invokevirtual 82, 3) := by decide +kernel
theorem dX7_chain_7 : decode cX7_chain 7 = .ok (.ifCond .ne 6, 3) := by decide +kernel
theorem dX7_chain_10 : decode cX7_chain 10 = .ok (.bipush (-2), 2) := by decide +kernel
theorem dX7_chain_12 : decode cX7_chain 12 = .ok (.ireturn, 1) := by decide +kernel
theorem dX7_chain_13 : decode cX7_chain 13 = .ok (.aload_n 0, 1) := by decide +kernel
theorem dX7_chain_14 : decode cX7_chain 14 = .ok (.getfield 12, 3) := by decide +kernel
theorem dX7_chain_17 : decode cX7_chain 17 = .ok (.iload_n 1, 1) := by decide +kernel
theorem dX7_chain_18 : decode cX7_chain 18 = .ok (.iload_n 2, 1) := by decide +kernel
theorem dX7_chain_19 : decode cX7_chain 19 = .ok (.iload_n 3, 1) := by decide +kernel
theorem dX7_chain_20 : decode cX7_chain 20 = .ok (.invokevirtual 86, 3) := by decide +kernel
theorem dX7_chain_23 : decode cX7_chain 23 = .ok (.invokestatic 70, 3) := by decide +kernel
theorem dX7_chain_26 : decode cX7_chain 26 = .ok (.ireturn, 1) := by decide +kernel
theorem dX7_swap_0 : decode cX7_swap 0 = .ok (.aload_n 0, 1) := by decide +kernel
theorem dX7_swap_1 : decode cX7_swap 1 = .ok (.iload_n 1, 1) := by decide +kernel
theorem dX7_swap_2 : decode cX7_swap 2 = .ok (.iload_n 2, 1) := by decide +kernel
theorem dX7_swap_3 : decode cX7_swap 3 = .ok (.iload_n 3, 1) := by decide +kernel
theorem dX7_swap_4 : decode cX7_swap 4 = .ok (.invokevirtual 82, 3) := by decide +kernel
theorem dX7_swap_7 : decode cX7_swap 7 = .ok (.ifCond .ne 6, 3) := by decide +kernel
theorem dX7_swap_10 : decode cX7_swap 10 = .ok (.bipush (-2), 2) := by decide +kernel
theorem dX7_swap_12 : decode cX7_swap 12 = .ok (.ireturn, 1) := by decide +kernel
theorem dX7_swap_13 : decode cX7_swap 13 = .ok (.aload_n 0, 1) := by decide +kernel
theorem dX7_swap_14 : decode cX7_swap 14 = .ok (.getfield 12, 3) := by decide +kernel
theorem dX7_swap_17 : decode cX7_swap 17 = .ok (.iload_n 1, 1) := by decide +kernel
theorem dX7_swap_18 : decode cX7_swap 18 = .ok (.iload_n 2, 1) := by decide +kernel
theorem dX7_swap_19 : decode cX7_swap 19 = .ok (.iload_n 3, 1) := by decide +kernel
theorem dX7_swap_20 : decode cX7_swap 20 = .ok (.invokevirtual 86, 3) := by decide +kernel
theorem dX7_swap_23 : decode cX7_swap 23 = .ok (.istore 4, 2) := by decide +kernel
theorem dX7_swap_25 : decode cX7_swap 25 = .ok (.aload_n 0, 1) := by decide +kernel
theorem dX7_swap_26 : decode cX7_swap 26 = .ok (.getfield 12, 3) := by decide +kernel
theorem dX7_swap_29 : decode cX7_swap 29 = .ok (.iload 4, 2) := by decide +kernel
theorem dX7_swap_31 : decode cX7_swap 31 = .ok (.iload_n 2, 1) := by decide +kernel
theorem dX7_swap_32 : decode cX7_swap 32 = .ok (.iload_n 3, 1) := by decide +kernel
theorem dX7_swap_33 : decode cX7_swap 33 = .ok (.invokevirtual 90, 3) := by decide +kernel
theorem dX7_swap_36 : decode cX7_swap 36 = .ok (.iload 4, 2) := by decide +kernel
theorem dX7_swap_38 : decode cX7_swap 38 = .ok (.invokestatic 70, 3) := by decide +kernel
theorem dX7_swap_41 : decode cX7_swap 41 = .ok (.ireturn, 1) := by decide +kernel
theorem dX7_mend_0 : decode cX7_mend 0 = .ok (.aload_n 0, 1) := by decide +kernel
theorem dX7_mend_1 : decode cX7_mend 1 = .ok (.getfield 12, 3) := by decide +kernel
theorem dX7_mend_4 : decode cX7_mend 4 = .ok (.iload_n 1, 1) := by decide +kernel
theorem dX7_mend_5 : decode cX7_mend 5 = .ok (.invokevirtual 45, 3) := by decide +kernel
theorem dX7_mend_8 : decode cX7_mend 8 = .ok (.ifCond .eq 54, 3) := by decide +kernel
theorem dX7_mend_11 : decode cX7_mend 11 = .ok (.aload_n 0, 1) := by decide +kernel
theorem dX7_mend_12 : decode cX7_mend 12 = .ok (.getfield 12, 3) := by decide +kernel
theorem dX7_mend_15 : decode cX7_mend 15 = .ok (.getfield 48, 3) := by decide +kernel
theorem dX7_mend_18 : decode cX7_mend 18 = .ok (.iload_n 1, 1) := by decide +kernel
theorem dX7_mend_19 : decode cX7_mend 19 = .ok (.iaload, 1) := by decide +kernel
theorem dX7_mend_20 : decode cX7_mend 20 = .ok (.iconst (-1), 1) := by decide +kernel
theorem dX7_mend_21 : decode cX7_mend 21 = .ok (.if_icmp .ne 41, 3) := by decide +kernel
theorem dX7_mend_24 : decode cX7_mend 24 = .ok (.aload_n 0, 1) := by decide +kernel
theorem dX7_mend_25 : decode cX7_mend 25 = .ok (.getfield 12, 3) := by decide +kernel
theorem dX7_mend_28 : decode cX7_mend 28 = .ok (.invokevirtual 79, 3) := by decide +kernel
theorem dX7_mend_31 : decode cX7_mend 31 = .ok (.iconst (-1), 1) := by decide +kernel
theorem dX7_mend_32 : decode cX7_mend 32 = .ok (.if_icmp .ne 30, 3) := by decide +kernel
theorem dX7_mend_35 : decode cX7_mend 35 = .ok (.aload_n 0, 1) := by decide +kernel
theorem dX7_mend_36 : decode cX7_mend 36 = .ok (.getfield 12, 3) := by decide +kernel
theorem dX7_mend_39 : decode cX7_mend 39 = .ok (.invokevirtual 94, 3) := by decide +kernel
theorem dX7_mend_42 : decode cX7_mend 42 = .ok (.aload_n 0, 1) := by decide +kernel
theorem dX7_mend_43 : decode cX7_mend 43 = .ok (.getfield 12, 3) := by decide +kernel
theorem dX7_mend_46 : decode cX7_mend 46 = .ok (.invokevirtual 97, 3) := by decide +kernel
theorem dX7_mend_49 : decode cX7_mend 49 = .ok (.if_icmp .gt 13, 3) := by decide +kernel
theorem dX7_mend_52 : decode cX7_mend 52 = .ok (.aload_n 0, 1) := by decide +kernel
theorem dX7_mend_53 : decode cX7_mend 53 = .ok (.getfield 12, 3) := by decide +kernel
theorem dX7_mend_56 : decode cX7_mend 56 = .ok (.invokevirtual 100, 3) := by decide +kernel
theorem dX7_mend_59 : decode cX7_mend 59 = .ok (.ifCond .ne 6, 3) := by decide +kernel
theorem dX7_mend_62 : decode cX7_mend 62 = .ok (.bipush (-2), 2) := by decide +kernel
theorem dX7_mend_64 : decode cX7_mend 64 = .ok (.ireturn, 1) := by decide +kernel
theorem dX7_mend_65 : decode cX7_mend 65 = .ok (.new 104, 3) := by decide +kernel
theorem dX7_mend_68 : decode cX7_mend 68 = .ok (.dup, 1) := by decide +kernel
theorem dX7_mend_69 : decode cX7_mend 69 = .ok (.aload_n 0, 1) := by decide +kernel
theorem dX7_mend_70 : decode cX7_mend 70 = .ok (.getfield 12, 3) := by decide +kernel
theorem dX7_mend_73 : decode cX7_mend 73 = .ok (.iload_n 1, 1) := by decide +kernel
theorem dX7_mend_74 : decode cX7_mend 74 = .ok (.invokespecial 106, 3) := by decide +kernel
theorem dX7_mend_77 : decode cX7_mend 77 = .ok (.invokevirtual 109, 3) := by decide +kernel
theorem dX7_mend_80 : decode cX7_mend 80 = .ok (.ireturn, 1) := by decide +kernel
theorem dX7_heaps_0 : decode cX7_heaps 0 = .ok (.aload_n 0, 1) := by decide +kernel
theorem dX7_heaps_1 : decode cX7_heaps 1 = .ok (.getfield 12, 3) := by decide +kernel
theorem dX7_heaps_4 : decode cX7_heaps 4 = .ok (.invokevirtual 112, 3) := by decide +kernel
theorem dX7_heaps_7 : decode cX7_heaps 7 = .ok (.invokestatic 115, 3) := by decide +kernel
theorem dX7_heaps_10 : decode cX7_heaps 10 = .ok (.ireturn, 1) := by decide +kernel
theorem dX7_two_0 : decode cX7_two 0 = .ok (.aload_n 0, 1) := by decide +kernel
theorem dX7_two_1 : decode cX7_two 1 = .ok (.getfield 12, 3) := by decide +kernel
theorem dX7_two_4 : decode cX7_two 4 = .ok (.invokevirtual 97, 3) := by decide +kernel
theorem dX7_two_7 : decode cX7_two 7 = .ok (.istore_n 1, 1) := by decide +kernel
theorem dX7_two_8 : decode cX7_two 8 = .ok (.aload_n 0, 1) := by decide +kernel
theorem dX7_two_9 : decode cX7_two 9 = .ok (.getfield 12, 3) := by decide +kernel
theorem dX7_two_12 : decode cX7_two 12 = .ok (.invokevirtual 112, 3) := by decide +kernel
theorem dX7_two_15 : decode cX7_two 15 = .ok (.ifCond .eq 9, 3) := by decide +kernel
theorem dX7_two_18 : decode cX7_two 18 = .ok (.iload_n 1, 1) := by decide +kernel
theorem dX7_two_19 : decode cX7_two 19 = .ok (.bipush 16, 2) := by decide +kernel
theorem dX7_two_21 : decode cX7_two 21 = .ok (.if_icmp .le 6, 3) := by decide +kernel
theorem dX7_two_24 : decode cX7_two 24 = .ok (.bipush (-2), 2) := by decide +kernel
theorem dX7_two_26 : decode cX7_two 26 = .ok (.ireturn, 1) := by decide +kernel
theorem dX7_two_27 : decode cX7_two 27 = .ok (.aload_n 0, 1) := by decide +kernel
theorem dX7_two_28 : decode cX7_two 28 = .ok (.getfield 12, 3) := by decide +kernel
theorem dX7_two_31 : decode cX7_two 31 = .ok (.iload_n 1, 1) := by decide +kernel
theorem dX7_two_32 : decode cX7_two 32 = .ok (.invokevirtual 119, 3) := by decide +kernel
theorem dX7_two_35 : decode cX7_two 35 = .ok (.iload_n 1, 1) := by decide +kernel
theorem dX7_two_36 : decode cX7_two 36 = .ok (.ireturn, 1) := by decide +kernel
theorem dX7_even_0 : decode cX7_even 0 = .ok (.iload_n 1, 1) := by decide +kernel
theorem dX7_even_1 : decode cX7_even 1 = .ok (.iconst 1, 1) := by decide +kernel
theorem dX7_even_2 : decode cX7_even 2 = .ok (.if_icmp .lt 48, 3) := by decide +kernel
theorem dX7_even_5 : decode cX7_even 5 = .ok (.iload_n 1, 1) := by decide +kernel
theorem dX7_even_6 : decode cX7_even 6 = .ok (.bipush 16, 2) := by decide +kernel
theorem dX7_even_8 : decode cX7_even 8 = .ok (.if_icmp .gt 42, 3) := by decide +kernel
theorem dX7_even_11 : decode cX7_even 11 = .ok (.aload_n 0, 1) := by decide +kernel
theorem dX7_even_12 : decode cX7_even 12 = .ok (.getfield 12, 3) := by decide +kernel
theorem dX7_even_15 : decode cX7_even 15 = .ok (.invokevirtual 52, 3) := by decide +kernel
theorem dX7_even_18 : decode cX7_even 18 = .ok (.aload_n 0, 1) := by decide +kernel
theorem dX7_even_19 : decode cX7_even 19 = .ok (.getfield 12, 3) := by decide +kernel
theorem dX7_even_22 : decode cX7_even 22 = .ok (.getfield 35, 3) := by decide +kernel
theorem dX7_even_25 : decode cX7_even 25 = .ok (.if_icmp .lt 25, 3) := by decide +kernel
theorem dX7_even_28 : decode cX7_even 28 = .ok (.aload_n 0, 1) := by decide +kernel
theorem dX7_even_29 : decode cX7_even 29 = .ok (.getfield 12, 3) := by decide +kernel
theorem dX7_even_32 : decode cX7_even 32 = .ok (.invokevirtual 94, 3) := by decide +kernel
theorem dX7_even_35 : decode cX7_even 35 = .ok (.iload_n 1, 1) := by decide +kernel
theorem dX7_even_36 : decode cX7_even 36 = .ok (.if_icmp .ge 14, 3) := by decide +kernel
theorem dX7_even_39 : decode cX7_even 39 = .ok (.aload_n 0, 1) := by decide +kernel
theorem dX7_even_40 : decode cX7_even 40 = .ok (.getfield 12, 3) := by decide +kernel
theorem dX7_even_43 : decode cX7_even 43 = .ok (.invokevirtual 79, 3) := by decide +kernel
theorem dX7_even_46 : decode cX7_even 46 = .ok (.iconst (-1), 1) := by decide +kernel
theorem dX7_even_47 : decode cX7_even 47 = .ok (.if_icmp .eq 6, 3) := by decide +kernel
theorem dX7_even_50 : decode cX7_even 50 = .ok (.bipush (-2), 2) := by decide +kernel
theorem dX7_even_52 : decode cX7_even 52 = .ok (.ireturn, 1) := by decide +kernel
theorem dX7_even_53 : decode cX7_even 53 = .ok (.new 123, 3) := by decide +kernel
theorem dX7_even_56 : decode cX7_even 56 = .ok (.dup, 1) := by decide +kernel
theorem dX7_even_57 : decode cX7_even 57 = .ok (.aload_n 0, 1) := by decide +kernel
theorem dX7_even_58 : decode cX7_even 58 = .ok (.getfield 12, 3) := by decide +kernel
theorem dX7_even_61 : decode cX7_even 61 = .ok (.iload_n 1, 1) := by decide +kernel
theorem dX7_even_62 : decode cX7_even 62 = .ok (.invokespecial 125, 3) := by decide +kernel
theorem dX7_even_65 : decode cX7_even 65 = .ok (.invokevirtual 126, 3) := by decide +kernel
theorem dX7_even_68 : decode cX7_even 68 = .ok (.ireturn, 1) := by decide +kernel
theorem dX7_full_0 : decode cX7_full 0 = .ok (.iload_n 1, 1) := by decide +kernel
theorem dX7_full_1 : decode cX7_full 1 = .ok (.tableswitch 76 0 3 #[31, 39, 57, 68], 31) := by decide +kernel
theorem dX7_full_32 : decode cX7_full 32 = .ok (.aload_n 0, 1) := by decide +kernel
theorem dX7_full_33 : decode cX7_full 33 = .ok (.getfield 12, 3) := by decide +kernel
theorem dX7_full_36 : decode cX7_full 36 = .ok (.invokevirtual 97, 3) := by decide +kernel
theorem dX7_full_39 : decode cX7_full 39 = .ok (.ireturn, 1) := by decide +kernel
theorem dX7_full_40 : decode cX7_full 40 = .ok (.aload_n 0, 1) := by decide +kernel
theorem dX7_full_41 : decode cX7_full 41 = .ok (.getfield 12, 3) := by decide +kernel
theorem dX7_full_44 : decode cX7_full 44 = .ok (.invokevirtual 97, 3) := by decide +kernel
theorem dX7_full_47 : decode cX7_full 47 = .ok (.aload_n 0, 1) := by decide +kernel
theorem dX7_full_48 : decode cX7_full 48 = .ok (.invokevirtual 129, 3) := by decide +kernel
theorem dX7_full_51 : decode cX7_full 51 = .ok (.invokevirtual 133, 3) := by decide +kernel
theorem dX7_full_54 : decode cX7_full 54 = .ok (.invokestatic 138, 3) := by decide +kernel
theorem dX7_full_57 : decode cX7_full 57 = .ok (.ireturn, 1) := by decide +kernel
theorem dX7_full_58 : decode cX7_full 58 = .ok (.aload_n 0, 1) := by decide +kernel
theorem dX7_full_59 : decode cX7_full 59 = .ok (.getfield 12, 3) := by decide +kernel
theorem dX7_full_62 : decode cX7_full 62 = .ok (.invokevirtual 100, 3) := by decide +kernel
theorem dX7_full_65 : decode cX7_full 65 = .ok (.invokestatic 115, 3) := by decide +kernel
theorem dX7_full_68 : decode cX7_full 68 = .ok (.ireturn, 1) := by decide +kernel
theorem dX7_full_69 : decode cX7_full 69 = .ok (.aload_n 0, 1) := by decide +kernel
theorem dX7_full_70 : decode cX7_full 70 = .ok (.getfield 12, 3) := by decide +kernel
theorem dX7_full_73 : decode cX7_full 73 = .ok (.invokevirtual 52, 3) := by decide +kernel
theorem dX7_full_76 : decode cX7_full 76 = .ok (.ireturn, 1) := by decide +kernel
theorem dX7_full_77 : decode cX7_full 77 = .ok (.bipush (-2), 2) := by decide +kernel
theorem dX7_full_79 : decode cX7_full 79 = .ok (.ireturn, 1) := by decide +kernel
theorem dX7_least_0 : decode cX7_least 0 = .ok (.aload_n 0, 1) := by decide +kernel
theorem dX7_least_1 : decode cX7_least 1 = .ok (.getfield 12, 3) := by decide +kernel
theorem dX7_least_4 : decode cX7_least 4 = .ok (.getfield 35, 3) := by decide +kernel
theorem dX7_least_7 : decode cX7_least 7 = .ok (.bipush 12, 2) := by decide +kernel
theorem dX7_least_9 : decode cX7_least 9 = .ok (.if_icmp .le 6, 3) := by decide +kernel
theorem dX7_least_12 : decode cX7_least 12 = .ok (.bipush (-2), 2) := by decide +kernel
theorem dX7_least_14 : decode cX7_least 14 = .ok (.ireturn, 1) := by decide +kernel
theorem dX7_least_15 : decode cX7_least 15 = .ok (.aload_n 0, 1) := by decide +kernel
theorem dX7_least_16 : decode cX7_least 16 = .ok (.invokevirtual 143, 3) := by decide +kernel
theorem dX7_least_19 : decode cX7_least 19 = .ok (.invokevirtual 147, 3) := by decide +kernel
theorem dX7_least_22 : decode cX7_least 22 = .ok (.ireturn, 1) := by decide +kernel
theorem dX7_first_0 : decode cX7_first 0 = .ok (.iload_n 1, 1) := by decide +kernel
theorem dX7_first_1 : decode cX7_first 1 = .ok (.ifCond .lt 21, 3) := by decide +kernel
theorem dX7_first_4 : decode cX7_first 4 = .ok (.iload_n 1, 1) := by decide +kernel
theorem dX7_first_5 : decode cX7_first 5 = .ok (.bipush 16, 2) := by decide +kernel
theorem dX7_first_7 : decode cX7_first 7 = .ok (.if_icmp .gt 15, 3) := by decide +kernel
theorem dX7_first_10 : decode cX7_first 10 = .ok (.aload_n 0, 1) := by decide +kernel
theorem dX7_first_11 : decode cX7_first 11 = .ok (.getfield 12, 3) := by decide +kernel
theorem dX7_first_14 : decode cX7_first 14 = .ok (.getfield 35, 3) := by decide +kernel
theorem dX7_first_17 : decode cX7_first 17 = .ok (.bipush 12, 2) := by decide +kernel
theorem dX7_first_19 : decode cX7_first 19 = .ok (.if_icmp .le 6, 3) := by decide +kernel
theorem dX7_first_22 : decode cX7_first 22 = .ok (.bipush (-2), 2) := by decide +kernel
theorem dX7_first_24 : decode cX7_first 24 = .ok (.ireturn, 1) := by decide +kernel
theorem dX7_first_25 : decode cX7_first 25 = .ok (.aload_n 0, 1) := by decide +kernel
theorem dX7_first_26 : decode cX7_first 26 = .ok (.invokevirtual 143, 3) := by decide +kernel
theorem dX7_first_29 : decode cX7_first 29 = .ok (.astore_n 2, 1) := by decide +kernel
theorem dX7_first_30 : decode cX7_first 30 = .ok (.aload_n 2, 1) := by decide +kernel
theorem dX7_first_31 : decode cX7_first 31 = .ok (.iload_n 1, 1) := by decide +kernel
theorem dX7_first_32 : decode cX7_first 32 = .ok (.invokevirtual 152, 3) := by decide +kernel
theorem dX7_first_35 : decode cX7_first 35 = .ok (.aload_n 2, 1) := by decide +kernel
theorem dX7_first_36 : decode cX7_first 36 = .ok (.invokevirtual 155, 3) := by decide +kernel
theorem dX7_first_39 : decode cX7_first 39 = .ok (.invokestatic 115, 3) := by decide +kernel
theorem dX7_first_42 : decode cX7_first 42 = .ok (.ireturn, 1) := by decide +kernel
theorem dX7_count_0 : decode cX7_count 0 = .ok (.iload_n 1, 1) := by decide +kernel
theorem dX7_count_1 : decode cX7_count 1 = .ok (.ifCond .lt 21, 3) := by decide +kernel
theorem dX7_count_4 : decode cX7_count 4 = .ok (.iload_n 1, 1) := by decide +kernel
theorem dX7_count_5 : decode cX7_count 5 = .ok (.bipush 9, 2) := by decide +kernel
theorem dX7_count_7 : decode cX7_count 7 = .ok (.if_icmp .gt 15, 3) := by decide +kernel
theorem dX7_count_10 : decode cX7_count 10 = .ok (.aload_n 0, 1) := by decide +kernel
theorem dX7_count_11 : decode cX7_count 11 = .ok (.getfield 12, 3) := by decide +kernel
theorem dX7_count_14 : decode cX7_count 14 = .ok (.getfield 35, 3) := by decide +kernel
theorem dX7_count_17 : decode cX7_count 17 = .ok (.bipush 12, 2) := by decide +kernel
theorem dX7_count_19 : decode cX7_count 19 = .ok (.if_icmp .le 7, 3) := by decide +kernel
theorem dX7_count_22 : decode cX7_count 22 = .ok (.ldc2_w 158, 3) := by decide +kernel
theorem dX7_count_25 : decode cX7_count 25 = .ok (.lreturn, 1) := by decide +kernel
theorem dX7_count_26 : decode cX7_count 26 = .ok (.aload_n 0, 1) := by decide +kernel
theorem dX7_count_27 : decode cX7_count 27 = .ok (.getfield 160, 3) := by decide +kernel
theorem dX7_count_30 : decode cX7_count 30 = .ok (.ifnonnull 18, 3) := by decide +kernel
theorem dX7_count_33 : decode cX7_count 33 = .ok (.aload_n 0, 1) := by decide +kernel
theorem dX7_count_34 : decode cX7_count 34 = .ok (.new 164, 3) := by decide +kernel
theorem dX7_count_37 : decode cX7_count 37 = .ok (.dup, 1) := by decide +kernel
theorem dX7_count_38 : decode cX7_count 38 = .ok (.aload_n 0, 1) := by decide +kernel
theorem dX7_count_39 : decode cX7_count 39 = .ok (.getfield 12, 3) := by decide +kernel
theorem dX7_count_42 : decode cX7_count 42 = .ok (.invokespecial 166, 3) := by decide +kernel
theorem dX7_count_45 : decode cX7_count 45 = .ok (.putfield 160, 3) := by decide +kernel
theorem dX7_count_48 : decode cX7_count 48 = .ok (.aload_n 0, 1) := by decide +kernel
theorem dX7_count_49 : decode cX7_count 49 = .ok (.getfield 160, 3) := by decide +kernel
theorem dX7_count_52 : decode cX7_count 52 = .ok (.iload_n 1, 1) := by decide +kernel
theorem dX7_count_53 : decode cX7_count 53 = .ok (.invokevirtual 169, 3) := by decide +kernel
theorem dX7_count_56 : decode cX7_count 56 = .ok (.lreturn, 1) := by decide +kernel
theorem dX7_critical_0 : decode cX7_critical 0 = .ok (.aload_n 0, 1) := by decide +kernel
theorem dX7_critical_1 : decode cX7_critical 1 = .ok (.getfield 12, 3) := by decide +kernel
theorem dX7_critical_4 : decode cX7_critical 4 = .ok (.getfield 35, 3) := by decide +kernel
theorem dX7_critical_7 : decode cX7_critical 7 = .ok (.bipush 12, 2) := by decide +kernel
theorem dX7_critical_9 : decode cX7_critical 9 = .ok (.if_icmp .le 6, 3) := by decide +kernel
theorem dX7_critical_12 : decode cX7_critical 12 = .ok (.bipush (-2), 2) := by decide +kernel
theorem dX7_critical_14 : decode cX7_critical 14 = .ok (.ireturn, 1) := by decide +kernel
theorem dX7_critical_15 : decode cX7_critical 15 = .ok (.aload_n 0, 1) := by decide +kernel
theorem dX7_critical_16 : decode cX7_critical 16 = .ok (.invokevirtual 143, 3) := by decide +kernel
theorem dX7_critical_19 : decode cX7_critical 19 = .ok (.invokevirtual 173, 3) := by decide +kernel
theorem dX7_critical_22 : decode cX7_critical 22 = .ok (.invokestatic 115, 3) := by decide +kernel
theorem dX7_critical_25 : decode cX7_critical 25 = .ok (.ireturn, 1) := by decide +kernel
theorem dX7_need_0 : decode cX7_need 0 = .ok (.iload_n 1, 1) := by decide +kernel
theorem dX7_need_1 : decode cX7_need 1 = .ok (.aload_n 0, 1) := by decide +kernel
theorem dX7_need_2 : decode cX7_need 2 = .ok (.getfield 12, 3) := by decide +kernel
theorem dX7_need_5 : decode cX7_need 5 = .ok (.invokevirtual 176, 3) := by decide +kernel
theorem dX7_need_8 : decode cX7_need 8 = .ok (.iconst (-1), 1) := by decide +kernel
theorem dX7_need_9 : decode cX7_need 9 = .ok (.ixor, 1) := by decide +kernel
theorem dX7_need_10 : decode cX7_need 10 = .ok (.iand, 1) := by decide +kernel
theorem dX7_need_11 : decode cX7_need 11 = .ok (.ifCond .ne 11, 3) := by decide +kernel
theorem dX7_need_14 : decode cX7_need 14 = .ok (.iload_n 1, 1) := by decide +kernel
theorem dX7_need_15 : decode cX7_need 15 = .ok (.invokestatic 70, 3) := by decide +kernel
theorem dX7_need_18 : decode cX7_need 18 = .ok (.iconst 3, 1) := by decide +kernel
theorem dX7_need_19 : decode cX7_need 19 = .ok (.if_icmp .ge 6, 3) := by decide +kernel
theorem dX7_need_22 : decode cX7_need 22 = .ok (.bipush (-2), 2) := by decide +kernel
theorem dX7_need_24 : decode cX7_need 24 = .ok (.ireturn, 1) := by decide +kernel
theorem dX7_need_25 : decode cX7_need 25 = .ok (.aload_n 0, 1) := by decide +kernel
theorem dX7_need_26 : decode cX7_need 26 = .ok (.getfield 12, 3) := by decide +kernel
theorem dX7_need_29 : decode cX7_need 29 = .ok (.iload_n 1, 1) := by decide +kernel
theorem dX7_need_30 : decode cX7_need 30 = .ok (.invokevirtual 179, 3) := by decide +kernel
theorem dX7_need_33 : decode cX7_need 33 = .ok (.iload_n 1, 1) := by decide +kernel
theorem dX7_need_34 : decode cX7_need 34 = .ok (.invokestatic 70, 3) := by decide +kernel
theorem dX7_need_37 : decode cX7_need 37 = .ok (.invokestatic 182, 3) := by decide +kernel
theorem dX7_need_40 : decode cX7_need 40 = .ok (.ireturn, 1) := by decide +kernel
theorem dX7_heap_0 : decode cX7_heap 0 = .ok (.aload_n 0, 1) := by decide +kernel
theorem dX7_heap_1 : decode cX7_heap 1 = .ok (.invokevirtual 129, 3) := by decide +kernel
theorem dX7_heap_4 : decode cX7_heap 4 = .ok (.invokevirtual 185, 3) := by decide +kernel
theorem dX7_heap_7 : decode cX7_heap 7 = .ok (.ireturn, 1) := by decide +kernel
theorem dX7_list_0 : decode cX7_list 0 = .ok (.aload_n 0, 1) := by decide +kernel
theorem dX7_list_1 : decode cX7_list 1 = .ok (.getfield 12, 3) := by decide +kernel
theorem dX7_list_4 : decode cX7_list 4 = .ok (.iload_n 1, 1) := by decide +kernel
theorem dX7_list_5 : decode cX7_list 5 = .ok (.invokevirtual 45, 3) := by decide +kernel
theorem dX7_list_8 : decode cX7_list 8 = .ok (.ifCond .eq 13, 3) := by decide +kernel
theorem dX7_list_11 : decode cX7_list 11 = .ok (.iload_n 2, 1) := by decide +kernel
theorem dX7_list_12 : decode cX7_list 12 = .ok (.ifCond .lt 9, 3) := by decide +kernel
theorem dX7_list_15 : decode cX7_list 15 = .ok (.iload_n 2, 1) := by decide +kernel
theorem dX7_list_16 : decode cX7_list 16 = .ok (.ldc 188, 2) := by decide +kernel
theorem dX7_list_18 : decode cX7_list 18 = .ok (.if_icmp .le 6, 3) := by decide +kernel
theorem dX7_list_21 : decode cX7_list 21 = .ok (.bipush (-2), 2) := by decide +kernel
theorem dX7_list_23 : decode cX7_list 23 = .ok (.ireturn, 1) := by decide +kernel
theorem dX7_list_24 : decode cX7_list 24 = .ok (.aload_n 0, 1) := by decide +kernel
theorem dX7_list_25 : decode cX7_list 25 = .ok (.getfield 12, 3) := by decide +kernel
theorem dX7_list_28 : decode cX7_list 28 = .ok (.getfield 64, 3) := by decide +kernel
theorem dX7_list_31 : decode cX7_list 31 = .ok (.iload_n 1, 1) := by decide +kernel
theorem dX7_list_32 : decode cX7_list 32 = .ok (.iaload, 1) := by decide +kernel
theorem dX7_list_33 : decode cX7_list 33 = .ok (.istore_n 3, 1) := by decide +kernel
theorem dX7_list_34 : decode cX7_list 34 = .ok (.aload_n 0, 1) := by decide +kernel
theorem dX7_list_35 : decode cX7_list 35 = .ok (.getfield 12, 3) := by decide +kernel
theorem dX7_list_38 : decode cX7_list 38 = .ok (.getfield 64, 3) := by decide +kernel
theorem dX7_list_41 : decode cX7_list 41 = .ok (.iload_n 1, 1) := by decide +kernel
theorem dX7_list_42 : decode cX7_list 42 = .ok (.iload_n 2, 1) := by decide +kernel
theorem dX7_list_43 : decode cX7_list 43 = .ok (.iastore, 1) := by decide +kernel
theorem dX7_list_44 : decode cX7_list 44 = .ok (.iload_n 3, 1) := by decide +kernel
theorem dX7_list_45 : decode cX7_list 45 = .ok (.ireturn, 1) := by decide +kernel
theorem dX7_choose_0 : decode cX7_choose 0 = .ok (.aload_n 0, 1) := by decide +kernel
theorem dX7_choose_1 : decode cX7_choose 1 = .ok (.getfield 12, 3) := by decide +kernel
theorem dX7_choose_4 : decode cX7_choose 4 = .ok (.getfield 35, 3) := by decide +kernel
theorem dX7_choose_7 : decode cX7_choose 7 = .ok (.bipush 8, 2) := by decide +kernel
theorem dX7_choose_9 : decode cX7_choose 9 = .ok (.if_icmp .le 6, 3) := by decide +kernel
theorem dX7_choose_12 : decode cX7_choose 12 = .ok (.bipush (-2), 2) := by decide +kernel
theorem dX7_choose_14 : decode cX7_choose 14 = .ok (.ireturn, 1) := by decide +kernel
theorem dX7_choose_15 : decode cX7_choose 15 = .ok (.aload_n 0, 1) := by decide +kernel
theorem dX7_choose_16 : decode cX7_choose 16 = .ok (.invokevirtual 143, 3) := by decide +kernel
theorem dX7_choose_19 : decode cX7_choose 19 = .ok (.astore_n 1, 1) := by decide +kernel
theorem dX7_choose_20 : decode cX7_choose 20 = .ok (.aload_n 1, 1) := by decide +kernel
theorem dX7_choose_21 : decode cX7_choose 21 = .ok (.invokevirtual 189, 3) := by decide +kernel
theorem dX7_choose_24 : decode cX7_choose 24 = .ok (.aload_n 1, 1) := by decide +kernel
theorem dX7_choose_25 : decode cX7_choose 25 = .ok (.invokevirtual 155, 3) := by decide +kernel
theorem dX7_choose_28 : decode cX7_choose 28 = .ok (.invokestatic 115, 3) := by decide +kernel
theorem dX7_choose_31 : decode cX7_choose 31 = .ok (.ireturn, 1) := by decide +kernel
theorem dX7_square_0 : decode cX7_square 0 = .ok (.iload_n 1, 1) := by decide +kernel
theorem dX7_square_1 : decode cX7_square 1 = .ok (.iconst 2, 1) := by decide +kernel
theorem dX7_square_2 : decode cX7_square 2 = .ok (.if_icmp .lt 9, 3) := by decide +kernel
theorem dX7_square_5 : decode cX7_square 5 = .ok (.iload_n 1, 1) := by decide +kernel
theorem dX7_square_6 : decode cX7_square 6 = .ok (.bipush 9, 2) := by decide +kernel
theorem dX7_square_8 : decode cX7_square 8 = .ok (.if_icmp .le 6, 3) := by decide +kernel
theorem dX7_square_11 : decode cX7_square 11 = .ok (.bipush (-2), 2) := by decide +kernel
theorem dX7_square_13 : decode cX7_square 13 = .ok (.ireturn, 1) := by decide +kernel
theorem dX7_square_14 : decode cX7_square 14 = .ok (.aload_n 0, 1) := by decide +kernel
theorem dX7_square_15 : decode cX7_square 15 = .ok (.getfield 19, 3) := by decide +kernel
theorem dX7_square_18 : decode cX7_square 18 = .ok (.iload_n 1, 1) := by decide +kernel
theorem dX7_square_19 : decode cX7_square 19 = .ok (.invokevirtual 192, 3) := by decide +kernel
theorem dX7_square_22 : decode cX7_square 22 = .ok (.ireturn, 1) := by decide +kernel
theorem dX7_hold_0 : decode cX7_hold 0 = .ok (.aload_n 0, 1) := by decide +kernel
theorem dX7_hold_1 : decode cX7_hold 1 = .ok (.getfield 19, 3) := by decide +kernel
theorem dX7_hold_4 : decode cX7_hold 4 = .ok (.invokevirtual 195, 3) := by decide +kernel
theorem dX7_hold_7 : decode cX7_hold 7 = .ok (.ifCond .eq 14, 3) := by decide +kernel
theorem dX7_hold_10 : decode cX7_hold 10 = .ok (.aload_n 0, 1) := by decide +kernel
theorem dX7_hold_11 : decode cX7_hold 11 = .ok (.getfield 19, 3) := by decide +kernel
theorem dX7_hold_14 : decode cX7_hold 14 = .ok (.iload_n 1, 1) := by decide +kernel
theorem dX7_hold_15 : decode cX7_hold 15 = .ok (.invokevirtual 198, 3) := by decide +kernel
theorem dX7_hold_18 : decode cX7_hold 18 = .ok (.ifCond .ne 6, 3) := by decide +kernel
theorem dX7_hold_21 : decode cX7_hold 21 = .ok (.bipush (-2), 2) := by decide +kernel
theorem dX7_hold_23 : decode cX7_hold 23 = .ok (.ireturn, 1) := by decide +kernel
theorem dX7_hold_24 : decode cX7_hold 24 = .ok (.aload_n 0, 1) := by decide +kernel
theorem dX7_hold_25 : decode cX7_hold 25 = .ok (.getfield 19, 3) := by decide +kernel
theorem dX7_hold_28 : decode cX7_hold 28 = .ok (.iload_n 1, 1) := by decide +kernel
theorem dX7_hold_29 : decode cX7_hold 29 = .ok (.invokevirtual 201, 3) := by decide +kernel
theorem dX7_hold_32 : decode cX7_hold 32 = .ok (.aload_n 0, 1) := by decide +kernel
theorem dX7_hold_33 : decode cX7_hold 33 = .ok (.getfield 19, 3) := by decide +kernel
theorem dX7_hold_36 : decode cX7_hold 36 = .ok (.getfield 204, 3) := by decide +kernel
theorem dX7_hold_39 : decode cX7_hold 39 = .ok (.ireturn, 1) := by decide +kernel
theorem dX7_on_0 : decode cX7_on 0 = .ok (.aload_n 0, 1) := by decide +kernel
theorem dX7_on_1 : decode cX7_on 1 = .ok (.getfield 19, 3) := by decide +kernel
theorem dX7_on_4 : decode cX7_on 4 = .ok (.invokevirtual 195, 3) := by decide +kernel
theorem dX7_on_7 : decode cX7_on 7 = .ok (.ifCond .ne 6, 3) := by decide +kernel
theorem dX7_on_10 : decode cX7_on 10 = .ok (.bipush (-2), 2) := by decide +kernel
theorem dX7_on_12 : decode cX7_on 12 = .ok (.ireturn, 1) := by decide +kernel
theorem dX7_on_13 : decode cX7_on 13 = .ok (.aload_n 0, 1) := by decide +kernel
theorem dX7_on_14 : decode cX7_on 14 = .ok (.getfield 19, 3) := by decide +kernel
theorem dX7_on_17 : decode cX7_on 17 = .ok (.invokevirtual 207, 3) := by decide +kernel
theorem dX7_on_20 : decode cX7_on 20 = .ok (.istore_n 1, 1) := by decide +kernel
theorem dX7_on_21 : decode cX7_on 21 = .ok (.aload_n 0, 1) := by decide +kernel
theorem dX7_on_22 : decode cX7_on 22 = .ok (.getfield 19, 3) := by decide +kernel
theorem dX7_on_25 : decode cX7_on 25 = .ok (.iload_n 1, 1) := by decide +kernel
theorem dX7_on_26 : decode cX7_on 26 = .ok (.invokevirtual 201, 3) := by decide +kernel
theorem dX7_on_29 : decode cX7_on 29 = .ok (.iload_n 1, 1) := by decide +kernel
theorem dX7_on_30 : decode cX7_on 30 = .ok (.ireturn, 1) := by decide +kernel
theorem dX7_rows_0 : decode cX7_rows 0 = .ok (.aload_n 0, 1) := by decide +kernel
theorem dX7_rows_1 : decode cX7_rows 1 = .ok (.getfield 19, 3) := by decide +kernel
theorem dX7_rows_4 : decode cX7_rows 4 = .ok (.invokevirtual 195, 3) := by decide +kernel
theorem dX7_rows_7 : decode cX7_rows 7 = .ok (.ifCond .ne 6, 3) := by decide +kernel
theorem dX7_rows_10 : decode cX7_rows 10 = .ok (.bipush (-2), 2) := by decide +kernel
theorem dX7_rows_12 : decode cX7_rows 12 = .ok (.ireturn, 1) := by decide +kernel
theorem dX7_rows_13 : decode cX7_rows 13 = .ok (.aload_n 0, 1) := by decide +kernel
theorem dX7_rows_14 : decode cX7_rows 14 = .ok (.getfield 19, 3) := by decide +kernel
theorem dX7_rows_17 : decode cX7_rows 17 = .ok (.invokevirtual 210, 3) := by decide +kernel
theorem dX7_rows_20 : decode cX7_rows 20 = .ok (.ireturn, 1) := by decide +kernel
theorem dX7_at_0 : decode cX7_at 0 = .ok (.iload_n 1, 1) := by decide +kernel
theorem dX7_at_1 : decode cX7_at 1 = .ok (.ifCond .lt 29, 3) := by decide +kernel
theorem dX7_at_4 : decode cX7_at 4 = .ok (.iload_n 1, 1) := by decide +kernel
theorem dX7_at_5 : decode cX7_at 5 = .ok (.aload_n 0, 1) := by decide +kernel
theorem dX7_at_6 : decode cX7_at 6 = .ok (.getfield 19, 3) := by decide +kernel
theorem dX7_at_9 : decode cX7_at 9 = .ok (.getfield 204, 3) := by decide +kernel
theorem dX7_at_12 : decode cX7_at 12 = .ok (.if_icmp .ge 18, 3) := by decide +kernel
theorem dX7_at_15 : decode cX7_at 15 = .ok (.iload_n 2, 1) := by decide +kernel
theorem dX7_at_16 : decode cX7_at 16 = .ok (.ifCond .lt 14, 3) := by decide +kernel
theorem dX7_at_19 : decode cX7_at 19 = .ok (.iload_n 2, 1) := by decide +kernel
theorem dX7_at_20 : decode cX7_at 20 = .ok (.aload_n 0, 1) := by decide +kernel
theorem dX7_at_21 : decode cX7_at 21 = .ok (.getfield 19, 3) := by decide +kernel
theorem dX7_at_24 : decode cX7_at 24 = .ok (.getfield 213, 3) := by decide +kernel
theorem dX7_at_27 : decode cX7_at 27 = .ok (.if_icmp .lt 5, 3) := by decide +kernel
theorem dX7_at_30 : decode cX7_at 30 = .ok (.iconst (-1), 1) := by decide +kernel
theorem dX7_at_31 : decode cX7_at 31 = .ok (.ireturn, 1) := by decide +kernel
theorem dX7_at_32 : decode cX7_at 32 = .ok (.aload_n 0, 1) := by decide +kernel
theorem dX7_at_33 : decode cX7_at 33 = .ok (.getfield 19, 3) := by decide +kernel
theorem dX7_at_36 : decode cX7_at 36 = .ok (.getfield 216, 3) := by decide +kernel
theorem dX7_at_39 : decode cX7_at 39 = .ok (.iload_n 1, 1) := by decide +kernel
theorem dX7_at_40 : decode cX7_at 40 = .ok (.bipush 9, 2) := by decide +kernel
theorem dX7_at_42 : decode cX7_at 42 = .ok (.imul, 1) := by decide +kernel
theorem dX7_at_43 : decode cX7_at 43 = .ok (.iload_n 2, 1) := by decide +kernel
theorem dX7_at_44 : decode cX7_at 44 = .ok (.iadd, 1) := by decide +kernel
theorem dX7_at_45 : decode cX7_at 45 = .ok (.iaload, 1) := by decide +kernel
theorem dX7_at_46 : decode cX7_at 46 = .ok (.ireturn, 1) := by decide +kernel
theorem dX7_meets_0 : decode cX7_meets 0 = .ok (.iload_n 1, 1) := by decide +kernel
theorem dX7_meets_1 : decode cX7_meets 1 = .ok (.iconst 2, 1) := by decide +kernel
theorem dX7_meets_2 : decode cX7_meets 2 = .ok (.irem, 1) := by decide +kernel
theorem dX7_meets_3 : decode cX7_meets 3 = .ok (.ifCond .ne 34, 3) := by decide +kernel
theorem dX7_meets_6 : decode cX7_meets 6 = .ok (.iload_n 1, 1) := by decide +kernel
theorem dX7_meets_7 : decode cX7_meets 7 = .ok (.iconst 2, 1) := by decide +kernel
theorem dX7_meets_8 : decode cX7_meets 8 = .ok (.if_icmp .lt 29, 3) := by decide +kernel
theorem dX7_meets_11 : decode cX7_meets 11 = .ok (.iload_n 1, 1) := by decide +kernel
theorem dX7_meets_12 : decode cX7_meets 12 = .ok (.bipush 20, 2) := by decide +kernel
theorem dX7_meets_14 : decode cX7_meets 14 = .ok (.if_icmp .gt 23, 3) := by decide +kernel
theorem dX7_meets_17 : decode cX7_meets 17 = .ok (.iload_n 2, 1) := by decide +kernel
theorem dX7_meets_18 : decode cX7_meets 18 = .ok (.ifCond .lt 19, 3) := by decide +kernel
theorem dX7_meets_21 : decode cX7_meets 21 = .ok (.iload_n 2, 1) := by decide +kernel
theorem dX7_meets_22 : decode cX7_meets 22 = .ok (.iload_n 1, 1) := by decide +kernel
theorem dX7_meets_23 : decode cX7_meets 23 = .ok (.iconst 2, 1) := by decide +kernel
theorem dX7_meets_24 : decode cX7_meets 24 = .ok (.isub, 1) := by decide +kernel
theorem dX7_meets_25 : decode cX7_meets 25 = .ok (.if_icmp .gt 12, 3) := by decide +kernel
theorem dX7_meets_28 : decode cX7_meets 28 = .ok (.iload_n 3, 1) := by decide +kernel
theorem dX7_meets_29 : decode cX7_meets 29 = .ok (.ifCond .lt 8, 3) := by decide +kernel
theorem dX7_meets_32 : decode cX7_meets 32 = .ok (.iload_n 3, 1) := by decide +kernel
theorem dX7_meets_33 : decode cX7_meets 33 = .ok (.iload_n 1, 1) := by decide +kernel
theorem dX7_meets_34 : decode cX7_meets 34 = .ok (.if_icmp .lt 6, 3) := by decide +kernel
theorem dX7_meets_37 : decode cX7_meets 37 = .ok (.bipush (-2), 2) := by decide +kernel
theorem dX7_meets_39 : decode cX7_meets 39 = .ok (.ireturn, 1) := by decide +kernel
theorem dX7_meets_40 : decode cX7_meets 40 = .ok (.iload_n 3, 1) := by decide +kernel
theorem dX7_meets_41 : decode cX7_meets 41 = .ok (.iload_n 1, 1) := by decide +kernel
theorem dX7_meets_42 : decode cX7_meets 42 = .ok (.iconst 1, 1) := by decide +kernel
theorem dX7_meets_43 : decode cX7_meets 43 = .ok (.isub, 1) := by decide +kernel
theorem dX7_meets_44 : decode cX7_meets 44 = .ok (.if_icmp .ne 5, 3) := by decide +kernel
theorem dX7_meets_47 : decode cX7_meets 47 = .ok (.iload_n 2, 1) := by decide +kernel
theorem dX7_meets_48 : decode cX7_meets 48 = .ok (.ireturn, 1) := by decide +kernel
theorem dX7_meets_49 : decode cX7_meets 49 = .ok (.iload_n 3, 1) := by decide +kernel
theorem dX7_meets_50 : decode cX7_meets 50 = .ok (.iload_n 2, 1) := by decide +kernel
theorem dX7_meets_51 : decode cX7_meets 51 = .ok (.if_icmp .ne 7, 3) := by decide +kernel
theorem dX7_meets_54 : decode cX7_meets 54 = .ok (.iload_n 1, 1) := by decide +kernel
theorem dX7_meets_55 : decode cX7_meets 55 = .ok (.iconst 1, 1) := by decide +kernel
theorem dX7_meets_56 : decode cX7_meets 56 = .ok (.isub, 1) := by decide +kernel
theorem dX7_meets_57 : decode cX7_meets 57 = .ok (.ireturn, 1) := by decide +kernel
theorem dX7_meets_58 : decode cX7_meets 58 = .ok (.iconst 2, 1) := by decide +kernel
theorem dX7_meets_59 : decode cX7_meets 59 = .ok (.iload_n 2, 1) := by decide +kernel
theorem dX7_meets_60 : decode cX7_meets 60 = .ok (.imul, 1) := by decide +kernel
theorem dX7_meets_61 : decode cX7_meets 61 = .ok (.iload_n 3, 1) := by decide +kernel
theorem dX7_meets_62 : decode cX7_meets 62 = .ok (.isub, 1) := by decide +kernel
theorem dX7_meets_63 : decode cX7_meets 63 = .ok (.iload_n 1, 1) := by decide +kernel
theorem dX7_meets_64 : decode cX7_meets 64 = .ok (.iconst 1, 1) := by decide +kernel
theorem dX7_meets_65 : decode cX7_meets 65 = .ok (.isub, 1) := by decide +kernel
theorem dX7_meets_66 : decode cX7_meets 66 = .ok (.invokestatic 219, 3) := by decide +kernel
theorem dX7_meets_69 : decode cX7_meets 69 = .ok (.ireturn, 1) := by decide +kernel
theorem dX7_many_0 : decode cX7_many 0 = .ok (.iload_n 1, 1) := by decide +kernel
theorem dX7_many_1 : decode cX7_many 1 = .ok (.tableswitch 51 0 2 #[27, 35, 43], 27) := by decide +kernel
theorem dX7_many_28 : decode cX7_many 28 = .ok (.aload_n 0, 1) := by decide +kernel
theorem dX7_many_29 : decode cX7_many 29 = .ok (.getfield 12, 3) := by decide +kernel
theorem dX7_many_32 : decode cX7_many 32 = .ok (.getfield 23, 3) := by decide +kernel
theorem dX7_many_35 : decode cX7_many 35 = .ok (.ireturn, 1) := by decide +kernel
theorem dX7_many_36 : decode cX7_many 36 = .ok (.aload_n 0, 1) := by decide +kernel
theorem dX7_many_37 : decode cX7_many 37 = .ok (.getfield 12, 3) := by decide +kernel
theorem dX7_many_40 : decode cX7_many 40 = .ok (.getfield 35, 3) := by decide +kernel
theorem dX7_many_43 : decode cX7_many 43 = .ok (.ireturn, 1) := by decide +kernel
theorem dX7_many_44 : decode cX7_many 44 = .ok (.aload_n 0, 1) := by decide +kernel
theorem dX7_many_45 : decode cX7_many 45 = .ok (.getfield 19, 3) := by decide +kernel
theorem dX7_many_48 : decode cX7_many 48 = .ok (.getfield 204, 3) := by decide +kernel
theorem dX7_many_51 : decode cX7_many 51 = .ok (.ireturn, 1) := by decide +kernel
theorem dX7_many_52 : decode cX7_many 52 = .ok (.bipush (-2), 2) := by decide +kernel
theorem dX7_many_54 : decode cX7_many 54 = .ok (.ireturn, 1) := by decide +kernel
theorem dX7_hasChain_0 : decode cX7_hasChain 0 = .ok (.aload_n 0, 1) := by decide +kernel
theorem dX7_hasChain_1 : decode cX7_hasChain 1 = .ok (.getfield 12, 3) := by decide +kernel
theorem dX7_hasChain_4 : decode cX7_hasChain 4 = .ok (.iload_n 1, 1) := by decide +kernel
theorem dX7_hasChain_5 : decode cX7_hasChain 5 = .ok (.invokevirtual 45, 3) := by decide +kernel
theorem dX7_hasChain_8 : decode cX7_hasChain 8 = .ok (.ifCond .eq 28, 3) := by decide +kernel
theorem dX7_hasChain_11 : decode cX7_hasChain 11 = .ok (.iload_n 2, 1) := by decide +kernel
theorem dX7_hasChain_12 : decode cX7_hasChain 12 = .ok (.ifCond .lt 24, 3) := by decide +kernel
theorem dX7_hasChain_15 : decode cX7_hasChain 15 = .ok (.iload_n 2, 1) := by decide +kernel
theorem dX7_hasChain_16 : decode cX7_hasChain 16 = .ok (.bipush 16, 2) := by decide +kernel
theorem dX7_hasChain_18 : decode cX7_hasChain 18 = .ok (.if_icmp .ge 18, 3) := by decide +kernel
theorem dX7_hasChain_21 : decode cX7_hasChain 21 = .ok (.iload_n 3, 1) := by decide +kernel
theorem dX7_hasChain_22 : decode cX7_hasChain 22 = .ok (.ifCond .lt 14, 3) := by decide +kernel
theorem dX7_hasChain_25 : decode cX7_hasChain 25 = .ok (.iload_n 3, 1) := by decide +kernel
theorem dX7_hasChain_26 : decode cX7_hasChain 26 = .ok (.bipush 16, 2) := by decide +kernel
theorem dX7_hasChain_28 : decode cX7_hasChain 28 = .ok (.if_icmp .ge 8, 3) := by decide +kernel
theorem dX7_hasChain_31 : decode cX7_hasChain 31 = .ok (.iload_n 2, 1) := by decide +kernel
theorem dX7_hasChain_32 : decode cX7_hasChain 32 = .ok (.iload_n 3, 1) := by decide +kernel
theorem dX7_hasChain_33 : decode cX7_hasChain 33 = .ok (.if_icmp .ne 5, 3) := by decide +kernel
theorem dX7_hasChain_36 : decode cX7_hasChain 36 = .ok (.iconst 0, 1) := by decide +kernel
theorem dX7_hasChain_37 : decode cX7_hasChain 37 = .ok (.ireturn, 1) := by decide +kernel
theorem dX7_hasChain_38 : decode cX7_hasChain 38 = .ok (.aload_n 0, 1) := by decide +kernel
theorem dX7_hasChain_39 : decode cX7_hasChain 39 = .ok (.getfield 12, 3) := by decide +kernel
theorem dX7_hasChain_42 : decode cX7_hasChain 42 = .ok (.getfield 48, 3) := by decide +kernel
theorem dX7_hasChain_45 : decode cX7_hasChain 45 = .ok (.iload_n 1, 1) := by decide +kernel
theorem dX7_hasChain_46 : decode cX7_hasChain 46 = .ok (.iaload, 1) := by decide +kernel
theorem dX7_hasChain_47 : decode cX7_hasChain 47 = .ok (.iload_n 2, 1) := by decide +kernel
theorem dX7_hasChain_48 : decode cX7_hasChain 48 = .ok (.if_icmp .eq 16, 3) := by decide +kernel
theorem dX7_hasChain_51 : decode cX7_hasChain 51 = .ok (.aload_n 0, 1) := by decide +kernel
theorem dX7_hasChain_52 : decode cX7_hasChain 52 = .ok (.getfield 12, 3) := by decide +kernel
theorem dX7_hasChain_55 : decode cX7_hasChain 55 = .ok (.getfield 48, 3) := by decide +kernel
theorem dX7_hasChain_58 : decode cX7_hasChain 58 = .ok (.iload_n 1, 1) := by decide +kernel
theorem dX7_hasChain_59 : decode cX7_hasChain 59 = .ok (.iaload, 1) := by decide +kernel
theorem dX7_hasChain_60 : decode cX7_hasChain 60 = .ok (.iload_n 3, 1) := by decide +kernel
theorem dX7_hasChain_61 : decode cX7_hasChain 61 = .ok (.if_icmp .ne 7, 3) := by decide +kernel
theorem dX7_hasChain_64 : decode cX7_hasChain 64 = .ok (.iconst 1, 1) := by decide +kernel
theorem dX7_hasChain_65 : decode cX7_hasChain 65 = .ok (.goto 4, 3) := by decide +kernel
theorem dX7_hasChain_68 : decode cX7_hasChain 68 = .ok (.iconst 0, 1) := by decide +kernel
theorem dX7_hasChain_69 : decode cX7_hasChain 69 = .ok (.ireturn, 1) := by decide +kernel
theorem dX7_heapsHere_0 : decode cX7_heapsHere 0 = .ok (.aload_n 0, 1) := by decide +kernel
theorem dX7_heapsHere_1 : decode cX7_heapsHere 1 = .ok (.getfield 222, 3) := by decide +kernel
theorem dX7_heapsHere_4 : decode cX7_heapsHere 4 = .ok (.ifnonnull 18, 3) := by decide +kernel
theorem dX7_heapsHere_7 : decode cX7_heapsHere 7 = .ok (.aload_n 0, 1) := by decide +kernel
theorem dX7_heapsHere_8 : decode cX7_heapsHere 8 = .ok (.new 134, 3) := by decide +kernel
theorem dX7_heapsHere_11 : decode cX7_heapsHere 11 = .ok (.dup, 1) := by decide +kernel
theorem dX7_heapsHere_12 : decode cX7_heapsHere 12 = .ok (.aload_n 0, 1) := by decide +kernel
theorem dX7_heapsHere_13 : decode cX7_heapsHere 13 = .ok (.getfield 12, 3) := by decide +kernel
theorem dX7_heapsHere_16 : decode cX7_heapsHere 16 = .ok (.invokespecial 226, 3) := by decide +kernel
theorem dX7_heapsHere_19 : decode cX7_heapsHere 19 = .ok (.putfield 222, 3) := by decide +kernel
theorem dX7_heapsHere_22 : decode cX7_heapsHere 22 = .ok (.aload_n 0, 1) := by decide +kernel
theorem dX7_heapsHere_23 : decode cX7_heapsHere 23 = .ok (.getfield 222, 3) := by decide +kernel
theorem dX7_heapsHere_26 : decode cX7_heapsHere 26 = .ok (.areturn, 1) := by decide +kernel
theorem dX7_pickerHere_0 : decode cX7_pickerHere 0 = .ok (.aload_n 0, 1) := by decide +kernel
theorem dX7_pickerHere_1 : decode cX7_pickerHere 1 = .ok (.getfield 227, 3) := by decide +kernel
theorem dX7_pickerHere_4 : decode cX7_pickerHere 4 = .ok (.ifnonnull 18, 3) := by decide +kernel
theorem dX7_pickerHere_7 : decode cX7_pickerHere 7 = .ok (.aload_n 0, 1) := by decide +kernel
theorem dX7_pickerHere_8 : decode cX7_pickerHere 8 = .ok (.new 148, 3) := by decide +kernel
theorem dX7_pickerHere_11 : decode cX7_pickerHere 11 = .ok (.dup, 1) := by decide +kernel
theorem dX7_pickerHere_12 : decode cX7_pickerHere 12 = .ok (.aload_n 0, 1) := by decide +kernel
theorem dX7_pickerHere_13 : decode cX7_pickerHere 13 = .ok (.getfield 12, 3) := by decide +kernel
theorem dX7_pickerHere_16 : decode cX7_pickerHere 16 = .ok (.invokespecial 231, 3) := by decide +kernel
theorem dX7_pickerHere_19 : decode cX7_pickerHere 19 = .ok (.putfield 227, 3) := by decide +kernel
theorem dX7_pickerHere_22 : decode cX7_pickerHere 22 = .ok (.aload_n 0, 1) := by decide +kernel
theorem dX7_pickerHere_23 : decode cX7_pickerHere 23 = .ok (.getfield 227, 3) := by decide +kernel
theorem dX7_pickerHere_26 : decode cX7_pickerHere 26 = .ok (.areturn, 1) := by decide +kernel
theorem dX7_asBit_0 : decode cX7_asBit 0 = .ok (.iload_n 0, 1) := by decide +kernel
theorem dX7_asBit_1 : decode cX7_asBit 1 = .ok (.ifCond .eq 7, 3) := by decide +kernel
theorem dX7_asBit_4 : decode cX7_asBit 4 = .ok (.iconst 1, 1) := by decide +kernel
theorem dX7_asBit_5 : decode cX7_asBit 5 = .ok (.goto 4, 3) := by decide +kernel
theorem dX7_asBit_8 : decode cX7_asBit 8 = .ok (.iconst 0, 1) := by decide +kernel
theorem dX7_asBit_9 : decode cX7_asBit 9 = .ok (.ireturn, 1) := by decide +kernel
theorem dX7_isIn_0 : decode cX7_isIn 0 = .ok (.iload_n 0, 1) := by decide +kernel
theorem dX7_isIn_1 : decode cX7_isIn 1 = .ok (.iload_n 1, 1) := by decide +kernel
theorem dX7_isIn_2 : decode cX7_isIn 2 = .ok (.ishr, 1) := by decide +kernel
theorem dX7_isIn_3 : decode cX7_isIn 3 = .ok (.iconst 1, 1) := by decide +kernel
theorem dX7_isIn_4 : decode cX7_isIn 4 = .ok (.iand, 1) := by decide +kernel
theorem dX7_isIn_5 : decode cX7_isIn 5 = .ok (.ifCond .eq 7, 3) := by decide +kernel
theorem dX7_isIn_8 : decode cX7_isIn 8 = .ok (.iconst 1, 1) := by decide +kernel
theorem dX7_isIn_9 : decode cX7_isIn 9 = .ok (.goto 4, 3) := by decide +kernel
theorem dX7_isIn_12 : decode cX7_isIn 12 = .ok (.iconst 0, 1) := by decide +kernel
theorem dX7_isIn_13 : decode cX7_isIn 13 = .ok (.ireturn, 1) := by decide +kernel
theorem dX7_placeOf_0 : decode cX7_placeOf 0 = .ok (.iload_n 0, 1) := by decide +kernel
theorem dX7_placeOf_1 : decode cX7_placeOf 1 = .ok (.iconst 1, 1) := by decide +kernel
theorem dX7_placeOf_2 : decode cX7_placeOf 2 = .ok (.isub, 1) := by decide +kernel
theorem dX7_placeOf_3 : decode cX7_placeOf 3 = .ok (.invokestatic 70, 3) := by decide +kernel
theorem dX7_placeOf_6 : decode cX7_placeOf 6 = .ok (.ireturn, 1) := by decide +kernel
theorem dX7_leastOutside_0 : decode cX7_leastOutside 0 = .ok (.iconst 0, 1) := by decide +kernel
theorem dX7_leastOutside_1 : decode cX7_leastOutside 1 = .ok (.istore_n 1, 1) := by decide +kernel
theorem dX7_leastOutside_2 : decode cX7_leastOutside 2 = .ok (.iload_n 1, 1) := by decide +kernel
theorem dX7_leastOutside_3 : decode cX7_leastOutside 3 = .ok (.bipush 16, 2) := by decide +kernel
theorem dX7_leastOutside_5 : decode cX7_leastOutside 5 = .ok (.if_icmp .ge 19, 3) := by decide +kernel
theorem dX7_leastOutside_8 : decode cX7_leastOutside 8 = .ok (.iload_n 0, 1) := by decide +kernel
theorem dX7_leastOutside_9 : decode cX7_leastOutside 9 = .ok (.iload_n 1, 1) := by decide +kernel
theorem dX7_leastOutside_10 : decode cX7_leastOutside 10 = .ok (.invokestatic 232, 3) := by decide +kernel
theorem dX7_leastOutside_13 : decode cX7_leastOutside 13 = .ok (.ifCond .ne 5, 3) := by decide +kernel
theorem dX7_leastOutside_16 : decode cX7_leastOutside 16 = .ok (.iload_n 1, 1) := by decide +kernel
theorem dX7_leastOutside_17 : decode cX7_leastOutside 17 = .ok (.ireturn, 1) := by decide +kernel
theorem dX7_leastOutside_18 : decode cX7_leastOutside 18 = .ok (.iinc 1 1, 3) := by decide +kernel
theorem dX7_leastOutside_21 : decode cX7_leastOutside 21 = .ok (.goto (-19), 3) := by decide +kernel
theorem dX7_leastOutside_24 : decode cX7_leastOutside 24 = .ok (.bipush 16, 2) := by decide +kernel
theorem dX7_leastOutside_26 : decode cX7_leastOutside 26 = .ok (.ireturn, 1) := by decide +kernel
theorem dX7_needFor_0 : decode cX7_needFor 0 = .ok (.iload_n 1, 1) := by decide +kernel
theorem dX7_needFor_1 : decode cX7_needFor 1 = .ok (.iconst 2, 1) := by decide +kernel
theorem dX7_needFor_2 : decode cX7_needFor 2 = .ok (.idiv, 1) := by decide +kernel
theorem dX7_needFor_3 : decode cX7_needFor 3 = .ok (.istore_n 2, 1) := by decide +kernel
theorem dX7_needFor_4 : decode cX7_needFor 4 = .ok (.iload_n 2, 1) := by decide +kernel
theorem dX7_needFor_5 : decode cX7_needFor 5 = .ok (.ifCond .ne 5, 3) := by decide +kernel
