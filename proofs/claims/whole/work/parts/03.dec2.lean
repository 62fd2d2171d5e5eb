theorem dX3_roadsInside_19 : decode cX3_roadsInside 19 = .ok (.invokestatic 38, 3) := by decide +kernel
theorem dX3_roadsInside_22 : decode cX3_roadsInside 22 = .ok (.ifCond .eq 19, 3) := by decide +kernel
theorem dX3_roadsInside_25 : decode cX3_roadsInside 25 = .ok (.iload_n 1, 1) := by decide +kernel
theorem dX3_roadsInside_26 : decode cX3_roadsInside 26 = .ok (.aload_n 0, 1) := by decide +kernel
theorem dX3_roadsInside_27 : decode cX3_roadsInside 27 = .ok (.getfield 15, 3) := by decide +kernel
theorem dX3_roadsInside_30 : decode cX3_roadsInside 30 = .ok (.iload_n 3, 1) := by decide +kernel
theorem dX3_roadsInside_31 : decode cX3_roadsInside 31 = .ok (.iaload, 1) := by decide +kernel
theorem dX3_roadsInside_32 : decode cX3_roadsInside 32 = .ok (.invokestatic 38, 3) := by decide +kernel
theorem dX3_roadsInside_35 : decode cX3_roadsInside 35 = .ok (.ifCond .eq 6, 3) := by decide +kernel
theorem dX3_roadsInside_38 : decode cX3_roadsInside 38 = .ok (.iinc 2 1, 3) := by decide +kernel
theorem dX3_roadsInside_41 : decode cX3_roadsInside 41 = .ok (.iinc 3 1, 3) := by decide +kernel
theorem dX3_roadsInside_44 : decode cX3_roadsInside 44 = .ok (.goto (-40), 3) := by decide +kernel
theorem dX3_roadsInside_47 : decode cX3_roadsInside 47 = .ok (.iload_n 2, 1) := by decide +kernel
theorem dX3_roadsInside_48 : decode cX3_roadsInside 48 = .ok (.ireturn, 1) := by decide +kernel
theorem dX3_endsOf_0 : decode cX3_endsOf 0 = .ok (.iconst 0, 1) := by decide +kernel
theorem dX3_endsOf_1 : decode cX3_endsOf 1 = .ok (.istore_n 2, 1) := by decide +kernel
theorem dX3_endsOf_2 : decode cX3_endsOf 2 = .ok (.iconst 0, 1) := by decide +kernel
theorem dX3_endsOf_3 : decode cX3_endsOf 3 = .ok (.istore_n 3, 1) := by decide +kernel
theorem dX3_endsOf_4 : decode cX3_endsOf 4 = .ok (.iload_n 3, 1) := by decide +kernel
theorem dX3_endsOf_5 : decode cX3_endsOf 5 = .ok (.aload_n 0, 1) := by decide +kernel
theorem dX3_endsOf_6 : decode cX3_endsOf 6 = .ok (.getfield 34, 3) := by decide +kernel
theorem dX3_endsOf_9 : decode cX3_endsOf 9 = .ok (.if_icmp .ge 37, 3) := by decide +kernel
theorem dX3_endsOf_12 : decode cX3_endsOf 12 = .ok (.iload_n 1, 1) := by decide +kernel
theorem dX3_endsOf_13 : decode cX3_endsOf 13 = .ok (.iload_n 3, 1) := by decide +kernel
theorem dX3_endsOf_14 : decode cX3_endsOf 14 = .ok (.invokestatic 38, 3) := by decide +kernel
theorem dX3_endsOf_17 : decode cX3_endsOf 17 = .ok (.ifCond .eq 23, 3) := by decide +kernel
theorem dX3_endsOf_20 : decode cX3_endsOf 20 = .ok (.iload_n 2, 1) := by decide +kernel
theorem dX3_endsOf_21 : decode cX3_endsOf 21 = .ok (.iconst 1, 1) := by decide +kernel
theorem dX3_endsOf_22 : decode cX3_endsOf 22 = .ok (.aload_n 0, 1) := by decide +kernel
theorem dX3_endsOf_23 : decode cX3_endsOf 23 = .ok (.getfield 9, 3) := by decide +kernel
theorem dX3_endsOf_26 : decode cX3_endsOf 26 = .ok (.iload_n 3, 1) := by decide +kernel
theorem dX3_endsOf_27 : decode cX3_endsOf 27 = .ok (.iaload, 1) := by decide +kernel
theorem dX3_endsOf_28 : decode cX3_endsOf 28 = .ok (.ishl, 1) := by decide +kernel
theorem dX3_endsOf_29 : decode cX3_endsOf 29 = .ok (.iconst 1, 1) := by decide +kernel
theorem dX3_endsOf_30 : decode cX3_endsOf 30 = .ok (.aload_n 0, 1) := by decide +kernel
theorem dX3_endsOf_31 : decode cX3_endsOf 31 = .ok (.getfield 15, 3) := by decide +kernel
theorem dX3_endsOf_34 : decode cX3_endsOf 34 = .ok (.iload_n 3, 1) := by decide +kernel
theorem dX3_endsOf_35 : decode cX3_endsOf 35 = .ok (.iaload, 1) := by decide +kernel
theorem dX3_endsOf_36 : decode cX3_endsOf 36 = .ok (.ishl, 1) := by decide +kernel
theorem dX3_endsOf_37 : decode cX3_endsOf 37 = .ok (.ior, 1) := by decide +kernel
theorem dX3_endsOf_38 : decode cX3_endsOf 38 = .ok (.ior, 1) := by decide +kernel
theorem dX3_endsOf_39 : decode cX3_endsOf 39 = .ok (.istore_n 2, 1) := by decide +kernel
theorem dX3_endsOf_40 : decode cX3_endsOf 40 = .ok (.iinc 3 1, 3) := by decide +kernel
theorem dX3_endsOf_43 : decode cX3_endsOf 43 = .ok (.goto (-39), 3) := by decide +kernel
theorem dX3_endsOf_46 : decode cX3_endsOf 46 = .ok (.iload_n 2, 1) := by decide +kernel
theorem dX3_endsOf_47 : decode cX3_endsOf 47 = .ok (.ireturn, 1) := by decide +kernel
theorem dX3_chainOf_0 : decode cX3_chainOf 0 = .ok (.aload_n 0, 1) := by decide +kernel
theorem dX3_chainOf_1 : decode cX3_chainOf 1 = .ok (.iload_n 2, 1) := by decide +kernel
theorem dX3_chainOf_2 : decode cX3_chainOf 2 = .ok (.invokevirtual 64, 3) := by decide +kernel
theorem dX3_chainOf_5 : decode cX3_chainOf 5 = .ok (.aload_n 0, 1) := by decide +kernel
theorem dX3_chainOf_6 : decode cX3_chainOf 6 = .ok (.iload_n 3, 1) := by decide +kernel
theorem dX3_chainOf_7 : decode cX3_chainOf 7 = .ok (.invokevirtual 64, 3) := by decide +kernel
theorem dX3_chainOf_10 : decode cX3_chainOf 10 = .ok (.ior, 1) := by decide +kernel
theorem dX3_chainOf_11 : decode cX3_chainOf 11 = .ok (.istore 4, 2) := by decide +kernel
theorem dX3_chainOf_13 : decode cX3_chainOf 13 = .ok (.iconst 1, 1) := by decide +kernel
theorem dX3_chainOf_14 : decode cX3_chainOf 14 = .ok (.iload_n 1, 1) := by decide +kernel
theorem dX3_chainOf_15 : decode cX3_chainOf 15 = .ok (.ishl, 1) := by decide +kernel
theorem dX3_chainOf_16 : decode cX3_chainOf 16 = .ok (.istore 5, 2) := by decide +kernel
theorem dX3_chainOf_18 : decode cX3_chainOf 18 = .ok (.iconst 0, 1) := by decide +kernel
theorem dX3_chainOf_19 : decode cX3_chainOf 19 = .ok (.istore 6, 2) := by decide +kernel
theorem dX3_chainOf_21 : decode cX3_chainOf 21 = .ok (.iload 6, 2) := by decide +kernel
theorem dX3_chainOf_23 : decode cX3_chainOf 23 = .ok (.bipush 24, 2) := by decide +kernel
theorem dX3_chainOf_25 : decode cX3_chainOf 25 = .ok (.if_icmp .ge 37, 3) := by decide +kernel
theorem dX3_chainOf_28 : decode cX3_chainOf 28 = .ok (.iload 5, 2) := by decide +kernel
theorem dX3_chainOf_30 : decode cX3_chainOf 30 = .ok (.aload_n 0, 1) := by decide +kernel
theorem dX3_chainOf_31 : decode cX3_chainOf 31 = .ok (.iload 5, 2) := by decide +kernel
theorem dX3_chainOf_33 : decode cX3_chainOf 33 = .ok (.invokevirtual 67, 3) := by decide +kernel
theorem dX3_chainOf_36 : decode cX3_chainOf 36 = .ok (.iload 4, 2) := by decide +kernel
theorem dX3_chainOf_38 : decode cX3_chainOf 38 = .ok (.iand, 1) := by decide +kernel
theorem dX3_chainOf_39 : decode cX3_chainOf 39 = .ok (.ior, 1) := by decide +kernel
theorem dX3_chainOf_40 : decode cX3_chainOf 40 = .ok (.istore 7, 2) := by decide +kernel
theorem dX3_chainOf_42 : decode cX3_chainOf 42 = .ok (.iload 7, 2) := by decide +kernel
theorem dX3_chainOf_44 : decode cX3_chainOf 44 = .ok (.iload 5, 2) := by decide +kernel
theorem dX3_chainOf_46 : decode cX3_chainOf 46 = .ok (.if_icmp .ne 6, 3) := by decide +kernel
theorem dX3_chainOf_49 : decode cX3_chainOf 49 = .ok (.goto 13, 3) := by decide +kernel
theorem dX3_chainOf_52 : decode cX3_chainOf 52 = .ok (.iload 7, 2) := by decide +kernel
theorem dX3_chainOf_54 : decode cX3_chainOf 54 = .ok (.istore 5, 2) := by decide +kernel
theorem dX3_chainOf_56 : decode cX3_chainOf 56 = .ok (.iinc 6 1, 3) := by decide +kernel
theorem dX3_chainOf_59 : decode cX3_chainOf 59 = .ok (.goto (-38), 3) := by decide +kernel
theorem dX3_chainOf_62 : decode cX3_chainOf 62 = .ok (.iload 5, 2) := by decide +kernel
theorem dX3_chainOf_64 : decode cX3_chainOf 64 = .ok (.ireturn, 1) := by decide +kernel
theorem dX3_besideAny_0 : decode cX3_besideAny 0 = .ok (.iconst 0, 1) := by decide +kernel
theorem dX3_besideAny_1 : decode cX3_besideAny 1 = .ok (.istore_n 2, 1) := by decide +kernel
theorem dX3_besideAny_2 : decode cX3_besideAny 2 = .ok (.iconst 0, 1) := by decide +kernel
theorem dX3_besideAny_3 : decode cX3_besideAny 3 = .ok (.istore_n 3, 1) := by decide +kernel
theorem dX3_besideAny_4 : decode cX3_besideAny 4 = .ok (.iload_n 3, 1) := by decide +kernel
theorem dX3_besideAny_5 : decode cX3_besideAny 5 = .ok (.aload_n 0, 1) := by decide +kernel
theorem dX3_besideAny_6 : decode cX3_besideAny 6 = .ok (.getfield 34, 3) := by decide +kernel
theorem dX3_besideAny_9 : decode cX3_besideAny 9 = .ok (.if_icmp .ge 26, 3) := by decide +kernel
theorem dX3_besideAny_12 : decode cX3_besideAny 12 = .ok (.iload_n 1, 1) := by decide +kernel
theorem dX3_besideAny_13 : decode cX3_besideAny 13 = .ok (.iload_n 3, 1) := by decide +kernel
theorem dX3_besideAny_14 : decode cX3_besideAny 14 = .ok (.invokestatic 38, 3) := by decide +kernel
theorem dX3_besideAny_17 : decode cX3_besideAny 17 = .ok (.ifCond .eq 12, 3) := by decide +kernel
theorem dX3_besideAny_20 : decode cX3_besideAny 20 = .ok (.iload_n 2, 1) := by decide +kernel
theorem dX3_besideAny_21 : decode cX3_besideAny 21 = .ok (.aload_n 0, 1) := by decide +kernel
theorem dX3_besideAny_22 : decode cX3_besideAny 22 = .ok (.getfield 27, 3) := by decide +kernel
theorem dX3_besideAny_25 : decode cX3_besideAny 25 = .ok (.iload_n 3, 1) := by decide +kernel
theorem dX3_besideAny_26 : decode cX3_besideAny 26 = .ok (.iaload, 1) := by decide +kernel
theorem dX3_besideAny_27 : decode cX3_besideAny 27 = .ok (.ior, 1) := by decide +kernel
theorem dX3_besideAny_28 : decode cX3_besideAny 28 = .ok (.istore_n 2, 1) := by decide +kernel
theorem dX3_besideAny_29 : decode cX3_besideAny 29 = .ok (.iinc 3 1, 3) := by decide +kernel
theorem dX3_besideAny_32 : decode cX3_besideAny 32 = .ok (.goto (-28), 3) := by decide +kernel
theorem dX3_besideAny_35 : decode cX3_besideAny 35 = .ok (.iload_n 2, 1) := by decide +kernel
theorem dX3_besideAny_36 : decode cX3_besideAny 36 = .ok (.ireturn, 1) := by decide +kernel
theorem dX3_exchange_0 : decode cX3_exchange 0 = .ok (.iconst 0, 1) := by decide +kernel
theorem dX3_exchange_1 : decode cX3_exchange 1 = .ok (.istore 4, 2) := by decide +kernel
theorem dX3_exchange_3 : decode cX3_exchange 3 = .ok (.iload 4, 2) := by decide +kernel
theorem dX3_exchange_5 : decode cX3_exchange 5 = .ok (.aload_n 0, 1) := by decide +kernel
theorem dX3_exchange_6 : decode cX3_exchange 6 = .ok (.getfield 34, 3) := by decide +kernel
theorem dX3_exchange_9 : decode cX3_exchange 9 = .ok (.if_icmp .ge 41, 3) := by decide +kernel
theorem dX3_exchange_12 : decode cX3_exchange 12 = .ok (.iload_n 1, 1) := by decide +kernel
theorem dX3_exchange_13 : decode cX3_exchange 13 = .ok (.iload 4, 2) := by decide +kernel
theorem dX3_exchange_15 : decode cX3_exchange 15 = .ok (.invokestatic 38, 3) := by decide +kernel
theorem dX3_exchange_18 : decode cX3_exchange 18 = .ok (.ifCond .eq 26, 3) := by decide +kernel
theorem dX3_exchange_21 : decode cX3_exchange 21 = .ok (.aload_n 0, 1) := by decide +kernel
theorem dX3_exchange_22 : decode cX3_exchange 22 = .ok (.getfield 18, 3) := by decide +kernel
theorem dX3_exchange_25 : decode cX3_exchange 25 = .ok (.iload 4, 2) := by decide +kernel
theorem dX3_exchange_27 : decode cX3_exchange 27 = .ok (.aload_n 0, 1) := by decide +kernel
theorem dX3_exchange_28 : decode cX3_exchange 28 = .ok (.getfield 18, 3) := by decide +kernel
theorem dX3_exchange_31 : decode cX3_exchange 31 = .ok (.iload 4, 2) := by decide +kernel
theorem dX3_exchange_33 : decode cX3_exchange 33 = .ok (.iaload, 1) := by decide +kernel
theorem dX3_exchange_34 : decode cX3_exchange 34 = .ok (.iload_n 2, 1) := by decide +kernel
theorem dX3_exchange_35 : decode cX3_exchange 35 = .ok (.if_icmp .ne 7, 3) := by decide +kernel
theorem dX3_exchange_38 : decode cX3_exchange 38 = .ok (.iload_n 3, 1) := by decide +kernel
theorem dX3_exchange_39 : decode cX3_exchange 39 = .ok (.goto 4, 3) := by decide +kernel
theorem dX3_exchange_42 : decode cX3_exchange 42 = .ok (.iload_n 2, 1) := by decide +kernel
theorem dX3_exchange_43 : decode cX3_exchange 43 = .ok (.iastore, 1) := by decide +kernel
theorem dX3_exchange_44 : decode cX3_exchange 44 = .ok (.iinc 4 1, 3) := by decide +kernel
theorem dX3_exchange_47 : decode cX3_exchange 47 = .ok (.goto (-44), 3) := by decide +kernel
theorem dX3_exchange_50 : decode cX3_exchange 50 = .ok (.return_, 1) := by decide +kernel
theorem dX3_isInTwoHeaps_0 : decode cX3_isInTwoHeaps 0 = .ok (.iconst 0, 1) := by decide +kernel
theorem dX3_isInTwoHeaps_1 : decode cX3_isInTwoHeaps 1 = .ok (.istore_n 1, 1) := by decide +kernel
theorem dX3_isInTwoHeaps_2 : decode cX3_isInTwoHeaps 2 = .ok (.iconst 0, 1) := by decide +kernel
theorem dX3_isInTwoHeaps_3 : decode cX3_isInTwoHeaps 3 = .ok (.istore_n 2, 1) := by decide +kernel
theorem dX3_isInTwoHeaps_4 : decode cX3_isInTwoHeaps 4 = .ok (.iconst 0, 1) := by decide +kernel
theorem dX3_isInTwoHeaps_5 : decode cX3_isInTwoHeaps 5 = .ok (.istore_n 3, 1) := by decide +kernel
theorem dX3_isInTwoHeaps_6 : decode cX3_isInTwoHeaps 6 = .ok (.iload_n 3, 1) := by decide +kernel
theorem dX3_isInTwoHeaps_7 : decode cX3_isInTwoHeaps 7 = .ok (.aload_n 0, 1) := by decide +kernel
theorem dX3_isInTwoHeaps_8 : decode cX3_isInTwoHeaps 8 = .ok (.getfield 30, 3) := by decide +kernel
theorem dX3_isInTwoHeaps_11 : decode cX3_isInTwoHeaps 11 = .ok (.if_icmp .ge 73, 3) := by decide +kernel
theorem dX3_isInTwoHeaps_14 : decode cX3_isInTwoHeaps 14 = .ok (.iload_n 1, 1) := by decide +kernel
theorem dX3_isInTwoHeaps_15 : decode cX3_isInTwoHeaps 15 = .ok (.iload_n 2, 1) := by decide +kernel
theorem dX3_isInTwoHeaps_16 : decode cX3_isInTwoHeaps 16 = .ok (.ior, 1) := by decide +kernel
theorem dX3_isInTwoHeaps_17 : decode cX3_isInTwoHeaps 17 = .ok (.iload_n 3, 1) := by decide +kernel
theorem dX3_isInTwoHeaps_18 : decode cX3_isInTwoHeaps 18 = .ok (.invokestatic 38, 3) := by decide +kernel
theorem dX3_isInTwoHeaps_21 : decode cX3_isInTwoHeaps 21 = .ok (.ifCond .ne 9, 3) := by decide +kernel
theorem dX3_isInTwoHeaps_24 : decode cX3_isInTwoHeaps 24 = .ok (.iload_n 1, 1) := by decide +kernel
theorem dX3_isInTwoHeaps_25 : decode cX3_isInTwoHeaps 25 = .ok (.iconst 1, 1) := by decide +kernel
theorem dX3_isInTwoHeaps_26 : decode cX3_isInTwoHeaps 26 = .ok (.iload_n 3, 1) := by decide +kernel
theorem dX3_isInTwoHeaps_27 : decode cX3_isInTwoHeaps 27 = .ok (.ishl, 1) := by decide +kernel
theorem dX3_isInTwoHeaps_28 : decode cX3_isInTwoHeaps 28 = .ok (.ior, 1) := by decide +kernel
theorem dX3_isInTwoHeaps_29 : decode cX3_isInTwoHeaps 29 = .ok (.istore_n 1, 1) := by decide +kernel
theorem dX3_isInTwoHeaps_30 : decode cX3_isInTwoHeaps 30 = .ok (.iconst 0, 1) := by decide +kernel
theorem dX3_isInTwoHeaps_31 : decode cX3_isInTwoHeaps 31 = .ok (.istore 4, 2) := by decide +kernel
theorem dX3_isInTwoHeaps_33 : decode cX3_isInTwoHeaps 33 = .ok (.iload 4, 2) := by decide +kernel
theorem dX3_isInTwoHeaps_35 : decode cX3_isInTwoHeaps 35 = .ok (.bipush 12, 2) := by decide +kernel
theorem dX3_isInTwoHeaps_37 : decode cX3_isInTwoHeaps 37 = .ok (.if_icmp .ge 41, 3) := by decide +kernel
theorem dX3_isInTwoHeaps_40 : decode cX3_isInTwoHeaps 40 = .ok (.iload_n 1, 1) := by decide +kernel
theorem dX3_isInTwoHeaps_41 : decode cX3_isInTwoHeaps 41 = .ok (.iload_n 2, 1) := by decide +kernel
theorem dX3_isInTwoHeaps_42 : decode cX3_isInTwoHeaps 42 = .ok (.ior, 1) := by decide +kernel
theorem dX3_isInTwoHeaps_43 : decode cX3_isInTwoHeaps 43 = .ok (.istore 5, 2) := by decide +kernel
theorem dX3_isInTwoHeaps_45 : decode cX3_isInTwoHeaps 45 = .ok (.iload_n 2, 1) := by decide +kernel
theorem dX3_isInTwoHeaps_46 : decode cX3_isInTwoHeaps 46 = .ok (.aload_n 0, 1) := by decide +kernel
theorem dX3_isInTwoHeaps_47 : decode cX3_isInTwoHeaps 47 = .ok (.iload_n 1, 1) := by decide +kernel
theorem dX3_isInTwoHeaps_48 : decode cX3_isInTwoHeaps 48 = .ok (.invokevirtual 70, 3) := by decide +kernel
theorem dX3_isInTwoHeaps_51 : decode cX3_isInTwoHeaps 51 = .ok (.ior, 1) := by decide +kernel
theorem dX3_isInTwoHeaps_52 : decode cX3_isInTwoHeaps 52 = .ok (.istore_n 2, 1) := by decide +kernel
theorem dX3_isInTwoHeaps_53 : decode cX3_isInTwoHeaps 53 = .ok (.iload_n 1, 1) := by decide +kernel
theorem dX3_isInTwoHeaps_54 : decode cX3_isInTwoHeaps 54 = .ok (.aload_n 0, 1) := by decide +kernel
theorem dX3_isInTwoHeaps_55 : decode cX3_isInTwoHeaps 55 = .ok (.iload_n 2, 1) := by decide +kernel
theorem dX3_isInTwoHeaps_56 : decode cX3_isInTwoHeaps 56 = .ok (.invokevirtual 70, 3) := by decide +kernel
theorem dX3_isInTwoHeaps_59 : decode cX3_isInTwoHeaps 59 = .ok (.ior, 1) := by decide +kernel
theorem dX3_isInTwoHeaps_60 : decode cX3_isInTwoHeaps 60 = .ok (.istore_n 1, 1) := by decide +kernel
theorem dX3_isInTwoHeaps_61 : decode cX3_isInTwoHeaps 61 = .ok (.iload_n 1, 1) := by decide +kernel
theorem dX3_isInTwoHeaps_62 : decode cX3_isInTwoHeaps 62 = .ok (.iload_n 2, 1) := by decide +kernel
theorem dX3_isInTwoHeaps_63 : decode cX3_isInTwoHeaps 63 = .ok (.ior, 1) := by decide +kernel
theorem dX3_isInTwoHeaps_64 : decode cX3_isInTwoHeaps 64 = .ok (.iload 5, 2) := by decide +kernel
theorem dX3_isInTwoHeaps_66 : decode cX3_isInTwoHeaps 66 = .ok (.if_icmp .ne 6, 3) := by decide +kernel
theorem dX3_isInTwoHeaps_69 : decode cX3_isInTwoHeaps 69 = .ok (.goto 9, 3) := by decide +kernel
theorem dX3_isInTwoHeaps_72 : decode cX3_isInTwoHeaps 72 = .ok (.iinc 4 1, 3) := by decide +kernel
theorem dX3_isInTwoHeaps_75 : decode cX3_isInTwoHeaps 75 = .ok (.goto (-42), 3) := by decide +kernel
theorem dX3_isInTwoHeaps_78 : decode cX3_isInTwoHeaps 78 = .ok (.iinc 3 1, 3) := by decide +kernel
theorem dX3_isInTwoHeaps_81 : decode cX3_isInTwoHeaps 81 = .ok (.goto (-75), 3) := by decide +kernel
theorem dX3_isInTwoHeaps_84 : decode cX3_isInTwoHeaps 84 = .ok (.iload_n 1, 1) := by decide +kernel
theorem dX3_isInTwoHeaps_85 : decode cX3_isInTwoHeaps 85 = .ok (.iload_n 2, 1) := by decide +kernel
theorem dX3_isInTwoHeaps_86 : decode cX3_isInTwoHeaps 86 = .ok (.iand, 1) := by decide +kernel
theorem dX3_isInTwoHeaps_87 : decode cX3_isInTwoHeaps 87 = .ok (.ifCond .ne 7, 3) := by decide +kernel
theorem dX3_isInTwoHeaps_90 : decode cX3_isInTwoHeaps 90 = .ok (.iconst 1, 1) := by decide +kernel
theorem dX3_isInTwoHeaps_91 : decode cX3_isInTwoHeaps 91 = .ok (.goto 4, 3) := by decide +kernel
theorem dX3_isInTwoHeaps_94 : decode cX3_isInTwoHeaps 94 = .ok (.iconst 0, 1) := by decide +kernel
theorem dX3_isInTwoHeaps_95 : decode cX3_isInTwoHeaps 95 = .ok (.ireturn, 1) := by decide +kernel
theorem dX3_acrossFrom_0 : decode cX3_acrossFrom 0 = .ok (.iconst 0, 1) := by decide +kernel
theorem dX3_acrossFrom_1 : decode cX3_acrossFrom 1 = .ok (.istore_n 2, 1) := by decide +kernel
theorem dX3_acrossFrom_2 : decode cX3_acrossFrom 2 = .ok (.iconst 0, 1) := by decide +kernel
theorem dX3_acrossFrom_3 : decode cX3_acrossFrom 3 = .ok (.istore_n 3, 1) := by decide +kernel
theorem dX3_acrossFrom_4 : decode cX3_acrossFrom 4 = .ok (.iload_n 3, 1) := by decide +kernel
theorem dX3_acrossFrom_5 : decode cX3_acrossFrom 5 = .ok (.aload_n 0, 1) := by decide +kernel
theorem dX3_acrossFrom_6 : decode cX3_acrossFrom 6 = .ok (.getfield 34, 3) := by decide +kernel
theorem dX3_acrossFrom_9 : decode cX3_acrossFrom 9 = .ok (.if_icmp .ge 57, 3) := by decide +kernel
theorem dX3_acrossFrom_12 : decode cX3_acrossFrom 12 = .ok (.iload_n 1, 1) := by decide +kernel
theorem dX3_acrossFrom_13 : decode cX3_acrossFrom 13 = .ok (.aload_n 0, 1) := by decide +kernel
theorem dX3_acrossFrom_14 : decode cX3_acrossFrom 14 = .ok (.getfield 9, 3) := by decide +kernel
theorem dX3_acrossFrom_17 : decode cX3_acrossFrom 17 = .ok (.iload_n 3, 1) := by decide +kernel
theorem dX3_acrossFrom_18 : decode cX3_acrossFrom 18 = .ok (.iaload, 1) := by decide +kernel
theorem dX3_acrossFrom_19 : decode cX3_acrossFrom 19 = .ok (.invokestatic 38, 3) := by decide +kernel
theorem dX3_acrossFrom_22 : decode cX3_acrossFrom 22 = .ok (.ifCond .eq 14, 3) := by decide +kernel
theorem dX3_acrossFrom_25 : decode cX3_acrossFrom 25 = .ok (.iload_n 2, 1) := by decide +kernel
theorem dX3_acrossFrom_26 : decode cX3_acrossFrom 26 = .ok (.iconst 1, 1) := by decide +kernel
theorem dX3_acrossFrom_27 : decode cX3_acrossFrom 27 = .ok (.aload_n 0, 1) := by decide +kernel
theorem dX3_acrossFrom_28 : decode cX3_acrossFrom 28 = .ok (.getfield 15, 3) := by decide +kernel
theorem dX3_acrossFrom_31 : decode cX3_acrossFrom 31 = .ok (.iload_n 3, 1) := by decide +kernel
theorem dX3_acrossFrom_32 : decode cX3_acrossFrom 32 = .ok (.iaload, 1) := by decide +kernel
theorem dX3_acrossFrom_33 : decode cX3_acrossFrom 33 = .ok (.ishl, 1) := by decide +kernel
theorem dX3_acrossFrom_34 : decode cX3_acrossFrom 34 = .ok (.ior, 1) := by decide +kernel
theorem dX3_acrossFrom_35 : decode cX3_acrossFrom 35 = .ok (.istore_n 2, 1) := by decide +kernel
theorem dX3_acrossFrom_36 : decode cX3_acrossFrom 36 = .ok (.iload_n 1, 1) := by decide +kernel
theorem dX3_acrossFrom_37 : decode cX3_acrossFrom 37 = .ok (.aload_n 0, 1) := by decide +kernel
theorem dX3_acrossFrom_38 : decode cX3_acrossFrom 38 = .ok (.getfield 15, 3) := by decide +kernel
theorem dX3_acrossFrom_41 : decode cX3_acrossFrom 41 = .ok (.iload_n 3, 1) := by decide +kernel
theorem dX3_acrossFrom_42 : decode cX3_acrossFrom 42 = .ok (.iaload, 1) := by decide +kernel
theorem dX3_acrossFrom_43 : decode cX3_acrossFrom 43 = .ok (.invokestatic 38, 3) := by decide +kernel
theorem dX3_acrossFrom_46 : decode cX3_acrossFrom 46 = .ok (.ifCond .eq 14, 3) := by decide +kernel
theorem dX3_acrossFrom_49 : decode cX3_acrossFrom 49 = .ok (.iload_n 2, 1) := by decide +kernel
theorem dX3_acrossFrom_50 : decode cX3_acrossFrom 50 = .ok (.iconst 1, 1) := by decide +kernel
theorem dX3_acrossFrom_51 : decode cX3_acrossFrom 51 = .ok (.aload_n 0, 1) := by decide +kernel
theorem dX3_acrossFrom_52 : decode cX3_acrossFrom 52 = .ok (.getfield 9, 3) := by decide +kernel
theorem dX3_acrossFrom_55 : decode cX3_acrossFrom 55 = .ok (.iload_n 3, 1) := by decide +kernel
theorem dX3_acrossFrom_56 : decode cX3_acrossFrom 56 = .ok (.iaload, 1) := by decide +kernel
theorem dX3_acrossFrom_57 : decode cX3_acrossFrom 57 = .ok (.ishl, 1) := by decide +kernel
theorem dX3_acrossFrom_58 : decode cX3_acrossFrom 58 = .ok (.ior, 1) := by decide +kernel
theorem dX3_acrossFrom_59 : decode cX3_acrossFrom 59 = .ok (.istore_n 2, 1) := by decide +kernel
theorem dX3_acrossFrom_60 : decode cX3_acrossFrom 60 = .ok (.iinc 3 1, 3) := by decide +kernel
theorem dX3_acrossFrom_63 : decode cX3_acrossFrom 63 = .ok (.goto (-59), 3) := by decide +kernel
theorem dX3_acrossFrom_66 : decode cX3_acrossFrom 66 = .ok (.iload_n 2, 1) := by decide +kernel
theorem dX3_acrossFrom_67 : decode cX3_acrossFrom 67 = .ok (.ireturn, 1) := by decide +kernel
theorem dX3_colourTwoHeaps_0 : decode cX3_colourTwoHeaps 0 = .ok (.aload_n 0, 1) := by decide +kernel
theorem dX3_colourTwoHeaps_1 : decode cX3_colourTwoHeaps 1 = .ok (.invokevirtual 73, 3) := by decide +kernel
theorem dX3_colourTwoHeaps_4 : decode cX3_colourTwoHeaps 4 = .ok (.iconst 0, 1) := by decide +kernel
theorem dX3_colourTwoHeaps_5 : decode cX3_colourTwoHeaps 5 = .ok (.istore_n 2, 1) := by decide +kernel
theorem dX3_colourTwoHeaps_6 : decode cX3_colourTwoHeaps 6 = .ok (.iload_n 2, 1) := by decide +kernel
theorem dX3_colourTwoHeaps_7 : decode cX3_colourTwoHeaps 7 = .ok (.aload_n 0, 1) := by decide +kernel
theorem dX3_colourTwoHeaps_8 : decode cX3_colourTwoHeaps 8 = .ok (.getfield 34, 3) := by decide +kernel
theorem dX3_colourTwoHeaps_11 : decode cX3_colourTwoHeaps 11 = .ok (.if_icmp .ge 21, 3) := by decide +kernel
theorem dX3_colourTwoHeaps_14 : decode cX3_colourTwoHeaps 14 = .ok (.aload_n 0, 1) := by decide +kernel
theorem dX3_colourTwoHeaps_15 : decode cX3_colourTwoHeaps 15 = .ok (.getfield 18, 3) := by decide +kernel
theorem dX3_colourTwoHeaps_18 : decode cX3_colourTwoHeaps 18 = .ok (.iload_n 2, 1) := by decide +kernel
theorem dX3_colourTwoHeaps_19 : decode cX3_colourTwoHeaps 19 = .ok (.aload_n 0, 1) := by decide +kernel
theorem dX3_colourTwoHeaps_20 : decode cX3_colourTwoHeaps 20 = .ok (.iload_n 2, 1) := by decide +kernel
theorem dX3_colourTwoHeaps_21 : decode cX3_colourTwoHeaps 21 = .ok (.iload_n 1, 1) := by decide +kernel
theorem dX3_colourTwoHeaps_22 : decode cX3_colourTwoHeaps 22 = .ok (.invokevirtual 76, 3) := by decide +kernel
theorem dX3_colourTwoHeaps_25 : decode cX3_colourTwoHeaps 25 = .ok (.iastore, 1) := by decide +kernel
theorem dX3_colourTwoHeaps_26 : decode cX3_colourTwoHeaps 26 = .ok (.iinc 2 1, 3) := by decide +kernel
theorem dX3_colourTwoHeaps_29 : decode cX3_colourTwoHeaps 29 = .ok (.goto (-23), 3) := by decide +kernel
theorem dX3_colourTwoHeaps_32 : decode cX3_colourTwoHeaps 32 = .ok (.return_, 1) := by decide +kernel
theorem dX3_numberInTwoHeaps_0 : decode cX3_numberInTwoHeaps 0 = .ok (.aload_n 0, 1) := by decide +kernel
theorem dX3_numberInTwoHeaps_1 : decode cX3_numberInTwoHeaps 1 = .ok (.aload_n 0, 1) := by decide +kernel
theorem dX3_numberInTwoHeaps_2 : decode cX3_numberInTwoHeaps 2 = .ok (.getfield 9, 3) := by decide +kernel
theorem dX3_numberInTwoHeaps_5 : decode cX3_numberInTwoHeaps 5 = .ok (.iload_n 1, 1) := by decide +kernel
theorem dX3_numberInTwoHeaps_6 : decode cX3_numberInTwoHeaps 6 = .ok (.iaload, 1) := by decide +kernel
theorem dX3_numberInTwoHeaps_7 : decode cX3_numberInTwoHeaps 7 = .ok (.invokevirtual 58, 3) := by decide +kernel
theorem dX3_numberInTwoHeaps_10 : decode cX3_numberInTwoHeaps 10 = .ok (.istore_n 3, 1) := by decide +kernel
theorem dX3_numberInTwoHeaps_11 : decode cX3_numberInTwoHeaps 11 = .ok (.aload_n 0, 1) := by decide +kernel
theorem dX3_numberInTwoHeaps_12 : decode cX3_numberInTwoHeaps 12 = .ok (.aload_n 0, 1) := by decide +kernel
theorem dX3_numberInTwoHeaps_13 : decode cX3_numberInTwoHeaps 13 = .ok (.getfield 15, 3) := by decide +kernel
theorem dX3_numberInTwoHeaps_16 : decode cX3_numberInTwoHeaps 16 = .ok (.iload_n 1, 1) := by decide +kernel
theorem dX3_numberInTwoHeaps_17 : decode cX3_numberInTwoHeaps 17 = .ok (.iaload, 1) := by decide +kernel
theorem dX3_numberInTwoHeaps_18 : decode cX3_numberInTwoHeaps 18 = .ok (.invokevirtual 58, 3) := by decide +kernel
theorem dX3_numberInTwoHeaps_21 : decode cX3_numberInTwoHeaps 21 = .ok (.istore 4, 2) := by decide +kernel
theorem dX3_numberInTwoHeaps_23 : decode cX3_numberInTwoHeaps 23 = .ok (.iload_n 3, 1) := by decide +kernel
theorem dX3_numberInTwoHeaps_24 : decode cX3_numberInTwoHeaps 24 = .ok (.iload 4, 2) := by decide +kernel
theorem dX3_numberInTwoHeaps_26 : decode cX3_numberInTwoHeaps 26 = .ok (.ior, 1) := by decide +kernel
theorem dX3_numberInTwoHeaps_27 : decode cX3_numberInTwoHeaps 27 = .ok (.invokestatic 61, 3) := by decide +kernel
theorem dX3_numberInTwoHeaps_30 : decode cX3_numberInTwoHeaps 30 = .ok (.istore 5, 2) := by decide +kernel
theorem dX3_numberInTwoHeaps_32 : decode cX3_numberInTwoHeaps 32 = .ok (.iload 5, 2) := by decide +kernel
theorem dX3_numberInTwoHeaps_34 : decode cX3_numberInTwoHeaps 34 = .ok (.iload_n 2, 1) := by decide +kernel
theorem dX3_numberInTwoHeaps_35 : decode cX3_numberInTwoHeaps 35 = .ok (.if_icmp .ge 6, 3) := by decide +kernel
theorem dX3_numberInTwoHeaps_38 : decode cX3_numberInTwoHeaps 38 = .ok (.iload 5, 2) := by decide +kernel
theorem dX3_numberInTwoHeaps_40 : decode cX3_numberInTwoHeaps 40 = .ok (.ireturn, 1) := by decide +kernel
theorem dX3_numberInTwoHeaps_41 : decode cX3_numberInTwoHeaps 41 = .ok (.iload_n 3, 1) := by decide +kernel
theorem dX3_numberInTwoHeaps_42 : decode cX3_numberInTwoHeaps 42 = .ok (.invokestatic 61, 3) := by decide +kernel
theorem dX3_numberInTwoHeaps_45 : decode cX3_numberInTwoHeaps 45 = .ok (.istore 6, 2) := by decide +kernel
theorem dX3_numberInTwoHeaps_47 : decode cX3_numberInTwoHeaps 47 = .ok (.iload 4, 2) := by decide +kernel
theorem dX3_numberInTwoHeaps_49 : decode cX3_numberInTwoHeaps 49 = .ok (.invokestatic 61, 3) := by decide +kernel
theorem dX3_numberInTwoHeaps_52 : decode cX3_numberInTwoHeaps 52 = .ok (.istore 7, 2) := by decide +kernel
theorem dX3_numberInTwoHeaps_54 : decode cX3_numberInTwoHeaps 54 = .ok (.aload_n 0, 1) := by decide +kernel
theorem dX3_numberInTwoHeaps_55 : decode cX3_numberInTwoHeaps 55 = .ok (.aload_n 0, 1) := by decide +kernel
theorem dX3_numberInTwoHeaps_56 : decode cX3_numberInTwoHeaps 56 = .ok (.getfield 15, 3) := by decide +kernel
theorem dX3_numberInTwoHeaps_59 : decode cX3_numberInTwoHeaps 59 = .ok (.iload_n 1, 1) := by decide +kernel
theorem dX3_numberInTwoHeaps_60 : decode cX3_numberInTwoHeaps 60 = .ok (.iaload, 1) := by decide +kernel
theorem dX3_numberInTwoHeaps_61 : decode cX3_numberInTwoHeaps 61 = .ok (.iload 6, 2) := by decide +kernel
theorem dX3_numberInTwoHeaps_63 : decode cX3_numberInTwoHeaps 63 = .ok (.invokevirtual 79, 3) := by decide +kernel
theorem dX3_numberInTwoHeaps_66 : decode cX3_numberInTwoHeaps 66 = .ok (.istore 8, 2) := by decide +kernel
theorem dX3_numberInTwoHeaps_68 : decode cX3_numberInTwoHeaps 68 = .ok (.iload 8, 2) := by decide +kernel
theorem dX3_numberInTwoHeaps_70 : decode cX3_numberInTwoHeaps 70 = .ok (.iconst (-1), 1) := by decide +kernel
theorem dX3_numberInTwoHeaps_71 : decode cX3_numberInTwoHeaps 71 = .ok (.if_icmp .eq 21, 3) := by decide +kernel
theorem dX3_numberInTwoHeaps_74 : decode cX3_numberInTwoHeaps 74 = .ok (.aload_n 0, 1) := by decide +kernel
theorem dX3_numberInTwoHeaps_75 : decode cX3_numberInTwoHeaps 75 = .ok (.aload_n 0, 1) := by decide +kernel
theorem dX3_numberInTwoHeaps_76 : decode cX3_numberInTwoHeaps 76 = .ok (.iload 8, 2) := by decide +kernel
theorem dX3_numberInTwoHeaps_78 : decode cX3_numberInTwoHeaps 78 = .ok (.iload 6, 2) := by decide +kernel
theorem dX3_numberInTwoHeaps_80 : decode cX3_numberInTwoHeaps 80 = .ok (.iload 7, 2) := by decide +kernel
theorem dX3_numberInTwoHeaps_82 : decode cX3_numberInTwoHeaps 82 = .ok (.invokevirtual 82, 3) := by decide +kernel
theorem dX3_numberInTwoHeaps_85 : decode cX3_numberInTwoHeaps 85 = .ok (.iload 6, 2) := by decide +kernel
theorem dX3_numberInTwoHeaps_87 : decode cX3_numberInTwoHeaps 87 = .ok (.iload 7, 2) := by decide +kernel
theorem dX3_numberInTwoHeaps_89 : decode cX3_numberInTwoHeaps 89 = .ok (.invokevirtual 86, 3) := by decide +kernel
theorem dX3_numberInTwoHeaps_92 : decode cX3_numberInTwoHeaps 92 = .ok (.iload 6, 2) := by decide +kernel
theorem dX3_numberInTwoHeaps_94 : decode cX3_numberInTwoHeaps 94 = .ok (.ireturn, 1) := by decide +kernel
theorem dX4_init_0 : decode cX4_init 0 = .ok (.aload_n 0, 1) := by decide +kernel
theorem dX4_init_1 : decode cX4_init 1 = .ok (.invokespecial 3, 3) := by decide +kernel
theorem dX4_init_4 : decode cX4_init 4 = .ok (.aload_n 0, 1) := by decide +kernel
theorem dX4_init_5 : decode cX4_init 5 = .ok (.bipush 12, 2) := by decide +kernel
theorem dX4_init_7 : decode cX4_init 7 = .ok (.newarray .int, 2) := by decide +kernel
theorem dX4_init_9 : decode cX4_init 9 = .ok (.putfield 9, 3) := by decide +kernel
theorem dX4_init_12 : decode cX4_init 12 = .ok (.aload_n 0, 1) := by decide +kernel
theorem dX4_init_13 : decode cX4_init 13 = .ok (.bipush 12, 2) := by decide +kernel
theorem dX4_init_15 : decode cX4_init 15 = .ok (.newarray .int, 2) := by decide +kernel
theorem dX4_init_17 : decode cX4_init 17 = .ok (.putfield 15, 3) := by decide +kernel
theorem dX4_init_20 : decode cX4_init 20 = .ok (.aload_n 0, 1) := by decide +kernel
theorem dX4_init_21 : decode cX4_init 21 = .ok (.sipush 4096, 3) := by decide +kernel
theorem dX4_init_24 : decode cX4_init 24 = .ok (.newarray .boolean, 2) := by decide +kernel
theorem dX4_init_26 : decode cX4_init 26 = .ok (.putfield 18, 3) := by decide +kernel
theorem dX4_init_29 : decode cX4_init 29 = .ok (.aload_n 0, 1) := by decide +kernel
theorem dX4_init_30 : decode cX4_init 30 = .ok (.aload_n 1, 1) := by decide +kernel
theorem dX4_init_31 : decode cX4_init 31 = .ok (.putfield 22, 3) := by decide +kernel
theorem dX4_init_34 : decode cX4_init 34 = .ok (.return_, 1) := by decide +kernel
theorem dX4_allowBelow_0 : decode cX4_allowBelow 0 = .ok (.iconst 0, 1) := by decide +kernel
theorem dX4_allowBelow_1 : decode cX4_allowBelow 1 = .ok (.istore_n 2, 1) := by decide +kernel
theorem dX4_allowBelow_2 : decode cX4_allowBelow 2 = .ok (.iload_n 2, 1) := by decide +kernel
theorem dX4_allowBelow_3 : decode cX4_allowBelow 3 = .ok (.aload_n 0, 1) := by decide +kernel
theorem dX4_allowBelow_4 : decode cX4_allowBelow 4 = .ok (.getfield 22, 3) := by decide +kernel
theorem dX4_allowBelow_7 : decode cX4_allowBelow 7 = .ok (.getfield 26, 3) := by decide +kernel
theorem dX4_allowBelow_10 : decode cX4_allowBelow 10 = .ok (.if_icmp .ge 20, 3) := by decide +kernel
theorem dX4_allowBelow_13 : decode cX4_allowBelow 13 = .ok (.aload_n 0, 1) := by decide +kernel
theorem dX4_allowBelow_14 : decode cX4_allowBelow 14 = .ok (.getfield 9, 3) := by decide +kernel
theorem dX4_allowBelow_17 : decode cX4_allowBelow 17 = .ok (.iload_n 2, 1) := by decide +kernel
theorem dX4_allowBelow_18 : decode cX4_allowBelow 18 = .ok (.iconst 1, 1) := by decide +kernel
theorem dX4_allowBelow_19 : decode cX4_allowBelow 19 = .ok (.iload_n 1, 1) := by decide +kernel
theorem dX4_allowBelow_20 : decode cX4_allowBelow 20 = .ok (.ishl, 1) := by decide +kernel
theorem dX4_allowBelow_21 : decode cX4_allowBelow 21 = .ok (.iconst 1, 1) := by decide +kernel
theorem dX4_allowBelow_22 : decode cX4_allowBelow 22 = .ok (.isub, 1) := by decide +kernel
theorem dX4_allowBelow_23 : decode cX4_allowBelow 23 = .ok (.iastore, 1) := by decide +kernel
theorem dX4_allowBelow_24 : decode cX4_allowBelow 24 = .ok (.iinc 2 1, 3) := by decide +kernel
theorem dX4_allowBelow_27 : decode cX4_allowBelow 27 = .ok (.goto (-25), 3) := by decide +kernel
theorem dX4_allowBelow_30 : decode cX4_allowBelow 30 = .ok (.return_, 1) := by decide +kernel
theorem dX4_allowListed_0 : decode cX4_allowListed 0 = .ok (.iconst 0, 1) := by decide +kernel
theorem dX4_allowListed_1 : decode cX4_allowListed 1 = .ok (.istore_n 1, 1) := by decide +kernel
theorem dX4_allowListed_2 : decode cX4_allowListed 2 = .ok (.iload_n 1, 1) := by decide +kernel
theorem dX4_allowListed_3 : decode cX4_allowListed 3 = .ok (.aload_n 0, 1) := by decide +kernel
theorem dX4_allowListed_4 : decode cX4_allowListed 4 = .ok (.getfield 22, 3) := by decide +kernel
theorem dX4_allowListed_7 : decode cX4_allowListed 7 = .ok (.getfield 26, 3) := by decide +kernel
theorem dX4_allowListed_10 : decode cX4_allowListed 10 = .ok (.if_icmp .ge 24, 3) := by decide +kernel
theorem dX4_allowListed_13 : decode cX4_allowListed 13 = .ok (.aload_n 0, 1) := by decide +kernel
theorem dX4_allowListed_14 : decode cX4_allowListed 14 = .ok (.getfield 9, 3) := by decide +kernel
theorem dX4_allowListed_17 : decode cX4_allowListed 17 = .ok (.iload_n 1, 1) := by decide +kernel
theorem dX4_allowListed_18 : decode cX4_allowListed 18 = .ok (.aload_n 0, 1) := by decide +kernel
theorem dX4_allowListed_19 : decode cX4_allowListed 19 = .ok (.getfield 22, 3) := by decide +kernel
theorem dX4_allowListed_22 : decode cX4_allowListed 22 = .ok (.getfield 32, 3) := by decide +kernel
theorem dX4_allowListed_25 : decode cX4_allowListed 25 = .ok (.iload_n 1, 1) := by decide +kernel
theorem dX4_allowListed_26 : decode cX4_allowListed 26 = .ok (.iaload, 1) := by decide +kernel
theorem dX4_allowListed_27 : decode cX4_allowListed 27 = .ok (.iastore, 1) := by decide +kernel
theorem dX4_allowListed_28 : decode cX4_allowListed 28 = .ok (.iinc 1 1, 3) := by decide +kernel
theorem dX4_allowListed_31 : decode cX4_allowListed 31 = .ok (.goto (-29), 3) := by decide +kernel
theorem dX4_allowListed_34 : decode cX4_allowListed 34 = .ok (.return_, 1) := by decide +kernel
theorem dX4_fewestNumbers_0 : decode cX4_fewestNumbers 0 = .ok (.aload_n 0, 1) := by decide +kernel
theorem dX4_fewestNumbers_1 : decode cX4_fewestNumbers 1 = .ok (.getfield 22, 3) := by decide +kernel
theorem dX4_fewestNumbers_4 : decode cX4_fewestNumbers 4 = .ok (.invokevirtual 35, 3) := by decide +kernel
theorem dX4_fewestNumbers_7 : decode cX4_fewestNumbers 7 = .ok (.istore_n 1, 1) := by decide +kernel
theorem dX4_fewestNumbers_8 : decode cX4_fewestNumbers 8 = .ok (.iload_n 1, 1) := by decide +kernel
theorem dX4_fewestNumbers_9 : decode cX4_fewestNumbers 9 = .ok (.aload_n 0, 1) := by decide +kernel
theorem dX4_fewestNumbers_10 : decode cX4_fewestNumbers 10 = .ok (.getfield 22, 3) := by decide +kernel
theorem dX4_fewestNumbers_13 : decode cX4_fewestNumbers 13 = .ok (.getfield 26, 3) := by decide +kernel
theorem dX4_fewestNumbers_16 : decode cX4_fewestNumbers 16 = .ok (.if_icmp .ge 30, 3) := by decide +kernel
theorem dX4_fewestNumbers_19 : decode cX4_fewestNumbers 19 = .ok (.aload_n 0, 1) := by decide +kernel
theorem dX4_fewestNumbers_20 : decode cX4_fewestNumbers 20 = .ok (.iload_n 1, 1) := by decide +kernel
theorem dX4_fewestNumbers_21 : decode cX4_fewestNumbers 21 = .ok (.invokevirtual 39, 3) := by decide +kernel
theorem dX4_fewestNumbers_24 : decode cX4_fewestNumbers 24 = .ok (.aload_n 0, 1) := by decide +kernel
theorem dX4_fewestNumbers_25 : decode cX4_fewestNumbers 25 = .ok (.aload_n 0, 1) := by decide +kernel
theorem dX4_fewestNumbers_26 : decode cX4_fewestNumbers 26 = .ok (.getfield 22, 3) := by decide +kernel
theorem dX4_fewestNumbers_29 : decode cX4_fewestNumbers 29 = .ok (.invokevirtual 43, 3) := by decide +kernel
theorem dX4_fewestNumbers_32 : decode cX4_fewestNumbers 32 = .ok (.invokevirtual 46, 3) := by decide +kernel
theorem dX4_fewestNumbers_35 : decode cX4_fewestNumbers 35 = .ok (.ifCond .eq 5, 3) := by decide +kernel
theorem dX4_fewestNumbers_38 : decode cX4_fewestNumbers 38 = .ok (.iload_n 1, 1) := by decide +kernel
theorem dX4_fewestNumbers_39 : decode cX4_fewestNumbers 39 = .ok (.ireturn, 1) := by decide +kernel
theorem dX4_fewestNumbers_40 : decode cX4_fewestNumbers 40 = .ok (.iinc 1 1, 3) := by decide +kernel
theorem dX4_fewestNumbers_43 : decode cX4_fewestNumbers 43 = .ok (.goto (-35), 3) := by decide +kernel
theorem dX4_fewestNumbers_46 : decode cX4_fewestNumbers 46 = .ok (.aload_n 0, 1) := by decide +kernel
theorem dX4_fewestNumbers_47 : decode cX4_fewestNumbers 47 = .ok (.getfield 22, 3) := by decide +kernel
theorem dX4_fewestNumbers_50 : decode cX4_fewestNumbers 50 = .ok (.getfield 26, 3) := by decide +kernel
theorem dX4_fewestNumbers_53 : decode cX4_fewestNumbers 53 = .ok (.ireturn, 1) := by decide +kernel
theorem dX4_isCritical_0 : decode cX4_isCritical 0 = .ok (.aload_n 0, 1) := by decide +kernel
theorem dX4_isCritical_1 : decode cX4_isCritical 1 = .ok (.aload_n 0, 1) := by decide +kernel
theorem dX4_isCritical_2 : decode cX4_isCritical 2 = .ok (.getfield 22, 3) := by decide +kernel
theorem dX4_isCritical_5 : decode cX4_isCritical 5 = .ok (.invokevirtual 35, 3) := by decide +kernel
theorem dX4_isCritical_8 : decode cX4_isCritical 8 = .ok (.invokevirtual 39, 3) := by decide +kernel
theorem dX4_isCritical_11 : decode cX4_isCritical 11 = .ok (.aload_n 0, 1) := by decide +kernel
theorem dX4_isCritical_12 : decode cX4_isCritical 12 = .ok (.aload_n 0, 1) := by decide +kernel
theorem dX4_isCritical_13 : decode cX4_isCritical 13 = .ok (.getfield 22, 3) := by decide +kernel
theorem dX4_isCritical_16 : decode cX4_isCritical 16 = .ok (.invokevirtual 43, 3) := by decide +kernel
theorem dX4_isCritical_19 : decode cX4_isCritical 19 = .ok (.invokevirtual 46, 3) := by decide +kernel
theorem dX4_isCritical_22 : decode cX4_isCritical 22 = .ok (.ifCond .eq 5, 3) := by decide +kernel
theorem dX4_isCritical_25 : decode cX4_isCritical 25 = .ok (.iconst 0, 1) := by decide +kernel
theorem dX4_isCritical_26 : decode cX4_isCritical 26 = .ok (.ireturn, 1) := by decide +kernel
theorem dX4_isCritical_27 : decode cX4_isCritical 27 = .ok (.iconst 0, 1) := by decide +kernel
theorem dX4_isCritical_28 : decode cX4_isCritical 28 = .ok (.istore_n 1, 1) := by decide +kernel
theorem dX4_isCritical_29 : decode cX4_isCritical 29 = .ok (.iload_n 1, 1) := by decide +kernel
theorem dX4_isCritical_30 : decode cX4_isCritical 30 = .ok (.aload_n 0, 1) := by decide +kernel
theorem dX4_isCritical_31 : decode cX4_isCritical 31 = .ok (.getfield 22, 3) := by decide +kernel
theorem dX4_isCritical_34 : decode cX4_isCritical 34 = .ok (.getfield 26, 3) := by decide +kernel
theorem dX4_isCritical_37 : decode cX4_isCritical 37 = .ok (.if_icmp .ge 29, 3) := by decide +kernel
theorem dX4_isCritical_40 : decode cX4_isCritical 40 = .ok (.aload_n 0, 1) := by decide +kernel
theorem dX4_isCritical_41 : decode cX4_isCritical 41 = .ok (.aload_n 0, 1) := by decide +kernel
theorem dX4_isCritical_42 : decode cX4_isCritical 42 = .ok (.getfield 22, 3) := by decide +kernel
theorem dX4_isCritical_45 : decode cX4_isCritical 45 = .ok (.invokevirtual 43, 3) := by decide +kernel
theorem dX4_isCritical_48 : decode cX4_isCritical 48 = .ok (.iconst 1, 1) := by decide +kernel
theorem dX4_isCritical_49 : decode cX4_isCritical 49 = .ok (.iload_n 1, 1) := by decide +kernel
theorem dX4_isCritical_50 : decode cX4_isCritical 50 = .ok (.ishl, 1) := by decide +kernel
theorem dX4_isCritical_51 : decode cX4_isCritical 51 = .ok (.ixor, 1) := by decide +kernel
theorem dX4_isCritical_52 : decode cX4_isCritical 52 = .ok (.invokevirtual 46, 3) := by decide +kernel
theorem dX4_isCritical_55 : decode cX4_isCritical 55 = .ok (.ifCond .ne 5, 3) := by decide +kernel
theorem dX4_isCritical_58 : decode cX4_isCritical 58 = .ok (.iconst 0, 1) := by decide +kernel
theorem dX4_isCritical_59 : decode cX4_isCritical 59 = .ok (.ireturn, 1) := by decide +kernel
theorem dX4_isCritical_60 : decode cX4_isCritical 60 = .ok (.iinc 1 1, 3) := by decide +kernel
theorem dX4_isCritical_63 : decode cX4_isCritical 63 = .ok (.goto (-34), 3) := by decide +kernel
theorem dX4_isCritical_66 : decode cX4_isCritical 66 = .ok (.iconst 1, 1) := by decide +kernel
theorem dX4_isCritical_67 : decode cX4_isCritical 67 = .ok (.ireturn, 1) := by decide +kernel
theorem dX4_pickFirst_0 : decode cX4_pickFirst 0 = .ok (.aload_n 0, 1) := by decide +kernel
theorem dX4_pickFirst_1 : decode cX4_pickFirst 1 = .ok (.aload_n 0, 1) := by decide +kernel
theorem dX4_pickFirst_2 : decode cX4_pickFirst 2 = .ok (.getfield 22, 3) := by decide +kernel
theorem dX4_pickFirst_5 : decode cX4_pickFirst 5 = .ok (.invokevirtual 43, 3) := by decide +kernel
theorem dX4_pickFirst_8 : decode cX4_pickFirst 8 = .ok (.invokevirtual 46, 3) := by decide +kernel
theorem dX4_pickFirst_11 : decode cX4_pickFirst 11 = .ok (.ifCond .ne 5, 3) := by decide +kernel
theorem dX4_pickFirst_14 : decode cX4_pickFirst 14 = .ok (.iconst 0, 1) := by decide +kernel
theorem dX4_pickFirst_15 : decode cX4_pickFirst 15 = .ok (.ireturn, 1) := by decide +kernel
theorem dX4_pickFirst_16 : decode cX4_pickFirst 16 = .ok (.iconst 0, 1) := by decide +kernel
theorem dX4_pickFirst_17 : decode cX4_pickFirst 17 = .ok (.istore_n 1, 1) := by decide +kernel
theorem dX4_pickFirst_18 : decode cX4_pickFirst 18 = .ok (.iload_n 1, 1) := by decide +kernel
theorem dX4_pickFirst_19 : decode cX4_pickFirst 19 = .ok (.aload_n 0, 1) := by decide +kernel
theorem dX4_pickFirst_20 : decode cX4_pickFirst 20 = .ok (.getfield 22, 3) := by decide +kernel
theorem dX4_pickFirst_23 : decode cX4_pickFirst 23 = .ok (.getfield 26, 3) := by decide +kernel
theorem dX4_pickFirst_26 : decode cX4_pickFirst 26 = .ok (.if_icmp .ge 20, 3) := by decide +kernel
theorem dX4_pickFirst_29 : decode cX4_pickFirst 29 = .ok (.aload_n 0, 1) := by decide +kernel
theorem dX4_pickFirst_30 : decode cX4_pickFirst 30 = .ok (.getfield 15, 3) := by decide +kernel
theorem dX4_pickFirst_33 : decode cX4_pickFirst 33 = .ok (.iload_n 1, 1) := by decide +kernel
theorem dX4_pickFirst_34 : decode cX4_pickFirst 34 = .ok (.aload_n 0, 1) := by decide +kernel
theorem dX4_pickFirst_35 : decode cX4_pickFirst 35 = .ok (.iload_n 1, 1) := by decide +kernel
theorem dX4_pickFirst_36 : decode cX4_pickFirst 36 = .ok (.invokevirtual 50, 3) := by decide +kernel
theorem dX4_pickFirst_39 : decode cX4_pickFirst 39 = .ok (.iastore, 1) := by decide +kernel
theorem dX4_pickFirst_40 : decode cX4_pickFirst 40 = .ok (.iinc 1 1, 3) := by decide +kernel
theorem dX4_pickFirst_43 : decode cX4_pickFirst 43 = .ok (.goto (-25), 3) := by decide +kernel
theorem dX4_pickFirst_46 : decode cX4_pickFirst 46 = .ok (.iconst 0, 1) := by decide +kernel
theorem dX4_pickFirst_47 : decode cX4_pickFirst 47 = .ok (.istore_n 1, 1) := by decide +kernel
theorem dX4_pickFirst_48 : decode cX4_pickFirst 48 = .ok (.iload_n 1, 1) := by decide +kernel
theorem dX4_pickFirst_49 : decode cX4_pickFirst 49 = .ok (.aload_n 0, 1) := by decide +kernel
theorem dX4_pickFirst_50 : decode cX4_pickFirst 50 = .ok (.getfield 22, 3) := by decide +kernel
theorem dX4_pickFirst_53 : decode cX4_pickFirst 53 = .ok (.getfield 26, 3) := by decide +kernel
theorem dX4_pickFirst_56 : decode cX4_pickFirst 56 = .ok (.if_icmp .ge 24, 3) := by decide +kernel
theorem dX4_pickFirst_59 : decode cX4_pickFirst 59 = .ok (.aload_n 0, 1) := by decide +kernel
theorem dX4_pickFirst_60 : decode cX4_pickFirst 60 = .ok (.getfield 22, 3) := by decide +kernel
theorem dX4_pickFirst_63 : decode cX4_pickFirst 63 = .ok (.getfield 54, 3) := by decide +kernel
theorem dX4_pickFirst_66 : decode cX4_pickFirst 66 = .ok (.iload_n 1, 1) := by decide +kernel
theorem dX4_pickFirst_67 : decode cX4_pickFirst 67 = .ok (.aload_n 0, 1) := by decide +kernel
theorem dX4_pickFirst_68 : decode cX4_pickFirst 68 = .ok (.getfield 15, 3) := by decide +kernel
theorem dX4_pickFirst_71 : decode cX4_pickFirst 71 = .ok (.iload_n 1, 1) := by decide +kernel
theorem dX4_pickFirst_72 : decode cX4_pickFirst 72 = .ok (.iaload, 1) := by decide +kernel
theorem dX4_pickFirst_73 : decode cX4_pickFirst 73 = .ok (.iastore, 1) := by decide +kernel
theorem dX4_pickFirst_74 : decode cX4_pickFirst 74 = .ok (.iinc 1 1, 3) := by decide +kernel
theorem dX4_pickFirst_77 : decode cX4_pickFirst 77 = .ok (.goto (-29), 3) := by decide +kernel
theorem dX4_pickFirst_80 : decode cX4_pickFirst 80 = .ok (.iconst 1, 1) := by decide +kernel
theorem dX4_pickFirst_81 : decode cX4_pickFirst 81 = .ok (.ireturn, 1) := by decide +kernel
theorem dX4_pickLeast_0 : decode cX4_pickLeast 0 = .ok (.aload_n 0, 1) := by decide +kernel
theorem dX4_pickLeast_1 : decode cX4_pickLeast 1 = .ok (.getfield 22, 3) := by decide +kernel
theorem dX4_pickLeast_4 : decode cX4_pickLeast 4 = .ok (.invokevirtual 43, 3) := by decide +kernel
theorem dX4_pickLeast_7 : decode cX4_pickLeast 7 = .ok (.iconst 2, 1) := by decide +kernel
theorem dX4_pickLeast_8 : decode cX4_pickLeast 8 = .ok (.iload_n 1, 1) := by decide +kernel
theorem dX4_pickLeast_9 : decode cX4_pickLeast 9 = .ok (.ishl, 1) := by decide +kernel
theorem dX4_pickLeast_10 : decode cX4_pickLeast 10 = .ok (.ineg, 1) := by decide +kernel
theorem dX4_pickLeast_11 : decode cX4_pickLeast 11 = .ok (.iand, 1) := by decide +kernel
theorem dX4_pickLeast_12 : decode cX4_pickLeast 12 = .ok (.istore_n 2, 1) := by decide +kernel
theorem dX4_pickLeast_13 : decode cX4_pickLeast 13 = .ok (.iconst 0, 1) := by decide +kernel
theorem dX4_pickLeast_14 : decode cX4_pickLeast 14 = .ok (.istore_n 3, 1) := by decide +kernel
theorem dX4_pickLeast_15 : decode cX4_pickLeast 15 = .ok (.iload_n 3, 1) := by decide +kernel
theorem dX4_pickLeast_16 : decode cX4_pickLeast 16 = .ok (.bipush 16, 2) := by decide +kernel
theorem dX4_pickLeast_18 : decode cX4_pickLeast 18 = .ok (.if_icmp .ge 64, 3) := by decide +kernel
theorem dX4_pickLeast_21 : decode cX4_pickLeast 21 = .ok (.aload_n 0, 1) := by decide +kernel
theorem dX4_pickLeast_22 : decode cX4_pickLeast 22 = .ok (.getfield 9, 3) := by decide +kernel
theorem dX4_pickLeast_25 : decode cX4_pickLeast 25 = .ok (.iload_n 1, 1) := by decide +kernel
theorem dX4_pickLeast_26 : decode cX4_pickLeast 26 = .ok (.iaload, 1) := by decide +kernel
theorem dX4_pickLeast_27 : decode cX4_pickLeast 27 = .ok (.iload_n 3, 1) := by decide +kernel
theorem dX4_pickLeast_28 : decode cX4_pickLeast 28 = .ok (.invokestatic 57, 3) := by decide +kernel
theorem dX4_pickLeast_31 : decode cX4_pickLeast 31 = .ok (.ifCond .eq 45, 3) := by decide +kernel
theorem dX4_pickLeast_34 : decode cX4_pickLeast 34 = .ok (.aload_n 0, 1) := by decide +kernel
theorem dX4_pickLeast_35 : decode cX4_pickLeast 35 = .ok (.aload_n 0, 1) := by decide +kernel
theorem dX4_pickLeast_36 : decode cX4_pickLeast 36 = .ok (.getfield 22, 3) := by decide +kernel
theorem dX4_pickLeast_39 : decode cX4_pickLeast 39 = .ok (.getfield 61, 3) := by decide +kernel
theorem dX4_pickLeast_42 : decode cX4_pickLeast 42 = .ok (.iload_n 1, 1) := by decide +kernel
theorem dX4_pickLeast_43 : decode cX4_pickLeast 43 = .ok (.iaload, 1) := by decide +kernel
theorem dX4_pickLeast_44 : decode cX4_pickLeast 44 = .ok (.iload_n 2, 1) := by decide +kernel
theorem dX4_pickLeast_45 : decode cX4_pickLeast 45 = .ok (.iand, 1) := by decide +kernel
theorem dX4_pickLeast_46 : decode cX4_pickLeast 46 = .ok (.iload_n 3, 1) := by decide +kernel
theorem dX4_pickLeast_47 : decode cX4_pickLeast 47 = .ok (.invokevirtual 64, 3) := by decide +kernel
theorem dX4_pickLeast_50 : decode cX4_pickLeast 50 = .ok (.istore 4, 2) := by decide +kernel
theorem dX4_pickLeast_52 : decode cX4_pickLeast 52 = .ok (.aload_n 0, 1) := by decide +kernel
theorem dX4_pickLeast_53 : decode cX4_pickLeast 53 = .ok (.iload 4, 2) := by decide +kernel
theorem dX4_pickLeast_55 : decode cX4_pickLeast 55 = .ok (.iload_n 3, 1) := by decide +kernel
theorem dX4_pickLeast_56 : decode cX4_pickLeast 56 = .ok (.invokevirtual 68, 3) := by decide +kernel
theorem dX4_pickLeast_59 : decode cX4_pickLeast 59 = .ok (.aload_n 0, 1) := by decide +kernel
theorem dX4_pickLeast_60 : decode cX4_pickLeast 60 = .ok (.iload_n 2, 1) := by decide +kernel
theorem dX4_pickLeast_61 : decode cX4_pickLeast 61 = .ok (.invokevirtual 46, 3) := by decide +kernel
theorem dX4_pickLeast_64 : decode cX4_pickLeast 64 = .ok (.ifCond .eq 5, 3) := by decide +kernel
theorem dX4_pickLeast_67 : decode cX4_pickLeast 67 = .ok (.iload_n 3, 1) := by decide +kernel
theorem dX4_pickLeast_68 : decode cX4_pickLeast 68 = .ok (.ireturn, 1) := by decide +kernel
theorem dX4_pickLeast_69 : decode cX4_pickLeast 69 = .ok (.aload_n 0, 1) := by decide +kernel
theorem dX4_pickLeast_70 : decode cX4_pickLeast 70 = .ok (.iload 4, 2) := by decide +kernel
theorem dX4_pickLeast_72 : decode cX4_pickLeast 72 = .ok (.iload_n 3, 1) := by decide +kernel
theorem dX4_pickLeast_73 : decode cX4_pickLeast 73 = .ok (.invokevirtual 68, 3) := by decide +kernel
theorem dX4_pickLeast_76 : decode cX4_pickLeast 76 = .ok (.iinc 3 1, 3) := by decide +kernel
theorem dX4_pickLeast_79 : decode cX4_pickLeast 79 = .ok (.goto (-64), 3) := by decide +kernel
theorem dX4_pickLeast_82 : decode cX4_pickLeast 82 = .ok (.iconst (-1), 1) := by decide +kernel
theorem dX4_pickLeast_83 : decode cX4_pickLeast 83 = .ok (.ireturn, 1) := by decide +kernel
theorem dX4_roadsThatCan_0 : decode cX4_roadsThatCan 0 = .ok (.iconst 0, 1) := by decide +kernel
theorem dX4_roadsThatCan_1 : decode cX4_roadsThatCan 1 = .ok (.istore_n 3, 1) := by decide +kernel
theorem dX4_roadsThatCan_2 : decode cX4_roadsThatCan 2 = .ok (.iconst 0, 1) := by decide +kernel
theorem dX4_roadsThatCan_3 : decode cX4_roadsThatCan 3 = .ok (.istore 4, 2) := by decide +kernel
theorem dX4_roadsThatCan_5 : decode cX4_roadsThatCan 5 = .ok (.iload 4, 2) := by decide +kernel
theorem dX4_roadsThatCan_7 : decode cX4_roadsThatCan 7 = .ok (.aload_n 0, 1) := by decide +kernel
theorem dX4_roadsThatCan_8 : decode cX4_roadsThatCan 8 = .ok (.getfield 22, 3) := by decide +kernel
theorem dX4_roadsThatCan_11 : decode cX4_roadsThatCan 11 = .ok (.getfield 26, 3) := by decide +kernel
theorem dX4_roadsThatCan_14 : decode cX4_roadsThatCan 14 = .ok (.if_icmp .ge 39, 3) := by decide +kernel
theorem dX4_roadsThatCan_17 : decode cX4_roadsThatCan 17 = .ok (.iload_n 1, 1) := by decide +kernel
theorem dX4_roadsThatCan_18 : decode cX4_roadsThatCan 18 = .ok (.iload 4, 2) := by decide +kernel
theorem dX4_roadsThatCan_20 : decode cX4_roadsThatCan 20 = .ok (.invokestatic 57, 3) := by decide +kernel
theorem dX4_roadsThatCan_23 : decode cX4_roadsThatCan 23 = .ok (.ifCond .eq 24, 3) := by decide +kernel
theorem dX4_roadsThatCan_26 : decode cX4_roadsThatCan 26 = .ok (.aload_n 0, 1) := by decide +kernel
theorem dX4_roadsThatCan_27 : decode cX4_roadsThatCan 27 = .ok (.getfield 9, 3) := by decide +kernel
theorem dX4_roadsThatCan_30 : decode cX4_roadsThatCan 30 = .ok (.iload 4, 2) := by decide +kernel
theorem dX4_roadsThatCan_32 : decode cX4_roadsThatCan 32 = .ok (.iaload, 1) := by decide +kernel
theorem dX4_roadsThatCan_33 : decode cX4_roadsThatCan 33 = .ok (.iload_n 2, 1) := by decide +kernel
theorem dX4_roadsThatCan_34 : decode cX4_roadsThatCan 34 = .ok (.invokestatic 57, 3) := by decide +kernel
theorem dX4_roadsThatCan_37 : decode cX4_roadsThatCan 37 = .ok (.ifCond .eq 10, 3) := by decide +kernel
theorem dX4_roadsThatCan_40 : decode cX4_roadsThatCan 40 = .ok (.iload_n 3, 1) := by decide +kernel
theorem dX4_roadsThatCan_41 : decode cX4_roadsThatCan 41 = .ok (.iconst 1, 1) := by decide +kernel
theorem dX4_roadsThatCan_42 : decode cX4_roadsThatCan 42 = .ok (.iload 4, 2) := by decide +kernel
theorem dX4_roadsThatCan_44 : decode cX4_roadsThatCan 44 = .ok (.ishl, 1) := by decide +kernel
theorem dX4_roadsThatCan_45 : decode cX4_roadsThatCan 45 = .ok (.ior, 1) := by decide +kernel
theorem dX4_roadsThatCan_46 : decode cX4_roadsThatCan 46 = .ok (.istore_n 3, 1) := by decide +kernel
theorem dX4_roadsThatCan_47 : decode cX4_roadsThatCan 47 = .ok (.iinc 4 1, 3) := by decide +kernel
theorem dX4_roadsThatCan_50 : decode cX4_roadsThatCan 50 = .ok (.goto (-45), 3) := by decide +kernel
theorem dX4_roadsThatCan_53 : decode cX4_roadsThatCan 53 = .ok (.iload_n 3, 1) := by decide +kernel
theorem dX4_roadsThatCan_54 : decode cX4_roadsThatCan 54 = .ok (.ireturn, 1) := by decide +kernel
theorem dX4_strike_0 : decode cX4_strike 0 = .ok (.iconst 0, 1) := by decide +kernel
theorem dX4_strike_1 : decode cX4_strike 1 = .ok (.istore_n 3, 1) := by decide +kernel
theorem dX4_strike_2 : decode cX4_strike 2 = .ok (.iload_n 3, 1) := by decide +kernel
theorem dX4_strike_3 : decode cX4_strike 3 = .ok (.aload_n 0, 1) := by decide +kernel
theorem dX4_strike_4 : decode cX4_strike 4 = .ok (.getfield 22, 3) := by decide +kernel
theorem dX4_strike_7 : decode cX4_strike 7 = .ok (.getfield 26, 3) := by decide +kernel
theorem dX4_strike_10 : decode cX4_strike 10 = .ok (.if_icmp .ge 29, 3) := by decide +kernel
theorem dX4_strike_13 : decode cX4_strike 13 = .ok (.iload_n 1, 1) := by decide +kernel
theorem dX4_strike_14 : decode cX4_strike 14 = .ok (.iload_n 3, 1) := by decide +kernel
theorem dX4_strike_15 : decode cX4_strike 15 = .ok (.invokestatic 57, 3) := by decide +kernel
theorem dX4_strike_18 : decode cX4_strike 18 = .ok (.ifCond .eq 15, 3) := by decide +kernel
theorem dX4_strike_21 : decode cX4_strike 21 = .ok (.aload_n 0, 1) := by decide +kernel
theorem dX4_strike_22 : decode cX4_strike 22 = .ok (.getfield 9, 3) := by decide +kernel
theorem dX4_strike_25 : decode cX4_strike 25 = .ok (.iload_n 3, 1) := by decide +kernel
theorem dX4_strike_26 : decode cX4_strike 26 = .ok (.dup2, 1) := by decide +kernel
theorem dX4_strike_27 : decode cX4_strike 27 = .ok (.iaload, 1) := by decide +kernel
theorem dX4_strike_28 : decode cX4_strike 28 = .ok (.iconst 1, 1) := by decide +kernel
theorem dX4_strike_29 : decode cX4_strike 29 = .ok (.iload_n 2, 1) := by decide +kernel
theorem dX4_strike_30 : decode cX4_strike 30 = .ok (.ishl, 1) := by decide +kernel
theorem dX4_strike_31 : decode cX4_strike 31 = .ok (.ixor, 1) := by decide +kernel
theorem dX4_strike_32 : decode cX4_strike 32 = .ok (.iastore, 1) := by decide +kernel
theorem dX4_strike_33 : decode cX4_strike 33 = .ok (.iinc 3 1, 3) := by decide +kernel
theorem dX4_strike_36 : decode cX4_strike 36 = .ok (.goto (-34), 3) := by decide +kernel
theorem dX4_strike_39 : decode cX4_strike 39 = .ok (.return_, 1) := by decide +kernel
theorem dX4_isPossible_0 : decode cX4_isPossible 0 = .ok (.aload_n 0, 1) := by decide +kernel
theorem dX4_isPossible_1 : decode cX4_isPossible 1 = .ok (.iload_n 1, 1) := by decide +kernel
theorem dX4_isPossible_2 : decode cX4_isPossible 2 = .ok (.invokevirtual 72, 3) := by decide +kernel
theorem dX4_isPossible_5 : decode cX4_isPossible 5 = .ok (.ifCond .eq 5, 3) := by decide +kernel
theorem dX4_isPossible_8 : decode cX4_isPossible 8 = .ok (.iconst 0, 1) := by decide +kernel
theorem dX4_isPossible_9 : decode cX4_isPossible 9 = .ok (.ireturn, 1) := by decide +kernel
theorem dX4_isPossible_10 : decode cX4_isPossible 10 = .ok (.aload_n 0, 1) := by decide +kernel
theorem dX4_isPossible_11 : decode cX4_isPossible 11 = .ok (.iload_n 1, 1) := by decide +kernel
theorem dX4_isPossible_12 : decode cX4_isPossible 12 = .ok (.invokevirtual 75, 3) := by decide +kernel
theorem dX4_isPossible_15 : decode cX4_isPossible 15 = .ok (.istore_n 2, 1) := by decide +kernel
theorem dX4_isPossible_16 : decode cX4_isPossible 16 = .ok (.iload_n 2, 1) := by decide +kernel
theorem dX4_isPossible_17 : decode cX4_isPossible 17 = .ok (.ifCond .ne 5, 3) := by decide +kernel
theorem dX4_isPossible_20 : decode cX4_isPossible 20 = .ok (.iconst 1, 1) := by decide +kernel
theorem dX4_isPossible_21 : decode cX4_isPossible 21 = .ok (.ireturn, 1) := by decide +kernel
theorem dX4_isPossible_22 : decode cX4_isPossible 22 = .ok (.aload_n 0, 1) := by decide +kernel
theorem dX4_isPossible_23 : decode cX4_isPossible 23 = .ok (.iload_n 2, 1) := by decide +kernel
theorem dX4_isPossible_24 : decode cX4_isPossible 24 = .ok (.invokevirtual 78, 3) := by decide +kernel
theorem dX4_isPossible_27 : decode cX4_isPossible 27 = .ok (.iload_n 2, 1) := by decide +kernel
theorem dX4_isPossible_28 : decode cX4_isPossible 28 = .ok (.invokestatic 81, 3) := by decide +kernel
theorem dX4_isPossible_31 : decode cX4_isPossible 31 = .ok (.if_icmp .ge 5, 3) := by decide +kernel
theorem dX4_isPossible_34 : decode cX4_isPossible 34 = .ok (.iconst 0, 1) := by decide +kernel
theorem dX4_isPossible_35 : decode cX4_isPossible 35 = .ok (.ireturn, 1) := by decide +kernel
theorem dX4_isPossible_36 : decode cX4_isPossible 36 = .ok (.aload_n 0, 1) := by decide +kernel
theorem dX4_isPossible_37 : decode cX4_isPossible 37 = .ok (.iload_n 2, 1) := by decide +kernel
theorem dX4_isPossible_38 : decode cX4_isPossible 38 = .ok (.invokevirtual 86, 3) := by decide +kernel
theorem dX4_isPossible_41 : decode cX4_isPossible 41 = .ok (.aload_n 0, 1) := by decide +kernel
theorem dX4_isPossible_42 : decode cX4_isPossible 42 = .ok (.getfield 18, 3) := by decide +kernel
theorem dX4_isPossible_45 : decode cX4_isPossible 45 = .ok (.iload_n 2, 1) := by decide +kernel
theorem dX4_isPossible_46 : decode cX4_isPossible 46 = .ok (.iconst 1, 1) := by decide +kernel
theorem dX4_isPossible_47 : decode cX4_isPossible 47 = .ok (.bastore, 1) := by decide +kernel
theorem dX4_isPossible_48 : decode cX4_isPossible 48 = .ok (.iconst 0, 1) := by decide +kernel
theorem dX4_isPossible_49 : decode cX4_isPossible 49 = .ok (.istore_n 3, 1) := by decide +kernel
theorem dX4_isPossible_50 : decode cX4_isPossible 50 = .ok (.iload_n 3, 1) := by decide +kernel
theorem dX4_isPossible_51 : decode cX4_isPossible 51 = .ok (.bipush 16, 2) := by decide +kernel
theorem dX4_isPossible_53 : decode cX4_isPossible 53 = .ok (.if_icmp .ge 29, 3) := by decide +kernel
theorem dX4_isPossible_56 : decode cX4_isPossible 56 = .ok (.aload_n 0, 1) := by decide +kernel
theorem dX4_isPossible_57 : decode cX4_isPossible 57 = .ok (.getfield 18, 3) := by decide +kernel
theorem dX4_isPossible_60 : decode cX4_isPossible 60 = .ok (.iconst 0, 1) := by decide +kernel
theorem dX4_isPossible_61 : decode cX4_isPossible 61 = .ok (.baload, 1) := by decide +kernel
theorem dX4_isPossible_62 : decode cX4_isPossible 62 = .ok (.ifCond .ne 20, 3) := by decide +kernel
theorem dX4_isPossible_65 : decode cX4_isPossible 65 = .ok (.aload_n 0, 1) := by decide +kernel
theorem dX4_isPossible_66 : decode cX4_isPossible 66 = .ok (.iload_n 2, 1) := by decide +kernel
theorem dX4_isPossible_67 : decode cX4_isPossible 67 = .ok (.aload_n 0, 1) := by decide +kernel
theorem dX4_isPossible_68 : decode cX4_isPossible 68 = .ok (.iload_n 2, 1) := by decide +kernel
theorem dX4_isPossible_69 : decode cX4_isPossible 69 = .ok (.iload_n 3, 1) := by decide +kernel
theorem dX4_isPossible_70 : decode cX4_isPossible 70 = .ok (.invokevirtual 64, 3) := by decide +kernel
theorem dX4_isPossible_73 : decode cX4_isPossible 73 = .ok (.invokevirtual 89, 3) := by decide +kernel
theorem dX4_isPossible_76 : decode cX4_isPossible 76 = .ok (.iinc 3 1, 3) := by decide +kernel
theorem dX4_isPossible_79 : decode cX4_isPossible 79 = .ok (.goto (-29), 3) := by decide +kernel
theorem dX4_isPossible_82 : decode cX4_isPossible 82 = .ok (.aload_n 0, 1) := by decide +kernel
theorem dX4_isPossible_83 : decode cX4_isPossible 83 = .ok (.getfield 18, 3) := by decide +kernel
theorem dX4_isPossible_86 : decode cX4_isPossible 86 = .ok (.iconst 0, 1) := by decide +kernel
theorem dX4_isPossible_87 : decode cX4_isPossible 87 = .ok (.baload, 1) := by decide +kernel
theorem dX4_isPossible_88 : decode cX4_isPossible 88 = .ok (.ireturn, 1) := by decide +kernel
theorem dX4_hasEmptyHanded_0 : decode cX4_hasEmptyHanded 0 = .ok (.iconst 0, 1) := by decide +kernel
theorem dX4_hasEmptyHanded_1 : decode cX4_hasEmptyHanded 1 = .ok (.istore_n 2, 1) := by decide +kernel
theorem dX4_hasEmptyHanded_2 : decode cX4_hasEmptyHanded 2 = .ok (.iload_n 2, 1) := by decide +kernel
theorem dX4_hasEmptyHanded_3 : decode cX4_hasEmptyHanded 3 = .ok (.aload_n 0, 1) := by decide +kernel
theorem dX4_hasEmptyHanded_4 : decode cX4_hasEmptyHanded 4 = .ok (.getfield 22, 3) := by decide +kernel
theorem dX4_hasEmptyHanded_7 : decode cX4_hasEmptyHanded 7 = .ok (.getfield 26, 3) := by decide +kernel
theorem dX4_hasEmptyHanded_10 : decode cX4_hasEmptyHanded 10 = .ok (.if_icmp .ge 28, 3) := by decide +kernel
theorem dX4_hasEmptyHanded_13 : decode cX4_hasEmptyHanded 13 = .ok (.iload_n 1, 1) := by decide +kernel
theorem dX4_hasEmptyHanded_14 : decode cX4_hasEmptyHanded 14 = .ok (.iload_n 2, 1) := by decide +kernel
theorem dX4_hasEmptyHanded_15 : decode cX4_hasEmptyHanded 15 = .ok (.invokestatic 57, 3) := by decide +kernel
theorem dX4_hasEmptyHanded_18 : decode cX4_hasEmptyHanded 18 = .ok (.ifCond .eq 14, 3) := by decide +kernel
theorem dX4_hasEmptyHanded_21 : decode cX4_hasEmptyHanded 21 = .ok (.aload_n 0, 1) := by decide +kernel
theorem dX4_hasEmptyHanded_22 : decode cX4_hasEmptyHanded 22 = .ok (.getfield 9, 3) := by decide +kernel
theorem dX4_hasEmptyHanded_25 : decode cX4_hasEmptyHanded 25 = .ok (.iload_n 2, 1) := by decide +kernel
theorem dX4_hasEmptyHanded_26 : decode cX4_hasEmptyHanded 26 = .ok (.iaload, 1) := by decide +kernel
theorem dX4_hasEmptyHanded_27 : decode cX4_hasEmptyHanded 27 = .ok (.ifCond .ne 5, 3) := by decide +kernel
theorem dX4_hasEmptyHanded_30 : decode cX4_hasEmptyHanded 30 = .ok (.iconst 1, 1) := by decide +kernel
theorem dX4_hasEmptyHanded_31 : decode cX4_hasEmptyHanded 31 = .ok (.ireturn, 1) := by decide +kernel
theorem dX4_hasEmptyHanded_32 : decode cX4_hasEmptyHanded 32 = .ok (.iinc 2 1, 3) := by decide +kernel
theorem dX4_hasEmptyHanded_35 : decode cX4_hasEmptyHanded 35 = .ok (.goto (-33), 3) := by decide +kernel
theorem dX4_hasEmptyHanded_38 : decode cX4_hasEmptyHanded 38 = .ok (.iconst 0, 1) := by decide +kernel
theorem dX4_hasEmptyHanded_39 : decode cX4_hasEmptyHanded 39 = .ok (.ireturn, 1) := by decide +kernel
theorem dX4_hardOnes_0 : decode cX4_hardOnes 0 = .ok (.iload_n 1, 1) := by decide +kernel
theorem dX4_hardOnes_1 : decode cX4_hardOnes 1 = .ok (.istore_n 2, 1) := by decide +kernel
theorem dX4_hardOnes_2 : decode cX4_hardOnes 2 = .ok (.iconst 0, 1) := by decide +kernel
theorem dX4_hardOnes_3 : decode cX4_hardOnes 3 = .ok (.istore_n 3, 1) := by decide +kernel
theorem dX4_hardOnes_4 : decode cX4_hardOnes 4 = .ok (.iload_n 3, 1) := by decide +kernel
theorem dX4_hardOnes_5 : decode cX4_hardOnes 5 = .ok (.bipush 12, 2) := by decide +kernel
theorem dX4_hardOnes_7 : decode cX4_hardOnes 7 = .ok (.if_icmp .ge 86, 3) := by decide +kernel
theorem dX4_hardOnes_10 : decode cX4_hardOnes 10 = .ok (.iload_n 2, 1) := by decide +kernel
theorem dX4_hardOnes_11 : decode cX4_hardOnes 11 = .ok (.istore 4, 2) := by decide +kernel
theorem dX4_hardOnes_13 : decode cX4_hardOnes 13 = .ok (.iconst 0, 1) := by decide +kernel
theorem dX4_hardOnes_14 : decode cX4_hardOnes 14 = .ok (.istore 5, 2) := by decide +kernel
theorem dX4_hardOnes_16 : decode cX4_hardOnes 16 = .ok (.iload 5, 2) := by decide +kernel
theorem dX4_hardOnes_18 : decode cX4_hardOnes 18 = .ok (.aload_n 0, 1) := by decide +kernel
theorem dX4_hardOnes_19 : decode cX4_hardOnes 19 = .ok (.getfield 22, 3) := by decide +kernel
theorem dX4_hardOnes_22 : decode cX4_hardOnes 22 = .ok (.getfield 26, 3) := by decide +kernel
theorem dX4_hardOnes_25 : decode cX4_hardOnes 25 = .ok (.if_icmp .ge 53, 3) := by decide +kernel
theorem dX4_hardOnes_28 : decode cX4_hardOnes 28 = .ok (.iload_n 2, 1) := by decide +kernel
theorem dX4_hardOnes_29 : decode cX4_hardOnes 29 = .ok (.iload 5, 2) := by decide +kernel
theorem dX4_hardOnes_31 : decode cX4_hardOnes 31 = .ok (.invokestatic 57, 3) := by decide +kernel
theorem dX4_hardOnes_34 : decode cX4_hardOnes 34 = .ok (.ifCond .eq 38, 3) := by decide +kernel
theorem dX4_hardOnes_37 : decode cX4_hardOnes 37 = .ok (.aload_n 0, 1) := by decide +kernel
theorem dX4_hardOnes_38 : decode cX4_hardOnes 38 = .ok (.getfield 9, 3) := by decide +kernel
theorem dX4_hardOnes_41 : decode cX4_hardOnes 41 = .ok (.iload 5, 2) := by decide +kernel
theorem dX4_hardOnes_43 : decode cX4_hardOnes 43 = .ok (.iaload, 1) := by decide +kernel
theorem dX4_hardOnes_44 : decode cX4_hardOnes 44 = .ok (.invokestatic 81, 3) := by decide +kernel
theorem dX4_hardOnes_47 : decode cX4_hardOnes 47 = .ok (.aload_n 0, 1) := by decide +kernel
theorem dX4_hardOnes_48 : decode cX4_hardOnes 48 = .ok (.getfield 22, 3) := by decide +kernel
theorem dX4_hardOnes_51 : decode cX4_hardOnes 51 = .ok (.getfield 61, 3) := by decide +kernel
theorem dX4_hardOnes_54 : decode cX4_hardOnes 54 = .ok (.iload 5, 2) := by decide +kernel
theorem dX4_hardOnes_56 : decode cX4_hardOnes 56 = .ok (.iaload, 1) := by decide +kernel
theorem dX4_hardOnes_57 : decode cX4_hardOnes 57 = .ok (.iload_n 2, 1) := by decide +kernel
theorem dX4_hardOnes_58 : decode cX4_hardOnes 58 = .ok (.iand, 1) := by decide +kernel
theorem dX4_hardOnes_59 : decode cX4_hardOnes 59 = .ok (.invokestatic 81, 3) := by decide +kernel
theorem dX4_hardOnes_62 : decode cX4_hardOnes 62 = .ok (.if_icmp .le 10, 3) := by decide +kernel
theorem dX4_hardOnes_65 : decode cX4_hardOnes 65 = .ok (.iload_n 2, 1) := by decide +kernel
theorem dX4_hardOnes_66 : decode cX4_hardOnes 66 = .ok (.iconst 1, 1) := by decide +kernel
theorem dX4_hardOnes_67 : decode cX4_hardOnes 67 = .ok (.iload 5, 2) := by decide +kernel
theorem dX4_hardOnes_69 : decode cX4_hardOnes 69 = .ok (.ishl, 1) := by decide +kernel
theorem dX4_hardOnes_70 : decode cX4_hardOnes 70 = .ok (.ixor, 1) := by decide +kernel
theorem dX4_hardOnes_71 : decode cX4_hardOnes 71 = .ok (.istore_n 2, 1) := by decide +kernel
theorem dX4_hardOnes_72 : decode cX4_hardOnes 72 = .ok (.iinc 5 1, 3) := by decide +kernel
theorem dX4_hardOnes_75 : decode cX4_hardOnes 75 = .ok (.goto (-59), 3) := by decide +kernel
theorem dX4_hardOnes_78 : decode cX4_hardOnes 78 = .ok (.iload_n 2, 1) := by decide +kernel
theorem dX4_hardOnes_79 : decode cX4_hardOnes 79 = .ok (.iload 4, 2) := by decide +kernel
theorem dX4_hardOnes_81 : decode cX4_hardOnes 81 = .ok (.if_icmp .ne 6, 3) := by decide +kernel
theorem dX4_hardOnes_84 : decode cX4_hardOnes 84 = .ok (.goto 9, 3) := by decide +kernel
theorem dX4_hardOnes_87 : decode cX4_hardOnes 87 = .ok (.iinc 3 1, 3) := by decide +kernel
theorem dX4_hardOnes_90 : decode cX4_hardOnes 90 = .ok (.goto (-86), 3) := by decide +kernel
theorem dX4_hardOnes_93 : decode cX4_hardOnes 93 = .ok (.iload_n 2, 1) := by decide +kernel
theorem dX4_hardOnes_94 : decode cX4_hardOnes 94 = .ok (.ireturn, 1) := by decide +kernel
theorem dX4_mostGiven_0 : decode cX4_mostGiven 0 = .ok (.aload_n 0, 1) := by decide +kernel
theorem dX4_mostGiven_1 : decode cX4_mostGiven 1 = .ok (.getfield 22, 3) := by decide +kernel
theorem dX4_mostGiven_4 : decode cX4_mostGiven 4 = .ok (.iload_n 1, 1) := by decide +kernel
theorem dX4_mostGiven_5 : decode cX4_mostGiven 5 = .ok (.invokevirtual 92, 3) := by decide +kernel
theorem dX4_mostGiven_8 : decode cX4_mostGiven 8 = .ok (.invokestatic 81, 3) := by decide +kernel
theorem dX4_mostGiven_11 : decode cX4_mostGiven 11 = .ok (.iconst 2, 1) := by decide +kernel
theorem dX4_mostGiven_12 : decode cX4_mostGiven 12 = .ok (.idiv, 1) := by decide +kernel
theorem dX4_mostGiven_13 : decode cX4_mostGiven 13 = .ok (.istore_n 2, 1) := by decide +kernel
theorem dX4_mostGiven_14 : decode cX4_mostGiven 14 = .ok (.iconst 0, 1) := by decide +kernel
theorem dX4_mostGiven_15 : decode cX4_mostGiven 15 = .ok (.istore_n 3, 1) := by decide +kernel
theorem dX4_mostGiven_16 : decode cX4_mostGiven 16 = .ok (.iconst 0, 1) := by decide +kernel
theorem dX4_mostGiven_17 : decode cX4_mostGiven 17 = .ok (.istore 4, 2) := by decide +kernel
theorem dX4_mostGiven_19 : decode cX4_mostGiven 19 = .ok (.iload 4, 2) := by decide +kernel
theorem dX4_mostGiven_21 : decode cX4_mostGiven 21 = .ok (.bipush 16, 2) := by decide +kernel
theorem dX4_mostGiven_23 : decode cX4_mostGiven 23 = .ok (.if_icmp .ge 26, 3) := by decide +kernel
theorem dX4_mostGiven_26 : decode cX4_mostGiven 26 = .ok (.iload_n 3, 1) := by decide +kernel
theorem dX4_mostGiven_27 : decode cX4_mostGiven 27 = .ok (.iload_n 2, 1) := by decide +kernel
theorem dX4_mostGiven_28 : decode cX4_mostGiven 28 = .ok (.aload_n 0, 1) := by decide +kernel
theorem dX4_mostGiven_29 : decode cX4_mostGiven 29 = .ok (.iload_n 1, 1) := by decide +kernel
theorem dX4_mostGiven_30 : decode cX4_mostGiven 30 = .ok (.iload 4, 2) := by decide +kernel
theorem dX4_mostGiven_32 : decode cX4_mostGiven 32 = .ok (.invokevirtual 64, 3) := by decide +kernel
theorem dX4_mostGiven_35 : decode cX4_mostGiven 35 = .ok (.invokestatic 81, 3) := by decide +kernel
theorem dX4_mostGiven_38 : decode cX4_mostGiven 38 = .ok (.invokestatic 95, 3) := by decide +kernel
theorem dX4_mostGiven_41 : decode cX4_mostGiven 41 = .ok (.iadd, 1) := by decide +kernel
theorem dX4_mostGiven_42 : decode cX4_mostGiven 42 = .ok (.istore_n 3, 1) := by decide +kernel
theorem dX4_mostGiven_43 : decode cX4_mostGiven 43 = .ok (.iinc 4 1, 3) := by decide +kernel
theorem dX4_mostGiven_46 : decode cX4_mostGiven 46 = .ok (.goto (-27), 3) := by decide +kernel
theorem dX4_mostGiven_49 : decode cX4_mostGiven 49 = .ok (.iload_n 3, 1) := by decide +kernel
theorem dX4_mostGiven_50 : decode cX4_mostGiven 50 = .ok (.ireturn, 1) := by decide +kernel
theorem dX4_clearLeft_0 : decode cX4_clearLeft 0 = .ok (.iconst 1, 1) := by decide +kernel
theorem dX4_clearLeft_1 : decode cX4_clearLeft 1 = .ok (.iload_n 1, 1) := by decide +kernel
theorem dX4_clearLeft_2 : decode cX4_clearLeft 2 = .ok (.invokestatic 81, 3) := by decide +kernel
theorem dX4_clearLeft_5 : decode cX4_clearLeft 5 = .ok (.ishl, 1) := by decide +kernel
theorem dX4_clearLeft_6 : decode cX4_clearLeft 6 = .ok (.istore_n 2, 1) := by decide +kernel
theorem dX4_clearLeft_7 : decode cX4_clearLeft 7 = .ok (.iconst 0, 1) := by decide +kernel
theorem dX4_clearLeft_8 : decode cX4_clearLeft 8 = .ok (.istore_n 3, 1) := by decide +kernel
theorem dX4_clearLeft_9 : decode cX4_clearLeft 9 = .ok (.iconst 0, 1) := by decide +kernel
theorem dX4_clearLeft_10 : decode cX4_clearLeft 10 = .ok (.istore 4, 2) := by decide +kernel
theorem dX4_clearLeft_12 : decode cX4_clearLeft 12 = .ok (.iload 4, 2) := by decide +kernel
theorem dX4_clearLeft_14 : decode cX4_clearLeft 14 = .ok (.iload_n 2, 1) := by decide +kernel
theorem dX4_clearLeft_15 : decode cX4_clearLeft 15 = .ok (.if_icmp .ge 22, 3) := by decide +kernel
theorem dX4_clearLeft_18 : decode cX4_clearLeft 18 = .ok (.aload_n 0, 1) := by decide +kernel
theorem dX4_clearLeft_19 : decode cX4_clearLeft 19 = .ok (.getfield 18, 3) := by decide +kernel
theorem dX4_clearLeft_22 : decode cX4_clearLeft 22 = .ok (.iload_n 3, 1) := by decide +kernel
theorem dX4_clearLeft_23 : decode cX4_clearLeft 23 = .ok (.iconst 0, 1) := by decide +kernel
theorem dX4_clearLeft_24 : decode cX4_clearLeft 24 = .ok (.bastore, 1) := by decide +kernel
theorem dX4_clearLeft_25 : decode cX4_clearLeft 25 = .ok (.iload_n 3, 1) := by decide +kernel
theorem dX4_clearLeft_26 : decode cX4_clearLeft 26 = .ok (.iload_n 1, 1) := by decide +kernel
theorem dX4_clearLeft_27 : decode cX4_clearLeft 27 = .ok (.isub, 1) := by decide +kernel
theorem dX4_clearLeft_28 : decode cX4_clearLeft 28 = .ok (.iload_n 1, 1) := by decide +kernel
theorem dX4_clearLeft_29 : decode cX4_clearLeft 29 = .ok (.iand, 1) := by decide +kernel
theorem dX4_clearLeft_30 : decode cX4_clearLeft 30 = .ok (.istore_n 3, 1) := by decide +kernel
theorem dX4_clearLeft_31 : decode cX4_clearLeft 31 = .ok (.iinc 4 1, 3) := by decide +kernel
theorem dX4_clearLeft_34 : decode cX4_clearLeft 34 = .ok (.goto (-22), 3) := by decide +kernel
theorem dX4_clearLeft_37 : decode cX4_clearLeft 37 = .ok (.return_, 1) := by decide +kernel
theorem dX4_giveNumber_0 : decode cX4_giveNumber 0 = .ok (.iconst 1, 1) := by decide +kernel
theorem dX4_giveNumber_1 : decode cX4_giveNumber 1 = .ok (.iload_n 1, 1) := by decide +kernel
theorem dX4_giveNumber_2 : decode cX4_giveNumber 2 = .ok (.invokestatic 81, 3) := by decide +kernel
theorem dX4_giveNumber_5 : decode cX4_giveNumber 5 = .ok (.ishl, 1) := by decide +kernel
theorem dX4_giveNumber_6 : decode cX4_giveNumber 6 = .ok (.istore_n 3, 1) := by decide +kernel
theorem dX4_giveNumber_7 : decode cX4_giveNumber 7 = .ok (.iconst 0, 1) := by decide +kernel
theorem dX4_giveNumber_8 : decode cX4_giveNumber 8 = .ok (.istore 4, 2) := by decide +kernel
theorem dX4_giveNumber_10 : decode cX4_giveNumber 10 = .ok (.iconst 0, 1) := by decide +kernel
theorem dX4_giveNumber_11 : decode cX4_giveNumber 11 = .ok (.istore 5, 2) := by decide +kernel
theorem dX4_giveNumber_13 : decode cX4_giveNumber 13 = .ok (.iload 5, 2) := by decide +kernel
theorem dX4_giveNumber_15 : decode cX4_giveNumber 15 = .ok (.iload_n 3, 1) := by decide +kernel
theorem dX4_giveNumber_16 : decode cX4_giveNumber 16 = .ok (.if_icmp .ge 53, 3) := by decide +kernel
theorem dX4_giveNumber_19 : decode cX4_giveNumber 19 = .ok (.aload_n 0, 1) := by decide +kernel
theorem dX4_giveNumber_20 : decode cX4_giveNumber 20 = .ok (.getfield 18, 3) := by decide +kernel
theorem dX4_giveNumber_23 : decode cX4_giveNumber 23 = .ok (.iload 4, 2) := by decide +kernel
theorem dX4_giveNumber_25 : decode cX4_giveNumber 25 = .ok (.baload, 1) := by decide +kernel
theorem dX4_giveNumber_26 : decode cX4_giveNumber 26 = .ok (.ifCond .eq 29, 3) := by decide +kernel
theorem dX4_giveNumber_29 : decode cX4_giveNumber 29 = .ok (.iload 4, 2) := by decide +kernel
theorem dX4_giveNumber_31 : decode cX4_giveNumber 31 = .ok (.iload_n 2, 1) := by decide +kernel
theorem dX4_giveNumber_32 : decode cX4_giveNumber 32 = .ok (.iand, 1) := by decide +kernel
theorem dX4_giveNumber_33 : decode cX4_giveNumber 33 = .ok (.ifCond .eq 22, 3) := by decide +kernel
theorem dX4_giveNumber_36 : decode cX4_giveNumber 36 = .ok (.aload_n 0, 1) := by decide +kernel
theorem dX4_giveNumber_37 : decode cX4_giveNumber 37 = .ok (.getfield 18, 3) := by decide +kernel
theorem dX4_giveNumber_40 : decode cX4_giveNumber 40 = .ok (.iload 4, 2) := by decide +kernel
theorem dX4_giveNumber_42 : decode cX4_giveNumber 42 = .ok (.iconst 0, 1) := by decide +kernel
theorem dX4_giveNumber_43 : decode cX4_giveNumber 43 = .ok (.bastore, 1) := by decide +kernel
theorem dX4_giveNumber_44 : decode cX4_giveNumber 44 = .ok (.aload_n 0, 1) := by decide +kernel
theorem dX4_giveNumber_45 : decode cX4_giveNumber 45 = .ok (.iload 4, 2) := by decide +kernel
theorem dX4_giveNumber_47 : decode cX4_giveNumber 47 = .ok (.iload 4, 2) := by decide +kernel
theorem dX4_giveNumber_49 : decode cX4_giveNumber 49 = .ok (.iload_n 2, 1) := by decide +kernel
theorem dX4_giveNumber_50 : decode cX4_giveNumber 50 = .ok (.iand, 1) := by decide +kernel
theorem dX4_giveNumber_51 : decode cX4_giveNumber 51 = .ok (.iconst 0, 1) := by decide +kernel
theorem dX4_giveNumber_52 : decode cX4_giveNumber 52 = .ok (.invokevirtual 100, 3) := by decide +kernel
theorem dX4_giveNumber_55 : decode cX4_giveNumber 55 = .ok (.iload 4, 2) := by decide +kernel
theorem dX4_giveNumber_57 : decode cX4_giveNumber 57 = .ok (.iload_n 1, 1) := by decide +kernel
theorem dX4_giveNumber_58 : decode cX4_giveNumber 58 = .ok (.isub, 1) := by decide +kernel
theorem dX4_giveNumber_59 : decode cX4_giveNumber 59 = .ok (.iload_n 1, 1) := by decide +kernel
theorem dX4_giveNumber_60 : decode cX4_giveNumber 60 = .ok (.iand, 1) := by decide +kernel
theorem dX4_giveNumber_61 : decode cX4_giveNumber 61 = .ok (.istore 4, 2) := by decide +kernel
theorem dX4_giveNumber_63 : decode cX4_giveNumber 63 = .ok (.iinc 5 1, 3) := by decide +kernel
theorem dX4_giveNumber_66 : decode cX4_giveNumber 66 = .ok (.goto (-53), 3) := by decide +kernel
theorem dX4_giveNumber_69 : decode cX4_giveNumber 69 = .ok (.return_, 1) := by decide +kernel
theorem dX4_takeOut_0 : decode cX4_takeOut 0 = .ok (.iload_n 2, 1) := by decide +kernel
theorem dX4_takeOut_1 : decode cX4_takeOut 1 = .ok (.ifCond .ne 10, 3) := by decide +kernel
theorem dX4_takeOut_4 : decode cX4_takeOut 4 = .ok (.aload_n 0, 1) := by decide +kernel
theorem dX4_takeOut_5 : decode cX4_takeOut 5 = .ok (.getfield 18, 3) := by decide +kernel
theorem dX4_takeOut_8 : decode cX4_takeOut 8 = .ok (.iload_n 1, 1) := by decide +kernel
theorem dX4_takeOut_9 : decode cX4_takeOut 9 = .ok (.iconst 1, 1) := by decide +kernel
theorem dX4_takeOut_10 : decode cX4_takeOut 10 = .ok (.bastore, 1) := by decide +kernel
theorem dX4_takeOut_11 : decode cX4_takeOut 11 = .ok (.iload_n 2, 1) := by decide +kernel
theorem dX4_takeOut_12 : decode cX4_takeOut 12 = .ok (.ifCond .eq 9, 3) := by decide +kernel
theorem dX4_takeOut_15 : decode cX4_takeOut 15 = .ok (.iload_n 3, 1) := by decide +kernel
theorem dX4_takeOut_16 : decode cX4_takeOut 16 = .ok (.bipush 12, 2) := by decide +kernel
theorem dX4_takeOut_18 : decode cX4_takeOut 18 = .ok (.if_icmp .lt 4, 3) := by decide +kernel
theorem dX4_takeOut_21 : decode cX4_takeOut 21 = .ok (.return_, 1) := by decide +kernel
theorem dX4_takeOut_22 : decode cX4_takeOut 22 = .ok (.iconst 0, 1) := by decide +kernel
theorem dX4_takeOut_23 : decode cX4_takeOut 23 = .ok (.istore 4, 2) := by decide +kernel
theorem dX4_takeOut_25 : decode cX4_takeOut 25 = .ok (.iconst 0, 1) := by decide +kernel
theorem dX4_takeOut_26 : decode cX4_takeOut 26 = .ok (.istore 5, 2) := by decide +kernel
theorem dX4_takeOut_28 : decode cX4_takeOut 28 = .ok (.iload 5, 2) := by decide +kernel
theorem dX4_takeOut_30 : decode cX4_takeOut 30 = .ok (.aload_n 0, 1) := by decide +kernel
theorem dX4_takeOut_31 : decode cX4_takeOut 31 = .ok (.getfield 22, 3) := by decide +kernel
theorem dX4_takeOut_34 : decode cX4_takeOut 34 = .ok (.getfield 26, 3) := by decide +kernel
theorem dX4_takeOut_37 : decode cX4_takeOut 37 = .ok (.if_icmp .ge 84, 3) := by decide +kernel
theorem dX4_takeOut_40 : decode cX4_takeOut 40 = .ok (.iload 4, 2) := by decide +kernel
theorem dX4_takeOut_42 : decode cX4_takeOut 42 = .ok (.ifCond .ne 31, 3) := by decide +kernel
theorem dX4_takeOut_45 : decode cX4_takeOut 45 = .ok (.iload_n 2, 1) := by decide +kernel
theorem dX4_takeOut_46 : decode cX4_takeOut 46 = .ok (.iload 5, 2) := by decide +kernel
theorem dX4_takeOut_48 : decode cX4_takeOut 48 = .ok (.invokestatic 57, 3) := by decide +kernel
theorem dX4_takeOut_51 : decode cX4_takeOut 51 = .ok (.ifCond .eq 22, 3) := by decide +kernel
theorem dX4_takeOut_54 : decode cX4_takeOut 54 = .ok (.iconst 1, 1) := by decide +kernel
theorem dX4_takeOut_55 : decode cX4_takeOut 55 = .ok (.iload 5, 2) := by decide +kernel
theorem dX4_takeOut_57 : decode cX4_takeOut 57 = .ok (.ishl, 1) := by decide +kernel
theorem dX4_takeOut_58 : decode cX4_takeOut 58 = .ok (.aload_n 0, 1) := by decide +kernel
theorem dX4_takeOut_59 : decode cX4_takeOut 59 = .ok (.getfield 22, 3) := by decide +kernel
theorem dX4_takeOut_62 : decode cX4_takeOut 62 = .ok (.getfield 61, 3) := by decide +kernel
theorem dX4_takeOut_65 : decode cX4_takeOut 65 = .ok (.iload 5, 2) := by decide +kernel
theorem dX4_takeOut_67 : decode cX4_takeOut 67 = .ok (.iaload, 1) := by decide +kernel
theorem dX4_takeOut_68 : decode cX4_takeOut 68 = .ok (.ior, 1) := by decide +kernel
theorem dX4_takeOut_69 : decode cX4_takeOut 69 = .ok (.iload_n 2, 1) := by decide +kernel
theorem dX4_takeOut_70 : decode cX4_takeOut 70 = .ok (.iand, 1) := by decide +kernel
theorem dX4_takeOut_71 : decode cX4_takeOut 71 = .ok (.istore 4, 2) := by decide +kernel
theorem dX4_takeOut_73 : decode cX4_takeOut 73 = .ok (.iload 4, 2) := by decide +kernel
theorem dX4_takeOut_75 : decode cX4_takeOut 75 = .ok (.iload 5, 2) := by decide +kernel
theorem dX4_takeOut_77 : decode cX4_takeOut 77 = .ok (.invokestatic 57, 3) := by decide +kernel
theorem dX4_takeOut_80 : decode cX4_takeOut 80 = .ok (.ifCond .eq 35, 3) := by decide +kernel
theorem dX4_takeOut_83 : decode cX4_takeOut 83 = .ok (.aload_n 0, 1) := by decide +kernel
theorem dX4_takeOut_84 : decode cX4_takeOut 84 = .ok (.iload_n 1, 1) := by decide +kernel
theorem dX4_takeOut_85 : decode cX4_takeOut 85 = .ok (.iconst 1, 1) := by decide +kernel
theorem dX4_takeOut_86 : decode cX4_takeOut 86 = .ok (.iload 5, 2) := by decide +kernel
theorem dX4_takeOut_88 : decode cX4_takeOut 88 = .ok (.ishl, 1) := by decide +kernel
theorem dX4_takeOut_89 : decode cX4_takeOut 89 = .ok (.ixor, 1) := by decide +kernel
theorem dX4_takeOut_90 : decode cX4_takeOut 90 = .ok (.iload_n 2, 1) := by decide +kernel
theorem dX4_takeOut_91 : decode cX4_takeOut 91 = .ok (.iconst 1, 1) := by decide +kernel
theorem dX4_takeOut_92 : decode cX4_takeOut 92 = .ok (.iload 5, 2) := by decide +kernel
theorem dX4_takeOut_94 : decode cX4_takeOut 94 = .ok (.ishl, 1) := by decide +kernel
theorem dX4_takeOut_95 : decode cX4_takeOut 95 = .ok (.aload_n 0, 1) := by decide +kernel
theorem dX4_takeOut_96 : decode cX4_takeOut 96 = .ok (.getfield 22, 3) := by decide +kernel
theorem dX4_takeOut_99 : decode cX4_takeOut 99 = .ok (.getfield 61, 3) := by decide +kernel
theorem dX4_takeOut_102 : decode cX4_takeOut 102 = .ok (.iload 5, 2) := by decide +kernel
theorem dX4_takeOut_104 : decode cX4_takeOut 104 = .ok (.iaload, 1) := by decide +kernel
theorem dX4_takeOut_105 : decode cX4_takeOut 105 = .ok (.ior, 1) := by decide +kernel
theorem dX4_takeOut_106 : decode cX4_takeOut 106 = .ok (.iconst (-1), 1) := by decide +kernel
theorem dX4_takeOut_107 : decode cX4_takeOut 107 = .ok (.ixor, 1) := by decide +kernel
theorem dX4_takeOut_108 : decode cX4_takeOut 108 = .ok (.iand, 1) := by decide +kernel
theorem dX4_takeOut_109 : decode cX4_takeOut 109 = .ok (.iload_n 3, 1) := by decide +kernel
theorem dX4_takeOut_110 : decode cX4_takeOut 110 = .ok (.iconst 1, 1) := by decide +kernel
theorem dX4_takeOut_111 : decode cX4_takeOut 111 = .ok (.iadd, 1) := by decide +kernel
theorem dX4_takeOut_112 : decode cX4_takeOut 112 = .ok (.invokevirtual 100, 3) := by decide +kernel
theorem dX4_takeOut_115 : decode cX4_takeOut 115 = .ok (.iinc 5 1, 3) := by decide +kernel
theorem dX4_takeOut_118 : decode cX4_takeOut 118 = .ok (.goto (-90), 3) := by decide +kernel
theorem dX4_takeOut_121 : decode cX4_takeOut 121 = .ok (.return_, 1) := by decide +kernel
theorem dX5_init_0 : decode cX5_init 0 = .ok (.aload_n 0, 1) := by decide +kernel
theorem dX5_init_1 : decode cX5_init 1 = .ok (.invokespecial 3, 3) := by decide +kernel
theorem dX5_init_4 : decode cX5_init 4 = .ok (.aload_n 0, 1) := by decide +kernel
theorem dX5_init_5 : decode cX5_init 5 = .ok (.bipush 81, 2) := by decide +kernel
theorem dX5_init_7 : decode cX5_init 7 = .ok (.newarray .int, 2) := by decide +kernel
theorem dX5_init_9 : decode cX5_init 9 = .ok (.putfield 9, 3) := by decide +kernel
theorem dX5_init_12 : decode cX5_init 12 = .ok (.aload_n 0, 1) := by decide +kernel
theorem dX5_init_13 : decode cX5_init 13 = .ok (.bipush 9, 2) := by decide +kernel
theorem dX5_init_15 : decode cX5_init 15 = .ok (.newarray .int, 2) := by decide +kernel
theorem dX5_init_17 : decode cX5_init 17 = .ok (.putfield 15, 3) := by decide +kernel
theorem dX5_init_20 : decode cX5_init 20 = .ok (.aload_n 0, 1) := by decide +kernel
theorem dX5_init_21 : decode cX5_init 21 = .ok (.sipush 512, 3) := by decide +kernel
theorem dX5_init_24 : decode cX5_init 24 = .ok (.newarray .int, 2) := by decide +kernel
theorem dX5_init_26 : decode cX5_init 26 = .ok (.putfield 18, 3) := by decide +kernel
theorem dX5_init_29 : decode cX5_init 29 = .ok (.aload_n 0, 1) := by decide +kernel
theorem dX5_init_30 : decode cX5_init 30 = .ok (.iconst (-1), 1) := by decide +kernel
theorem dX5_init_31 : decode cX5_init 31 = .ok (.putfield 21, 3) := by decide +kernel
theorem dX5_init_34 : decode cX5_init 34 = .ok (.aload_n 0, 1) := by decide +kernel
theorem dX5_init_35 : decode cX5_init 35 = .ok (.iconst 0, 1) := by decide +kernel
theorem dX5_init_36 : decode cX5_init 36 = .ok (.putfield 25, 3) := by decide +kernel
theorem dX5_init_39 : decode cX5_init 39 = .ok (.return_, 1) := by decide +kernel
theorem dX5_begin_0 : decode cX5_begin 0 = .ok (.aload_n 0, 1) := by decide +kernel
theorem dX5_begin_1 : decode cX5_begin 1 = .ok (.getfield 21, 3) := by decide +kernel
theorem dX5_begin_4 : decode cX5_begin 4 = .ok (.istore_n 2, 1) := by decide +kernel
theorem dX5_begin_5 : decode cX5_begin 5 = .ok (.aload_n 0, 1) := by decide +kernel
theorem dX5_begin_6 : decode cX5_begin 6 = .ok (.iload_n 1, 1) := by decide +kernel
theorem dX5_begin_7 : decode cX5_begin 7 = .ok (.putfield 21, 3) := by decide +kernel
theorem dX5_begin_10 : decode cX5_begin 10 = .ok (.aload_n 0, 1) := by decide +kernel
theorem dX5_begin_11 : decode cX5_begin 11 = .ok (.iconst 0, 1) := by decide +kernel
theorem dX5_begin_12 : decode cX5_begin 12 = .ok (.putfield 25, 3) := by decide +kernel
theorem dX5_begin_15 : decode cX5_begin 15 = .ok (.iconst 0, 1) := by decide +kernel
theorem dX5_begin_16 : decode cX5_begin 16 = .ok (.istore_n 3, 1) := by decide +kernel
theorem dX5_begin_17 : decode cX5_begin 17 = .ok (.iload_n 3, 1) := by decide +kernel
theorem dX5_begin_18 : decode cX5_begin 18 = .ok (.aload_n 0, 1) := by decide +kernel
theorem dX5_begin_19 : decode cX5_begin 19 = .ok (.getfield 21, 3) := by decide +kernel
theorem dX5_begin_22 : decode cX5_begin 22 = .ok (.if_icmp .ge 16, 3) := by decide +kernel
theorem dX5_begin_25 : decode cX5_begin 25 = .ok (.aload_n 0, 1) := by decide +kernel
theorem dX5_begin_26 : decode cX5_begin 26 = .ok (.getfield 15, 3) := by decide +kernel
theorem dX5_begin_29 : decode cX5_begin 29 = .ok (.iload_n 3, 1) := by decide +kernel
theorem dX5_begin_30 : decode cX5_begin 30 = .ok (.iconst 0, 1) := by decide +kernel
theorem dX5_begin_31 : decode cX5_begin 31 = .ok (.iastore, 1) := by decide +kernel
theorem dX5_begin_32 : decode cX5_begin 32 = .ok (.iinc 3 1, 3) := by decide +kernel
theorem dX5_begin_35 : decode cX5_begin 35 = .ok (.goto (-18), 3) := by decide +kernel
theorem dX5_begin_38 : decode cX5_begin 38 = .ok (.iload_n 2, 1) := by decide +kernel
theorem dX5_begin_39 : decode cX5_begin 39 = .ok (.ireturn, 1) := by decide +kernel
theorem dX5_hasRoom_0 : decode cX5_hasRoom 0 = .ok (.aload_n 0, 1) := by decide +kernel
theorem dX5_hasRoom_1 : decode cX5_hasRoom 1 = .ok (.getfield 25, 3) := by decide +kernel
theorem dX5_hasRoom_4 : decode cX5_hasRoom 4 = .ok (.aload_n 0, 1) := by decide +kernel
theorem dX5_hasRoom_5 : decode cX5_hasRoom 5 = .ok (.getfield 21, 3) := by decide +kernel
theorem dX5_hasRoom_8 : decode cX5_hasRoom 8 = .ok (.if_icmp .ge 7, 3) := by decide +kernel
theorem dX5_hasRoom_11 : decode cX5_hasRoom 11 = .ok (.iconst 1, 1) := by decide +kernel
theorem dX5_hasRoom_12 : decode cX5_hasRoom 12 = .ok (.goto 4, 3) := by decide +kernel
theorem dX5_hasRoom_15 : decode cX5_hasRoom 15 = .ok (.iconst 0, 1) := by decide +kernel
theorem dX5_hasRoom_16 : decode cX5_hasRoom 16 = .ok (.ireturn, 1) := by decide +kernel
theorem dX5_allNumbers_0 : decode cX5_allNumbers 0 = .ok (.iconst 1, 1) := by decide +kernel
theorem dX5_allNumbers_1 : decode cX5_allNumbers 1 = .ok (.aload_n 0, 1) := by decide +kernel
theorem dX5_allNumbers_2 : decode cX5_allNumbers 2 = .ok (.getfield 21, 3) := by decide +kernel
theorem dX5_allNumbers_5 : decode cX5_allNumbers 5 = .ok (.ishl, 1) := by decide +kernel
theorem dX5_allNumbers_6 : decode cX5_allNumbers 6 = .ok (.iconst 1, 1) := by decide +kernel
theorem dX5_allNumbers_7 : decode cX5_allNumbers 7 = .ok (.isub, 1) := by decide +kernel
theorem dX5_allNumbers_8 : decode cX5_allNumbers 8 = .ok (.ireturn, 1) := by decide +kernel
theorem dX5_canStandNext_0 : decode cX5_canStandNext 0 = .ok (.iload_n 1, 1) := by decide +kernel
theorem dX5_canStandNext_1 : decode cX5_canStandNext 1 = .ok (.ifCond .ge 5, 3) := by decide +kernel
theorem dX5_canStandNext_4 : decode cX5_canStandNext 4 = .ok (.iconst 0, 1) := by decide +kernel
theorem dX5_canStandNext_5 : decode cX5_canStandNext 5 = .ok (.ireturn, 1) := by decide +kernel
theorem dX5_canStandNext_6 : decode cX5_canStandNext 6 = .ok (.aload_n 0, 1) := by decide +kernel
theorem dX5_canStandNext_7 : decode cX5_canStandNext 7 = .ok (.invokevirtual 28, 3) := by decide +kernel
theorem dX5_canStandNext_10 : decode cX5_canStandNext 10 = .ok (.istore_n 2, 1) := by decide +kernel
theorem dX5_canStandNext_11 : decode cX5_canStandNext 11 = .ok (.iload_n 1, 1) := by decide +kernel
theorem dX5_canStandNext_12 : decode cX5_canStandNext 12 = .ok (.istore_n 3, 1) := by decide +kernel
theorem dX5_canStandNext_13 : decode cX5_canStandNext 13 = .ok (.aload_n 0, 1) := by decide +kernel
theorem dX5_canStandNext_14 : decode cX5_canStandNext 14 = .ok (.getfield 21, 3) := by decide +kernel
theorem dX5_canStandNext_17 : decode cX5_canStandNext 17 = .ok (.iconst 1, 1) := by decide +kernel
theorem dX5_canStandNext_18 : decode cX5_canStandNext 18 = .ok (.isub, 1) := by decide +kernel
theorem dX5_canStandNext_19 : decode cX5_canStandNext 19 = .ok (.istore 4, 2) := by decide +kernel
theorem dX5_canStandNext_21 : decode cX5_canStandNext 21 = .ok (.iload 4, 2) := by decide +kernel
theorem dX5_canStandNext_23 : decode cX5_canStandNext 23 = .ok (.ifCond .lt 48, 3) := by decide +kernel
theorem dX5_canStandNext_26 : decode cX5_canStandNext 26 = .ok (.iload_n 3, 1) := by decide +kernel
theorem dX5_canStandNext_27 : decode cX5_canStandNext 27 = .ok (.bipush 10, 2) := by decide +kernel
theorem dX5_canStandNext_29 : decode cX5_canStandNext 29 = .ok (.irem, 1) := by decide +kernel
theorem dX5_canStandNext_30 : decode cX5_canStandNext 30 = .ok (.istore 5, 2) := by decide +kernel
theorem dX5_canStandNext_32 : decode cX5_canStandNext 32 = .ok (.iload_n 2, 1) := by decide +kernel
theorem dX5_canStandNext_33 : decode cX5_canStandNext 33 = .ok (.aload_n 0, 1) := by decide +kernel
theorem dX5_canStandNext_34 : decode cX5_canStandNext 34 = .ok (.getfield 15, 3) := by decide +kernel
theorem dX5_canStandNext_37 : decode cX5_canStandNext 37 = .ok (.iload 4, 2) := by decide +kernel
theorem dX5_canStandNext_39 : decode cX5_canStandNext 39 = .ok (.iaload, 1) := by decide +kernel
theorem dX5_canStandNext_40 : decode cX5_canStandNext 40 = .ok (.iconst (-1), 1) := by decide +kernel
theorem dX5_canStandNext_41 : decode cX5_canStandNext 41 = .ok (.ixor, 1) := by decide +kernel
theorem dX5_canStandNext_42 : decode cX5_canStandNext 42 = .ok (.iand, 1) := by decide +kernel
theorem dX5_canStandNext_43 : decode cX5_canStandNext 43 = .ok (.iload 5, 2) := by decide +kernel
theorem dX5_canStandNext_45 : decode cX5_canStandNext 45 = .ok (.invokestatic 32, 3) := by decide +kernel
theorem dX5_canStandNext_48 : decode cX5_canStandNext 48 = .ok (.ifCond .ne 5, 3) := by decide +kernel
theorem dX5_canStandNext_51 : decode cX5_canStandNext 51 = .ok (.iconst 0, 1) := by decide +kernel
theorem dX5_canStandNext_52 : decode cX5_canStandNext 52 = .ok (.ireturn, 1) := by decide +kernel
theorem dX5_canStandNext_53 : decode cX5_canStandNext 53 = .ok (.iload_n 2, 1) := by decide +kernel
theorem dX5_canStandNext_54 : decode cX5_canStandNext 54 = .ok (.iconst 1, 1) := by decide +kernel
theorem dX5_canStandNext_55 : decode cX5_canStandNext 55 = .ok (.iload 5, 2) := by decide +kernel
theorem dX5_canStandNext_57 : decode cX5_canStandNext 57 = .ok (.ishl, 1) := by decide +kernel
theorem dX5_canStandNext_58 : decode cX5_canStandNext 58 = .ok (.ixor, 1) := by decide +kernel
theorem dX5_canStandNext_59 : decode cX5_canStandNext 59 = .ok (.istore_n 2, 1) := by decide +kernel
theorem dX5_canStandNext_60 : decode cX5_canStandNext 60 = .ok (.iload_n 3, 1) := by decide +kernel
theorem dX5_canStandNext_61 : decode cX5_canStandNext 61 = .ok (.bipush 10, 2) := by decide +kernel
theorem dX5_canStandNext_63 : decode cX5_canStandNext 63 = .ok (.idiv, 1) := by decide +kernel
theorem dX5_canStandNext_64 : decode cX5_canStandNext 64 = .ok (.istore_n 3, 1) := by decide +kernel
theorem dX5_canStandNext_65 : decode cX5_canStandNext 65 = .ok (.iinc 4 (-1), 3) := by decide +kernel
theorem dX5_canStandNext_68 : decode cX5_canStandNext 68 = .ok (.goto (-47), 3) := by decide +kernel
theorem dX5_canStandNext_71 : decode cX5_canStandNext 71 = .ok (.iload_n 3, 1) := by decide +kernel
theorem dX5_canStandNext_72 : decode cX5_canStandNext 72 = .ok (.ifCond .ne 7, 3) := by decide +kernel
theorem dX5_canStandNext_75 : decode cX5_canStandNext 75 = .ok (.iconst 1, 1) := by decide +kernel
theorem dX5_canStandNext_76 : decode cX5_canStandNext 76 = .ok (.goto 4, 3) := by decide +kernel
theorem dX5_canStandNext_79 : decode cX5_canStandNext 79 = .ok (.iconst 0, 1) := by decide +kernel
theorem dX5_canStandNext_80 : decode cX5_canStandNext 80 = .ok (.ireturn, 1) := by decide +kernel
theorem dX5_append_0 : decode cX5_append 0 = .ok (.iload_n 1, 1) := by decide +kernel
theorem dX5_append_1 : decode cX5_append 1 = .ok (.istore_n 2, 1) := by decide +kernel
theorem dX5_append_2 : decode cX5_append 2 = .ok (.aload_n 0, 1) := by decide +kernel
theorem dX5_append_3 : decode cX5_append 3 = .ok (.getfield 21, 3) := by decide +kernel
theorem dX5_append_6 : decode cX5_append 6 = .ok (.iconst 1, 1) := by decide +kernel
theorem dX5_append_7 : decode cX5_append 7 = .ok (.isub, 1) := by decide +kernel
theorem dX5_append_8 : decode cX5_append 8 = .ok (.istore_n 3, 1) := by decide +kernel
theorem dX5_append_9 : decode cX5_append 9 = .ok (.iload_n 3, 1) := by decide +kernel
theorem dX5_append_10 : decode cX5_append 10 = .ok (.ifCond .lt 49, 3) := by decide +kernel
theorem dX5_append_13 : decode cX5_append 13 = .ok (.iload_n 2, 1) := by decide +kernel
theorem dX5_append_14 : decode cX5_append 14 = .ok (.bipush 10, 2) := by decide +kernel
theorem dX5_append_16 : decode cX5_append 16 = .ok (.irem, 1) := by decide +kernel
theorem dX5_append_17 : decode cX5_append 17 = .ok (.istore 4, 2) := by decide +kernel
theorem dX5_append_19 : decode cX5_append 19 = .ok (.aload_n 0, 1) := by decide +kernel
theorem dX5_append_20 : decode cX5_append 20 = .ok (.getfield 9, 3) := by decide +kernel
theorem dX5_append_23 : decode cX5_append 23 = .ok (.aload_n 0, 1) := by decide +kernel
theorem dX5_append_24 : decode cX5_append 24 = .ok (.getfield 25, 3) := by decide +kernel
theorem dX5_append_27 : decode cX5_append 27 = .ok (.bipush 9, 2) := by decide +kernel
theorem dX5_append_29 : decode cX5_append 29 = .ok (.imul, 1) := by decide +kernel
theorem dX5_append_30 : decode cX5_append 30 = .ok (.iload_n 3, 1) := by decide +kernel
theorem dX5_append_31 : decode cX5_append 31 = .ok (.iadd, 1) := by decide +kernel
theorem dX5_append_32 : decode cX5_append 32 = .ok (.iload 4, 2) := by decide +kernel
theorem dX5_append_34 : decode cX5_append 34 = .ok (.iastore, 1) := by decide +kernel
theorem dX5_append_35 : decode cX5_append 35 = .ok (.aload_n 0, 1) := by decide +kernel
theorem dX5_append_36 : decode cX5_append 36 = .ok (.getfield 15, 3) := by decide +kernel
theorem dX5_append_39 : decode cX5_append 39 = .ok (.iload_n 3, 1) := by decide +kernel
theorem dX5_append_40 : decode cX5_append 40 = .ok (.dup2, 1) := by decide +kernel
theorem dX5_append_41 : decode cX5_append 41 = .ok (.iaload, 1) := by decide +kernel
theorem dX5_append_42 : decode cX5_append 42 = .ok (.iconst 1, 1) := by decide +kernel
theorem dX5_append_43 : decode cX5_append 43 = .ok (.iload 4, 2) := by decide +kernel
theorem dX5_append_45 : decode cX5_append 45 = .ok (.ishl, 1) := by decide +kernel
theorem dX5_append_46 : decode cX5_append 46 = .ok (.ior, 1) := by decide +kernel
