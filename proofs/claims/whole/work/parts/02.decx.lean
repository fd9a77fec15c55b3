theorem dX0_init_0 : decode cX0_init 0 = .ok (.aload_n 0, 1) := by decide +kernel
theorem dX0_init_1 : decode cX0_init 1 = .ok (.invokespecial 1, 3) := by decide +kernel
theorem dX0_init_4 : decode cX0_init 4 = .ok (.aload_n 0, 1) := by decide +kernel
theorem dX0_init_5 : decode cX0_init 5 = .ok (.aload_n 1, 1) := by decide +kernel
theorem dX0_init_6 : decode cX0_init 6 = .ok (.putfield 7, 3) := by decide +kernel
theorem dX0_init_9 : decode cX0_init 9 = .ok (.return_, 1) := by decide +kernel
theorem dX0_howMany_0 : decode cX0_howMany 0 = .ok (.getstatic 13, 3) := by decide +kernel
theorem dX0_howMany_3 : decode cX0_howMany 3 = .ok (.aload_n 0, 1) := by decide +kernel
theorem dX0_howMany_4 : decode cX0_howMany 4 = .ok (.getfield 7, 3) := by decide +kernel
theorem dX0_howMany_7 : decode cX0_howMany 7 = .ok (.getfield 19, 3) := by decide +kernel
theorem dX0_howMany_10 : decode cX0_howMany 10 = .ok (.iaload, 1) := by decide +kernel
theorem dX0_howMany_11 : decode cX0_howMany 11 = .ok (.ireturn, 1) := by decide +kernel
theorem dX0_ordersThatPart_0 : decode cX0_ordersThatPart 0 = .ok (.aload_n 0, 1) := by decide +kernel
theorem dX0_ordersThatPart_1 : decode cX0_ordersThatPart 1 = .ok (.iload_n 1, 1) := by decide +kernel
theorem dX0_ordersThatPart_2 : decode cX0_ordersThatPart 2 = .ok (.iload_n 3, 1) := by decide +kernel
theorem dX0_ordersThatPart_3 : decode cX0_ordersThatPart 3 = .ok (.invokevirtual 25, 3) := by decide +kernel
theorem dX0_ordersThatPart_6 : decode cX0_ordersThatPart 6 = .ok (.aload_n 0, 1) := by decide +kernel
theorem dX0_ordersThatPart_7 : decode cX0_ordersThatPart 7 = .ok (.iload_n 2, 1) := by decide +kernel
theorem dX0_ordersThatPart_8 : decode cX0_ordersThatPart 8 = .ok (.iload_n 3, 1) := by decide +kernel
theorem dX0_ordersThatPart_9 : decode cX0_ordersThatPart 9 = .ok (.invokevirtual 25, 3) := by decide +kernel
theorem dX0_ordersThatPart_12 : decode cX0_ordersThatPart 12 = .ok (.ior, 1) := by decide +kernel
theorem dX0_ordersThatPart_13 : decode cX0_ordersThatPart 13 = .ok (.invokestatic 29, 3) := by decide +kernel
theorem dX0_ordersThatPart_16 : decode cX0_ordersThatPart 16 = .ok (.istore 4, 2) := by decide +kernel
theorem dX0_ordersThatPart_18 : decode cX0_ordersThatPart 18 = .ok (.aload_n 0, 1) := by decide +kernel
theorem dX0_ordersThatPart_19 : decode cX0_ordersThatPart 19 = .ok (.iload_n 1, 1) := by decide +kernel
theorem dX0_ordersThatPart_20 : decode cX0_ordersThatPart 20 = .ok (.iload_n 3, 1) := by decide +kernel
theorem dX0_ordersThatPart_21 : decode cX0_ordersThatPart 21 = .ok (.invokevirtual 25, 3) := by decide +kernel
theorem dX0_ordersThatPart_24 : decode cX0_ordersThatPart 24 = .ok (.aload_n 0, 1) := by decide +kernel
theorem dX0_ordersThatPart_25 : decode cX0_ordersThatPart 25 = .ok (.iload_n 2, 1) := by decide +kernel
theorem dX0_ordersThatPart_26 : decode cX0_ordersThatPart 26 = .ok (.iload_n 3, 1) := by decide +kernel
theorem dX0_ordersThatPart_27 : decode cX0_ordersThatPart 27 = .ok (.invokevirtual 25, 3) := by decide +kernel
theorem dX0_ordersThatPart_30 : decode cX0_ordersThatPart 30 = .ok (.ixor, 1) := by decide +kernel
theorem dX0_ordersThatPart_31 : decode cX0_ordersThatPart 31 = .ok (.invokestatic 29, 3) := by decide +kernel
theorem dX0_ordersThatPart_34 : decode cX0_ordersThatPart 34 = .ok (.istore 5, 2) := by decide +kernel
theorem dX0_ordersThatPart_36 : decode cX0_ordersThatPart 36 = .ok (.iload 4, 2) := by decide +kernel
theorem dX0_ordersThatPart_38 : decode cX0_ordersThatPart 38 = .ok (.ifCond .le 16, 3) := by decide +kernel
theorem dX0_ordersThatPart_41 : decode cX0_ordersThatPart 41 = .ok (.aload_n 0, 1) := by decide +kernel
theorem dX0_ordersThatPart_42 : decode cX0_ordersThatPart 42 = .ok (.invokevirtual 35, 3) := by decide +kernel
theorem dX0_ordersThatPart_45 : decode cX0_ordersThatPart 45 = .ok (.iload 4, 2) := by decide +kernel
theorem dX0_ordersThatPart_47 : decode cX0_ordersThatPart 47 = .ok (.idiv, 1) := by decide +kernel
theorem dX0_ordersThatPart_48 : decode cX0_ordersThatPart 48 = .ok (.iload 5, 2) := by decide +kernel
theorem dX0_ordersThatPart_50 : decode cX0_ordersThatPart 50 = .ok (.imul, 1) := by decide +kernel
theorem dX0_ordersThatPart_51 : decode cX0_ordersThatPart 51 = .ok (.goto 4, 3) := by decide +kernel
theorem dX0_ordersThatPart_54 : decode cX0_ordersThatPart 54 = .ok (.iconst 0, 1) := by decide +kernel
theorem dX0_ordersThatPart_55 : decode cX0_ordersThatPart 55 = .ok (.ireturn, 1) := by decide +kernel
theorem dX0_reached_0 : decode cX0_reached 0 = .ok (.iconst 0, 1) := by decide +kernel
theorem dX0_reached_1 : decode cX0_reached 1 = .ok (.istore_n 3, 1) := by decide +kernel
theorem dX0_reached_2 : decode cX0_reached 2 = .ok (.iconst 0, 1) := by decide +kernel
theorem dX0_reached_3 : decode cX0_reached 3 = .ok (.istore 4, 2) := by decide +kernel
theorem dX0_reached_5 : decode cX0_reached 5 = .ok (.iload 4, 2) := by decide +kernel
theorem dX0_reached_7 : decode cX0_reached 7 = .ok (.aload_n 0, 1) := by decide +kernel
theorem dX0_reached_8 : decode cX0_reached 8 = .ok (.getfield 7, 3) := by decide +kernel
theorem dX0_reached_11 : decode cX0_reached 11 = .ok (.getfield 19, 3) := by decide +kernel
theorem dX0_reached_14 : decode cX0_reached 14 = .ok (.if_icmp .ge 32, 3) := by decide +kernel
theorem dX0_reached_17 : decode cX0_reached 17 = .ok (.aload_n 0, 1) := by decide +kernel
theorem dX0_reached_18 : decode cX0_reached 18 = .ok (.getfield 7, 3) := by decide +kernel
theorem dX0_reached_21 : decode cX0_reached 21 = .ok (.getfield 39, 3) := by decide +kernel
theorem dX0_reached_24 : decode cX0_reached 24 = .ok (.iload_n 1, 1) := by decide +kernel
theorem dX0_reached_25 : decode cX0_reached 25 = .ok (.aaload, 1) := by decide +kernel
theorem dX0_reached_26 : decode cX0_reached 26 = .ok (.iload 4, 2) := by decide +kernel
theorem dX0_reached_28 : decode cX0_reached 28 = .ok (.iaload, 1) := by decide +kernel
theorem dX0_reached_29 : decode cX0_reached 29 = .ok (.iload_n 2, 1) := by decide +kernel
theorem dX0_reached_30 : decode cX0_reached 30 = .ok (.if_icmp .gt 10, 3) := by decide +kernel
theorem dX0_reached_33 : decode cX0_reached 33 = .ok (.iload_n 3, 1) := by decide +kernel
theorem dX0_reached_34 : decode cX0_reached 34 = .ok (.iconst 1, 1) := by decide +kernel
theorem dX0_reached_35 : decode cX0_reached 35 = .ok (.iload 4, 2) := by decide +kernel
theorem dX0_reached_37 : decode cX0_reached 37 = .ok (.ishl, 1) := by decide +kernel
theorem dX0_reached_38 : decode cX0_reached 38 = .ok (.ior, 1) := by decide +kernel
theorem dX0_reached_39 : decode cX0_reached 39 = .ok (.istore_n 3, 1) := by decide +kernel
theorem dX0_reached_40 : decode cX0_reached 40 = .ok (.iinc 4 1, 3) := by decide +kernel
theorem dX0_reached_43 : decode cX0_reached 43 = .ok (.goto (-38), 3) := by decide +kernel
theorem dX0_reached_46 : decode cX0_reached 46 = .ok (.iload_n 3, 1) := by decide +kernel
theorem dX0_reached_47 : decode cX0_reached 47 = .ok (.ireturn, 1) := by decide +kernel
theorem dX0_firstWithin_0 : decode cX0_firstWithin 0 = .ok (.iconst 1, 1) := by decide +kernel
theorem dX0_firstWithin_1 : decode cX0_firstWithin 1 = .ok (.aload_n 0, 1) := by decide +kernel
theorem dX0_firstWithin_2 : decode cX0_firstWithin 2 = .ok (.getfield 7, 3) := by decide +kernel
theorem dX0_firstWithin_5 : decode cX0_firstWithin 5 = .ok (.getfield 19, 3) := by decide +kernel
theorem dX0_firstWithin_8 : decode cX0_firstWithin 8 = .ok (.ishl, 1) := by decide +kernel
theorem dX0_firstWithin_9 : decode cX0_firstWithin 9 = .ok (.iconst 1, 1) := by decide +kernel
theorem dX0_firstWithin_10 : decode cX0_firstWithin 10 = .ok (.isub, 1) := by decide +kernel
theorem dX0_firstWithin_11 : decode cX0_firstWithin 11 = .ok (.istore 4, 2) := by decide +kernel
theorem dX0_firstWithin_13 : decode cX0_firstWithin 13 = .ok (.iload_n 2, 1) := by decide +kernel
theorem dX0_firstWithin_14 : decode cX0_firstWithin 14 = .ok (.istore 5, 2) := by decide +kernel
theorem dX0_firstWithin_16 : decode cX0_firstWithin 16 = .ok (.aload_n 0, 1) := by decide +kernel
theorem dX0_firstWithin_17 : decode cX0_firstWithin 17 = .ok (.getfield 7, 3) := by decide +kernel
theorem dX0_firstWithin_20 : decode cX0_firstWithin 20 = .ok (.getfield 19, 3) := by decide +kernel
theorem dX0_firstWithin_23 : decode cX0_firstWithin 23 = .ok (.iconst 1, 1) := by decide +kernel
theorem dX0_firstWithin_24 : decode cX0_firstWithin 24 = .ok (.isub, 1) := by decide +kernel
theorem dX0_firstWithin_25 : decode cX0_firstWithin 25 = .ok (.istore 6, 2) := by decide +kernel
theorem dX0_firstWithin_27 : decode cX0_firstWithin 27 = .ok (.iload 6, 2) := by decide +kernel
theorem dX0_firstWithin_29 : decode cX0_firstWithin 29 = .ok (.ifCond .lt 79, 3) := by decide +kernel
theorem dX0_firstWithin_32 : decode cX0_firstWithin 32 = .ok (.getstatic 13, 3) := by decide +kernel
theorem dX0_firstWithin_35 : decode cX0_firstWithin 35 = .ok (.iload 6, 2) := by decide +kernel
theorem dX0_firstWithin_37 : decode cX0_firstWithin 37 = .ok (.iaload, 1) := by decide +kernel
theorem dX0_firstWithin_38 : decode cX0_firstWithin 38 = .ok (.istore 7, 2) := by decide +kernel
theorem dX0_firstWithin_40 : decode cX0_firstWithin 40 = .ok (.aload_n 0, 1) := by decide +kernel
theorem dX0_firstWithin_41 : decode cX0_firstWithin 41 = .ok (.iload 4, 2) := by decide +kernel
theorem dX0_firstWithin_43 : decode cX0_firstWithin 43 = .ok (.iload 5, 2) := by decide +kernel
theorem dX0_firstWithin_45 : decode cX0_firstWithin 45 = .ok (.iload 7, 2) := by decide +kernel
theorem dX0_firstWithin_47 : decode cX0_firstWithin 47 = .ok (.invokevirtual 43, 3) := by decide +kernel
theorem dX0_firstWithin_50 : decode cX0_firstWithin 50 = .ok (.istore 8, 2) := by decide +kernel
theorem dX0_firstWithin_52 : decode cX0_firstWithin 52 = .ok (.aload_n 0, 1) := by decide +kernel
theorem dX0_firstWithin_53 : decode cX0_firstWithin 53 = .ok (.getfield 7, 3) := by decide +kernel
theorem dX0_firstWithin_56 : decode cX0_firstWithin 56 = .ok (.getfield 39, 3) := by decide +kernel
theorem dX0_firstWithin_59 : decode cX0_firstWithin 59 = .ok (.iload_n 1, 1) := by decide +kernel
theorem dX0_firstWithin_60 : decode cX0_firstWithin 60 = .ok (.aaload, 1) := by decide +kernel
theorem dX0_firstWithin_61 : decode cX0_firstWithin 61 = .ok (.iload 8, 2) := by decide +kernel
theorem dX0_firstWithin_63 : decode cX0_firstWithin 63 = .ok (.iaload, 1) := by decide +kernel
theorem dX0_firstWithin_64 : decode cX0_firstWithin 64 = .ok (.iload_n 3, 1) := by decide +kernel
theorem dX0_firstWithin_65 : decode cX0_firstWithin 65 = .ok (.if_icmp .gt 6, 3) := by decide +kernel
theorem dX0_firstWithin_68 : decode cX0_firstWithin 68 = .ok (.iload 8, 2) := by decide +kernel
theorem dX0_firstWithin_70 : decode cX0_firstWithin 70 = .ok (.ireturn, 1) := by decide +kernel
theorem dX0_firstWithin_71 : decode cX0_firstWithin 71 = .ok (.iload 5, 2) := by decide +kernel
theorem dX0_firstWithin_73 : decode cX0_firstWithin 73 = .ok (.iload 7, 2) := by decide +kernel
theorem dX0_firstWithin_75 : decode cX0_firstWithin 75 = .ok (.iload 4, 2) := by decide +kernel
theorem dX0_firstWithin_77 : decode cX0_firstWithin 77 = .ok (.iconst 1, 1) := by decide +kernel
theorem dX0_firstWithin_78 : decode cX0_firstWithin 78 = .ok (.iload 8, 2) := by decide +kernel
theorem dX0_firstWithin_80 : decode cX0_firstWithin 80 = .ok (.ishl, 1) := by decide +kernel
theorem dX0_firstWithin_81 : decode cX0_firstWithin 81 = .ok (.iconst 1, 1) := by decide +kernel
theorem dX0_firstWithin_82 : decode cX0_firstWithin 82 = .ok (.isub, 1) := by decide +kernel
theorem dX0_firstWithin_83 : decode cX0_firstWithin 83 = .ok (.iand, 1) := by decide +kernel
theorem dX0_firstWithin_84 : decode cX0_firstWithin 84 = .ok (.invokestatic 29, 3) := by decide +kernel
theorem dX0_firstWithin_87 : decode cX0_firstWithin 87 = .ok (.imul, 1) := by decide +kernel
theorem dX0_firstWithin_88 : decode cX0_firstWithin 88 = .ok (.isub, 1) := by decide +kernel
theorem dX0_firstWithin_89 : decode cX0_firstWithin 89 = .ok (.istore 5, 2) := by decide +kernel
theorem dX0_firstWithin_91 : decode cX0_firstWithin 91 = .ok (.iload 4, 2) := by decide +kernel
theorem dX0_firstWithin_93 : decode cX0_firstWithin 93 = .ok (.iconst 1, 1) := by decide +kernel
theorem dX0_firstWithin_94 : decode cX0_firstWithin 94 = .ok (.iload 8, 2) := by decide +kernel
theorem dX0_firstWithin_96 : decode cX0_firstWithin 96 = .ok (.ishl, 1) := by decide +kernel
theorem dX0_firstWithin_97 : decode cX0_firstWithin 97 = .ok (.iconst (-1), 1) := by decide +kernel
theorem dX0_firstWithin_98 : decode cX0_firstWithin 98 = .ok (.ixor, 1) := by decide +kernel
theorem dX0_firstWithin_99 : decode cX0_firstWithin 99 = .ok (.iand, 1) := by decide +kernel
theorem dX0_firstWithin_100 : decode cX0_firstWithin 100 = .ok (.istore 4, 2) := by decide +kernel
theorem dX0_firstWithin_102 : decode cX0_firstWithin 102 = .ok (.iinc 6 (-1), 3) := by decide +kernel
theorem dX0_firstWithin_105 : decode cX0_firstWithin 105 = .ok (.goto (-78), 3) := by decide +kernel
theorem dX0_firstWithin_108 : decode cX0_firstWithin 108 = .ok (.iload_n 1, 1) := by decide +kernel
theorem dX0_firstWithin_109 : decode cX0_firstWithin 109 = .ok (.ireturn, 1) := by decide +kernel
theorem dX0_nextDealt_0 : decode cX0_nextDealt 0 = .ok (.iload_n 2, 1) := by decide +kernel
theorem dX0_nextDealt_1 : decode cX0_nextDealt 1 = .ok (.istore 4, 2) := by decide +kernel
theorem dX0_nextDealt_3 : decode cX0_nextDealt 3 = .ok (.iconst 0, 1) := by decide +kernel
theorem dX0_nextDealt_4 : decode cX0_nextDealt 4 = .ok (.istore 5, 2) := by decide +kernel
theorem dX0_nextDealt_6 : decode cX0_nextDealt 6 = .ok (.iload 5, 2) := by decide +kernel
theorem dX0_nextDealt_8 : decode cX0_nextDealt 8 = .ok (.aload_n 0, 1) := by decide +kernel
theorem dX0_nextDealt_9 : decode cX0_nextDealt 9 = .ok (.getfield 7, 3) := by decide +kernel
theorem dX0_nextDealt_12 : decode cX0_nextDealt 12 = .ok (.getfield 19, 3) := by decide +kernel
theorem dX0_nextDealt_15 : decode cX0_nextDealt 15 = .ok (.if_icmp .ge 34, 3) := by decide +kernel
theorem dX0_nextDealt_18 : decode cX0_nextDealt 18 = .ok (.iload_n 1, 1) := by decide +kernel
theorem dX0_nextDealt_19 : decode cX0_nextDealt 19 = .ok (.iload 5, 2) := by decide +kernel
theorem dX0_nextDealt_21 : decode cX0_nextDealt 21 = .ok (.ishr, 1) := by decide +kernel
theorem dX0_nextDealt_22 : decode cX0_nextDealt 22 = .ok (.iconst 1, 1) := by decide +kernel
theorem dX0_nextDealt_23 : decode cX0_nextDealt 23 = .ok (.iand, 1) := by decide +kernel
theorem dX0_nextDealt_24 : decode cX0_nextDealt 24 = .ok (.iconst 1, 1) := by decide +kernel
theorem dX0_nextDealt_25 : decode cX0_nextDealt 25 = .ok (.if_icmp .ne 18, 3) := by decide +kernel
theorem dX0_nextDealt_28 : decode cX0_nextDealt 28 = .ok (.iload 4, 2) := by decide +kernel
theorem dX0_nextDealt_30 : decode cX0_nextDealt 30 = .ok (.iload_n 3, 1) := by decide +kernel
theorem dX0_nextDealt_31 : decode cX0_nextDealt 31 = .ok (.if_icmp .ge 6, 3) := by decide +kernel
theorem dX0_nextDealt_34 : decode cX0_nextDealt 34 = .ok (.iload 5, 2) := by decide +kernel
theorem dX0_nextDealt_36 : decode cX0_nextDealt 36 = .ok (.ireturn, 1) := by decide +kernel
theorem dX0_nextDealt_37 : decode cX0_nextDealt 37 = .ok (.iload 4, 2) := by decide +kernel
theorem dX0_nextDealt_39 : decode cX0_nextDealt 39 = .ok (.iload_n 3, 1) := by decide +kernel
theorem dX0_nextDealt_40 : decode cX0_nextDealt 40 = .ok (.isub, 1) := by decide +kernel
theorem dX0_nextDealt_41 : decode cX0_nextDealt 41 = .ok (.istore 4, 2) := by decide +kernel
theorem dX0_nextDealt_43 : decode cX0_nextDealt 43 = .ok (.iinc 5 1, 3) := by decide +kernel
theorem dX0_nextDealt_46 : decode cX0_nextDealt 46 = .ok (.goto (-40), 3) := by decide +kernel
theorem dX0_nextDealt_49 : decode cX0_nextDealt 49 = .ok (.iconst 0, 1) := by decide +kernel
theorem dX0_nextDealt_50 : decode cX0_nextDealt 50 = .ok (.ireturn, 1) := by decide +kernel
theorem dX1_init_0 : decode cX1_init 0 = .ok (.aload_n 0, 1) := by decide +kernel
theorem dX1_init_1 : decode cX1_init 1 = .ok (.invokespecial 3, 3) := by decide +kernel
theorem dX1_init_4 : decode cX1_init 4 = .ok (.aload_n 0, 1) := by decide +kernel
theorem dX1_init_5 : decode cX1_init 5 = .ok (.bipush 6, 2) := by decide +kernel
theorem dX1_init_7 : decode cX1_init 7 = .ok (.newarray .int, 2) := by decide +kernel
theorem dX1_init_9 : decode cX1_init 9 = .ok (.putfield 9, 3) := by decide +kernel
theorem dX1_init_12 : decode cX1_init 12 = .ok (.aload_n 0, 1) := by decide +kernel
theorem dX1_init_13 : decode cX1_init 13 = .ok (.bipush 6, 2) := by decide +kernel
theorem dX1_init_15 : decode cX1_init 15 = .ok (.newarray .int, 2) := by decide +kernel
theorem dX1_init_17 : decode cX1_init 17 = .ok (.putfield 15, 3) := by decide +kernel
theorem dX1_init_20 : decode cX1_init 20 = .ok (.aload_n 0, 1) := by decide +kernel
theorem dX1_init_21 : decode cX1_init 21 = .ok (.bipush 6, 2) := by decide +kernel
theorem dX1_init_23 : decode cX1_init 23 = .ok (.newarray .int, 2) := by decide +kernel
theorem dX1_init_25 : decode cX1_init 25 = .ok (.putfield 18, 3) := by decide +kernel
theorem dX1_init_28 : decode cX1_init 28 = .ok (.aload_n 0, 1) := by decide +kernel
theorem dX1_init_29 : decode cX1_init 29 = .ok (.bipush 6, 2) := by decide +kernel
theorem dX1_init_31 : decode cX1_init 31 = .ok (.bipush 6, 2) := by decide +kernel
theorem dX1_init_33 : decode cX1_init 33 = .ok (.multianewarray 21 2, 4) := by decide +kernel
theorem dX1_init_37 : decode cX1_init 37 = .ok (.putfield 23, 3) := by decide +kernel
theorem dX1_init_40 : decode cX1_init 40 = .ok (.aload_n 0, 1) := by decide +kernel
theorem dX1_init_41 : decode cX1_init 41 = .ok (.iconst 1, 1) := by decide +kernel
theorem dX1_init_42 : decode cX1_init 42 = .ok (.putfield 26, 3) := by decide +kernel
theorem dX1_init_45 : decode cX1_init 45 = .ok (.aload_n 0, 1) := by decide +kernel
theorem dX1_init_46 : decode cX1_init 46 = .ok (.iconst 1, 1) := by decide +kernel
theorem dX1_init_47 : decode cX1_init 47 = .ok (.putfield 30, 3) := by decide +kernel
theorem dX1_init_50 : decode cX1_init 50 = .ok (.aload_n 0, 1) := by decide +kernel
theorem dX1_init_51 : decode cX1_init 51 = .ok (.aload_n 1, 1) := by decide +kernel
theorem dX1_init_52 : decode cX1_init 52 = .ok (.putfield 33, 3) := by decide +kernel
theorem dX1_init_55 : decode cX1_init 55 = .ok (.return_, 1) := by decide +kernel
theorem dX1_howMany_0 : decode cX1_howMany 0 = .ok (.iconst 1, 1) := by decide +kernel
theorem dX1_howMany_1 : decode cX1_howMany 1 = .ok (.istore_n 1, 1) := by decide +kernel
theorem dX1_howMany_2 : decode cX1_howMany 2 = .ok (.iconst 0, 1) := by decide +kernel
theorem dX1_howMany_3 : decode cX1_howMany 3 = .ok (.istore_n 2, 1) := by decide +kernel
theorem dX1_howMany_4 : decode cX1_howMany 4 = .ok (.iload_n 2, 1) := by decide +kernel
theorem dX1_howMany_5 : decode cX1_howMany 5 = .ok (.aload_n 0, 1) := by decide +kernel
theorem dX1_howMany_6 : decode cX1_howMany 6 = .ok (.getfield 33, 3) := by decide +kernel
theorem dX1_howMany_9 : decode cX1_howMany 9 = .ok (.getfield 37, 3) := by decide +kernel
theorem dX1_howMany_12 : decode cX1_howMany 12 = .ok (.iconst 2, 1) := by decide +kernel
theorem dX1_howMany_13 : decode cX1_howMany 13 = .ok (.isub, 1) := by decide +kernel
theorem dX1_howMany_14 : decode cX1_howMany 14 = .ok (.if_icmp .ge 19, 3) := by decide +kernel
theorem dX1_howMany_17 : decode cX1_howMany 17 = .ok (.iload_n 1, 1) := by decide +kernel
theorem dX1_howMany_18 : decode cX1_howMany 18 = .ok (.aload_n 0, 1) := by decide +kernel
theorem dX1_howMany_19 : decode cX1_howMany 19 = .ok (.getfield 33, 3) := by decide +kernel
theorem dX1_howMany_22 : decode cX1_howMany 22 = .ok (.getfield 37, 3) := by decide +kernel
theorem dX1_howMany_25 : decode cX1_howMany 25 = .ok (.imul, 1) := by decide +kernel
theorem dX1_howMany_26 : decode cX1_howMany 26 = .ok (.istore_n 1, 1) := by decide +kernel
theorem dX1_howMany_27 : decode cX1_howMany 27 = .ok (.iinc 2 1, 3) := by decide +kernel
theorem dX1_howMany_30 : decode cX1_howMany 30 = .ok (.goto (-26), 3) := by decide +kernel
theorem dX1_howMany_33 : decode cX1_howMany 33 = .ok (.iload_n 1, 1) := by decide +kernel
theorem dX1_howMany_34 : decode cX1_howMany 34 = .ok (.ireturn, 1) := by decide +kernel
theorem dX1_read_0 : decode cX1_read 0 = .ok (.aload_n 0, 1) := by decide +kernel
theorem dX1_read_1 : decode cX1_read 1 = .ok (.getfield 33, 3) := by decide +kernel
theorem dX1_read_4 : decode cX1_read 4 = .ok (.getfield 37, 3) := by decide +kernel
theorem dX1_read_7 : decode cX1_read 7 = .ok (.iconst 2, 1) := by decide +kernel
theorem dX1_read_8 : decode cX1_read 8 = .ok (.isub, 1) := by decide +kernel
theorem dX1_read_9 : decode cX1_read 9 = .ok (.istore_n 2, 1) := by decide +kernel
theorem dX1_read_10 : decode cX1_read 10 = .ok (.aload_n 0, 1) := by decide +kernel
theorem dX1_read_11 : decode cX1_read 11 = .ok (.iload_n 1, 1) := by decide +kernel
theorem dX1_read_12 : decode cX1_read 12 = .ok (.invokevirtual 42, 3) := by decide +kernel
theorem dX1_read_15 : decode cX1_read 15 = .ok (.iconst 0, 1) := by decide +kernel
theorem dX1_read_16 : decode cX1_read 16 = .ok (.istore_n 3, 1) := by decide +kernel
theorem dX1_read_17 : decode cX1_read 17 = .ok (.iload_n 3, 1) := by decide +kernel
theorem dX1_read_18 : decode cX1_read 18 = .ok (.iload_n 2, 1) := by decide +kernel
theorem dX1_read_19 : decode cX1_read 19 = .ok (.if_icmp .ge 34, 3) := by decide +kernel
theorem dX1_read_22 : decode cX1_read 22 = .ok (.aload_n 0, 1) := by decide +kernel
theorem dX1_read_23 : decode cX1_read 23 = .ok (.getfield 9, 3) := by decide +kernel
theorem dX1_read_26 : decode cX1_read 26 = .ok (.iload_n 3, 1) := by decide +kernel
theorem dX1_read_27 : decode cX1_read 27 = .ok (.aload_n 0, 1) := by decide +kernel
theorem dX1_read_28 : decode cX1_read 28 = .ok (.invokevirtual 46, 3) := by decide +kernel
theorem dX1_read_31 : decode cX1_read 31 = .ok (.iastore, 1) := by decide +kernel
theorem dX1_read_32 : decode cX1_read 32 = .ok (.aload_n 0, 1) := by decide +kernel
theorem dX1_read_33 : decode cX1_read 33 = .ok (.getfield 18, 3) := by decide +kernel
theorem dX1_read_36 : decode cX1_read 36 = .ok (.aload_n 0, 1) := by decide +kernel
theorem dX1_read_37 : decode cX1_read 37 = .ok (.getfield 15, 3) := by decide +kernel
theorem dX1_read_40 : decode cX1_read 40 = .ok (.iload_n 3, 1) := by decide +kernel
theorem dX1_read_41 : decode cX1_read 41 = .ok (.iaload, 1) := by decide +kernel
theorem dX1_read_42 : decode cX1_read 42 = .ok (.dup2, 1) := by decide +kernel
theorem dX1_read_43 : decode cX1_read 43 = .ok (.iaload, 1) := by decide +kernel
theorem dX1_read_44 : decode cX1_read 44 = .ok (.iconst 1, 1) := by decide +kernel
theorem dX1_read_45 : decode cX1_read 45 = .ok (.isub, 1) := by decide +kernel
theorem dX1_read_46 : decode cX1_read 46 = .ok (.iastore, 1) := by decide +kernel
theorem dX1_read_47 : decode cX1_read 47 = .ok (.iinc 3 1, 3) := by decide +kernel
theorem dX1_read_50 : decode cX1_read 50 = .ok (.goto (-33), 3) := by decide +kernel
theorem dX1_read_53 : decode cX1_read 53 = .ok (.aload_n 0, 1) := by decide +kernel
theorem dX1_read_54 : decode cX1_read 54 = .ok (.getfield 9, 3) := by decide +kernel
theorem dX1_read_57 : decode cX1_read 57 = .ok (.iload_n 2, 1) := by decide +kernel
theorem dX1_read_58 : decode cX1_read 58 = .ok (.aload_n 0, 1) := by decide +kernel
theorem dX1_read_59 : decode cX1_read 59 = .ok (.invokevirtual 46, 3) := by decide +kernel
theorem dX1_read_62 : decode cX1_read 62 = .ok (.iastore, 1) := by decide +kernel
theorem dX1_read_63 : decode cX1_read 63 = .ok (.aload_n 0, 1) := by decide +kernel
theorem dX1_read_64 : decode cX1_read 64 = .ok (.getfield 15, 3) := by decide +kernel
theorem dX1_read_67 : decode cX1_read 67 = .ok (.iload_n 2, 1) := by decide +kernel
theorem dX1_read_68 : decode cX1_read 68 = .ok (.aload_n 0, 1) := by decide +kernel
theorem dX1_read_69 : decode cX1_read 69 = .ok (.invokevirtual 46, 3) := by decide +kernel
theorem dX1_read_72 : decode cX1_read 72 = .ok (.iastore, 1) := by decide +kernel
theorem dX1_read_73 : decode cX1_read 73 = .ok (.return_, 1) := by decide +kernel
theorem dX1_readFigures_0 : decode cX1_readFigures 0 = .ok (.aload_n 0, 1) := by decide +kernel
theorem dX1_readFigures_1 : decode cX1_readFigures 1 = .ok (.getfield 18, 3) := by decide +kernel
theorem dX1_readFigures_4 : decode cX1_readFigures 4 = .ok (.iconst 1, 1) := by decide +kernel
theorem dX1_readFigures_5 : decode cX1_readFigures 5 = .ok (.invokestatic 50, 3) := by decide +kernel
theorem dX1_readFigures_8 : decode cX1_readFigures 8 = .ok (.aload_n 0, 1) := by decide +kernel
theorem dX1_readFigures_9 : decode cX1_readFigures 9 = .ok (.getfield 33, 3) := by decide +kernel
theorem dX1_readFigures_12 : decode cX1_readFigures 12 = .ok (.getfield 37, 3) := by decide +kernel
theorem dX1_readFigures_15 : decode cX1_readFigures 15 = .ok (.istore_n 2, 1) := by decide +kernel
theorem dX1_readFigures_16 : decode cX1_readFigures 16 = .ok (.iload_n 1, 1) := by decide +kernel
theorem dX1_readFigures_17 : decode cX1_readFigures 17 = .ok (.istore_n 3, 1) := by decide +kernel
theorem dX1_readFigures_18 : decode cX1_readFigures 18 = .ok (.iload_n 2, 1) := by decide +kernel
theorem dX1_readFigures_19 : decode cX1_readFigures 19 = .ok (.iconst 3, 1) := by decide +kernel
theorem dX1_readFigures_20 : decode cX1_readFigures 20 = .ok (.isub, 1) := by decide +kernel
theorem dX1_readFigures_21 : decode cX1_readFigures 21 = .ok (.istore 4, 2) := by decide +kernel
theorem dX1_readFigures_23 : decode cX1_readFigures 23 = .ok (.iload 4, 2) := by decide +kernel
theorem dX1_readFigures_25 : decode cX1_readFigures 25 = .ok (.ifCond .lt 39, 3) := by decide +kernel
theorem dX1_readFigures_28 : decode cX1_readFigures 28 = .ok (.aload_n 0, 1) := by decide +kernel
theorem dX1_readFigures_29 : decode cX1_readFigures 29 = .ok (.getfield 15, 3) := by decide +kernel
theorem dX1_readFigures_32 : decode cX1_readFigures 32 = .ok (.iload 4, 2) := by decide +kernel
theorem dX1_readFigures_34 : decode cX1_readFigures 34 = .ok (.iload_n 3, 1) := by decide +kernel
theorem dX1_readFigures_35 : decode cX1_readFigures 35 = .ok (.iload_n 2, 1) := by decide +kernel
theorem dX1_readFigures_36 : decode cX1_readFigures 36 = .ok (.irem, 1) := by decide +kernel
theorem dX1_readFigures_37 : decode cX1_readFigures 37 = .ok (.iastore, 1) := by decide +kernel
theorem dX1_readFigures_38 : decode cX1_readFigures 38 = .ok (.iload_n 3, 1) := by decide +kernel
theorem dX1_readFigures_39 : decode cX1_readFigures 39 = .ok (.iload_n 2, 1) := by decide +kernel
theorem dX1_readFigures_40 : decode cX1_readFigures 40 = .ok (.idiv, 1) := by decide +kernel
theorem dX1_readFigures_41 : decode cX1_readFigures 41 = .ok (.istore_n 3, 1) := by decide +kernel
theorem dX1_readFigures_42 : decode cX1_readFigures 42 = .ok (.aload_n 0, 1) := by decide +kernel
theorem dX1_readFigures_43 : decode cX1_readFigures 43 = .ok (.getfield 18, 3) := by decide +kernel
theorem dX1_readFigures_46 : decode cX1_readFigures 46 = .ok (.aload_n 0, 1) := by decide +kernel
theorem dX1_readFigures_47 : decode cX1_readFigures 47 = .ok (.getfield 15, 3) := by decide +kernel
theorem dX1_readFigures_50 : decode cX1_readFigures 50 = .ok (.iload 4, 2) := by decide +kernel
theorem dX1_readFigures_52 : decode cX1_readFigures 52 = .ok (.iaload, 1) := by decide +kernel
theorem dX1_readFigures_53 : decode cX1_readFigures 53 = .ok (.dup2, 1) := by decide +kernel
theorem dX1_readFigures_54 : decode cX1_readFigures 54 = .ok (.iaload, 1) := by decide +kernel
theorem dX1_readFigures_55 : decode cX1_readFigures 55 = .ok (.iconst 1, 1) := by decide +kernel
theorem dX1_readFigures_56 : decode cX1_readFigures 56 = .ok (.iadd, 1) := by decide +kernel
theorem dX1_readFigures_57 : decode cX1_readFigures 57 = .ok (.iastore, 1) := by decide +kernel
theorem dX1_readFigures_58 : decode cX1_readFigures 58 = .ok (.iinc 4 (-1), 3) := by decide +kernel
theorem dX1_readFigures_61 : decode cX1_readFigures 61 = .ok (.goto (-38), 3) := by decide +kernel
theorem dX1_readFigures_64 : decode cX1_readFigures 64 = .ok (.return_, 1) := by decide +kernel
theorem dX1_takeLeast_0 : decode cX1_takeLeast 0 = .ok (.iconst 0, 1) := by decide +kernel
theorem dX1_takeLeast_1 : decode cX1_takeLeast 1 = .ok (.istore_n 1, 1) := by decide +kernel
theorem dX1_takeLeast_2 : decode cX1_takeLeast 2 = .ok (.iload_n 1, 1) := by decide +kernel
theorem dX1_takeLeast_3 : decode cX1_takeLeast 3 = .ok (.aload_n 0, 1) := by decide +kernel
theorem dX1_takeLeast_4 : decode cX1_takeLeast 4 = .ok (.getfield 33, 3) := by decide +kernel
theorem dX1_takeLeast_7 : decode cX1_takeLeast 7 = .ok (.getfield 37, 3) := by decide +kernel
theorem dX1_takeLeast_10 : decode cX1_takeLeast 10 = .ok (.iconst 1, 1) := by decide +kernel
theorem dX1_takeLeast_11 : decode cX1_takeLeast 11 = .ok (.isub, 1) := by decide +kernel
theorem dX1_takeLeast_12 : decode cX1_takeLeast 12 = .ok (.if_icmp .ge 19, 3) := by decide +kernel
theorem dX1_takeLeast_15 : decode cX1_takeLeast 15 = .ok (.aload_n 0, 1) := by decide +kernel
theorem dX1_takeLeast_16 : decode cX1_takeLeast 16 = .ok (.getfield 18, 3) := by decide +kernel
theorem dX1_takeLeast_19 : decode cX1_takeLeast 19 = .ok (.iload_n 1, 1) := by decide +kernel
theorem dX1_takeLeast_20 : decode cX1_takeLeast 20 = .ok (.iaload, 1) := by decide +kernel
theorem dX1_takeLeast_21 : decode cX1_takeLeast 21 = .ok (.iconst 1, 1) := by decide +kernel
theorem dX1_takeLeast_22 : decode cX1_takeLeast 22 = .ok (.if_icmp .eq 9, 3) := by decide +kernel
theorem dX1_takeLeast_25 : decode cX1_takeLeast 25 = .ok (.iinc 1 1, 3) := by decide +kernel
theorem dX1_takeLeast_28 : decode cX1_takeLeast 28 = .ok (.goto (-26), 3) := by decide +kernel
theorem dX1_takeLeast_31 : decode cX1_takeLeast 31 = .ok (.aload_n 0, 1) := by decide +kernel
theorem dX1_takeLeast_32 : decode cX1_takeLeast 32 = .ok (.getfield 18, 3) := by decide +kernel
theorem dX1_takeLeast_35 : decode cX1_takeLeast 35 = .ok (.iload_n 1, 1) := by decide +kernel
theorem dX1_takeLeast_36 : decode cX1_takeLeast 36 = .ok (.iconst 0, 1) := by decide +kernel
theorem dX1_takeLeast_37 : decode cX1_takeLeast 37 = .ok (.iastore, 1) := by decide +kernel
theorem dX1_takeLeast_38 : decode cX1_takeLeast 38 = .ok (.iload_n 1, 1) := by decide +kernel
theorem dX1_takeLeast_39 : decode cX1_takeLeast 39 = .ok (.ireturn, 1) := by decide +kernel
theorem dX1_joins_0 : decode cX1_joins 0 = .ok (.iconst 0, 1) := by decide +kernel
theorem dX1_joins_1 : decode cX1_joins 1 = .ok (.istore_n 3, 1) := by decide +kernel
theorem dX1_joins_2 : decode cX1_joins 2 = .ok (.iconst 0, 1) := by decide +kernel
theorem dX1_joins_3 : decode cX1_joins 3 = .ok (.istore 4, 2) := by decide +kernel
theorem dX1_joins_5 : decode cX1_joins 5 = .ok (.iload 4, 2) := by decide +kernel
theorem dX1_joins_7 : decode cX1_joins 7 = .ok (.aload_n 0, 1) := by decide +kernel
theorem dX1_joins_8 : decode cX1_joins 8 = .ok (.getfield 33, 3) := by decide +kernel
theorem dX1_joins_11 : decode cX1_joins 11 = .ok (.getfield 37, 3) := by decide +kernel
theorem dX1_joins_14 : decode cX1_joins 14 = .ok (.iconst 1, 1) := by decide +kernel
theorem dX1_joins_15 : decode cX1_joins 15 = .ok (.isub, 1) := by decide +kernel
theorem dX1_joins_16 : decode cX1_joins 16 = .ok (.if_icmp .ge 63, 3) := by decide +kernel
theorem dX1_joins_19 : decode cX1_joins 19 = .ok (.iload_n 3, 1) := by decide +kernel
theorem dX1_joins_20 : decode cX1_joins 20 = .ok (.ifCond .ne 47, 3) := by decide +kernel
theorem dX1_joins_23 : decode cX1_joins 23 = .ok (.aload_n 0, 1) := by decide +kernel
theorem dX1_joins_24 : decode cX1_joins 24 = .ok (.getfield 9, 3) := by decide +kernel
theorem dX1_joins_27 : decode cX1_joins 27 = .ok (.iload 4, 2) := by decide +kernel
theorem dX1_joins_29 : decode cX1_joins 29 = .ok (.iaload, 1) := by decide +kernel
theorem dX1_joins_30 : decode cX1_joins 30 = .ok (.iload_n 1, 1) := by decide +kernel
theorem dX1_joins_31 : decode cX1_joins 31 = .ok (.if_icmp .ne 14, 3) := by decide +kernel
theorem dX1_joins_34 : decode cX1_joins 34 = .ok (.aload_n 0, 1) := by decide +kernel
theorem dX1_joins_35 : decode cX1_joins 35 = .ok (.getfield 15, 3) := by decide +kernel
theorem dX1_joins_38 : decode cX1_joins 38 = .ok (.iload 4, 2) := by decide +kernel
theorem dX1_joins_40 : decode cX1_joins 40 = .ok (.iaload, 1) := by decide +kernel
theorem dX1_joins_41 : decode cX1_joins 41 = .ok (.iload_n 2, 1) := by decide +kernel
theorem dX1_joins_42 : decode cX1_joins 42 = .ok (.if_icmp .eq 25, 3) := by decide +kernel
theorem dX1_joins_45 : decode cX1_joins 45 = .ok (.aload_n 0, 1) := by decide +kernel
theorem dX1_joins_46 : decode cX1_joins 46 = .ok (.getfield 9, 3) := by decide +kernel
theorem dX1_joins_49 : decode cX1_joins 49 = .ok (.iload 4, 2) := by decide +kernel
theorem dX1_joins_51 : decode cX1_joins 51 = .ok (.iaload, 1) := by decide +kernel
theorem dX1_joins_52 : decode cX1_joins 52 = .ok (.iload_n 2, 1) := by decide +kernel
theorem dX1_joins_53 : decode cX1_joins 53 = .ok (.if_icmp .ne 18, 3) := by decide +kernel
theorem dX1_joins_56 : decode cX1_joins 56 = .ok (.aload_n 0, 1) := by decide +kernel
theorem dX1_joins_57 : decode cX1_joins 57 = .ok (.getfield 15, 3) := by decide +kernel
theorem dX1_joins_60 : decode cX1_joins 60 = .ok (.iload 4, 2) := by decide +kernel
theorem dX1_joins_62 : decode cX1_joins 62 = .ok (.iaload, 1) := by decide +kernel
theorem dX1_joins_63 : decode cX1_joins 63 = .ok (.iload_n 1, 1) := by decide +kernel
theorem dX1_joins_64 : decode cX1_joins 64 = .ok (.if_icmp .ne 7, 3) := by decide +kernel
theorem dX1_joins_67 : decode cX1_joins 67 = .ok (.iconst 1, 1) := by decide +kernel
theorem dX1_joins_68 : decode cX1_joins 68 = .ok (.goto 4, 3) := by decide +kernel
theorem dX1_joins_71 : decode cX1_joins 71 = .ok (.iconst 0, 1) := by decide +kernel
theorem dX1_joins_72 : decode cX1_joins 72 = .ok (.istore_n 3, 1) := by decide +kernel
theorem dX1_joins_73 : decode cX1_joins 73 = .ok (.iinc 4 1, 3) := by decide +kernel
theorem dX1_joins_76 : decode cX1_joins 76 = .ok (.goto (-71), 3) := by decide +kernel
theorem dX1_joins_79 : decode cX1_joins 79 = .ok (.iload_n 3, 1) := by decide +kernel
theorem dX1_joins_80 : decode cX1_joins 80 = .ok (.ireturn, 1) := by decide +kernel
theorem dX1_lay_0 : decode cX1_lay 0 = .ok (.aload_n 0, 1) := by decide +kernel
theorem dX1_lay_1 : decode cX1_lay 1 = .ok (.iload_n 1, 1) := by decide +kernel
theorem dX1_lay_2 : decode cX1_lay 2 = .ok (.invokevirtual 56, 3) := by decide +kernel
theorem dX1_lay_5 : decode cX1_lay 5 = .ok (.aload_n 0, 1) := by decide +kernel
theorem dX1_lay_6 : decode cX1_lay 6 = .ok (.getfield 33, 3) := by decide +kernel
theorem dX1_lay_9 : decode cX1_lay 9 = .ok (.getfield 37, 3) := by decide +kernel
theorem dX1_lay_12 : decode cX1_lay 12 = .ok (.iconst 2, 1) := by decide +kernel
theorem dX1_lay_13 : decode cX1_lay 13 = .ok (.isub, 1) := by decide +kernel
theorem dX1_lay_14 : decode cX1_lay 14 = .ok (.istore_n 2, 1) := by decide +kernel
theorem dX1_lay_15 : decode cX1_lay 15 = .ok (.aload_n 0, 1) := by decide +kernel
theorem dX1_lay_16 : decode cX1_lay 16 = .ok (.getfield 23, 3) := by decide +kernel
theorem dX1_lay_19 : decode cX1_lay 19 = .ok (.aload_n 0, 1) := by decide +kernel
theorem dX1_lay_20 : decode cX1_lay 20 = .ok (.getfield 15, 3) := by decide +kernel
theorem dX1_lay_23 : decode cX1_lay 23 = .ok (.iload_n 2, 1) := by decide +kernel
theorem dX1_lay_24 : decode cX1_lay 24 = .ok (.iaload, 1) := by decide +kernel
theorem dX1_lay_25 : decode cX1_lay 25 = .ok (.aaload, 1) := by decide +kernel
theorem dX1_lay_26 : decode cX1_lay 26 = .ok (.aload_n 0, 1) := by decide +kernel
theorem dX1_lay_27 : decode cX1_lay 27 = .ok (.getfield 15, 3) := by decide +kernel
theorem dX1_lay_30 : decode cX1_lay 30 = .ok (.iload_n 2, 1) := by decide +kernel
theorem dX1_lay_31 : decode cX1_lay 31 = .ok (.iaload, 1) := by decide +kernel
theorem dX1_lay_32 : decode cX1_lay 32 = .ok (.iconst 0, 1) := by decide +kernel
theorem dX1_lay_33 : decode cX1_lay 33 = .ok (.iastore, 1) := by decide +kernel
theorem dX1_lay_34 : decode cX1_lay 34 = .ok (.iload_n 2, 1) := by decide +kernel
theorem dX1_lay_35 : decode cX1_lay 35 = .ok (.istore_n 3, 1) := by decide +kernel
theorem dX1_lay_36 : decode cX1_lay 36 = .ok (.iload_n 3, 1) := by decide +kernel
theorem dX1_lay_37 : decode cX1_lay 37 = .ok (.ifCond .lt 68, 3) := by decide +kernel
theorem dX1_lay_40 : decode cX1_lay 40 = .ok (.aload_n 0, 1) := by decide +kernel
theorem dX1_lay_41 : decode cX1_lay 41 = .ok (.getfield 23, 3) := by decide +kernel
theorem dX1_lay_44 : decode cX1_lay 44 = .ok (.aload_n 0, 1) := by decide +kernel
theorem dX1_lay_45 : decode cX1_lay 45 = .ok (.getfield 9, 3) := by decide +kernel
theorem dX1_lay_48 : decode cX1_lay 48 = .ok (.iload_n 3, 1) := by decide +kernel
theorem dX1_lay_49 : decode cX1_lay 49 = .ok (.iaload, 1) := by decide +kernel
theorem dX1_lay_50 : decode cX1_lay 50 = .ok (.aaload, 1) := by decide +kernel
theorem dX1_lay_51 : decode cX1_lay 51 = .ok (.aload_n 0, 1) := by decide +kernel
theorem dX1_lay_52 : decode cX1_lay 52 = .ok (.getfield 9, 3) := by decide +kernel
theorem dX1_lay_55 : decode cX1_lay 55 = .ok (.iload_n 3, 1) := by decide +kernel
theorem dX1_lay_56 : decode cX1_lay 56 = .ok (.iaload, 1) := by decide +kernel
theorem dX1_lay_57 : decode cX1_lay 57 = .ok (.iconst 0, 1) := by decide +kernel
theorem dX1_lay_58 : decode cX1_lay 58 = .ok (.iastore, 1) := by decide +kernel
theorem dX1_lay_59 : decode cX1_lay 59 = .ok (.aload_n 0, 1) := by decide +kernel
theorem dX1_lay_60 : decode cX1_lay 60 = .ok (.iload_n 3, 1) := by decide +kernel
theorem dX1_lay_61 : decode cX1_lay 61 = .ok (.aload_n 0, 1) := by decide +kernel
theorem dX1_lay_62 : decode cX1_lay 62 = .ok (.getfield 15, 3) := by decide +kernel
theorem dX1_lay_65 : decode cX1_lay 65 = .ok (.iload_n 2, 1) := by decide +kernel
theorem dX1_lay_66 : decode cX1_lay 66 = .ok (.iaload, 1) := by decide +kernel
theorem dX1_lay_67 : decode cX1_lay 67 = .ok (.invokevirtual 59, 3) := by decide +kernel
theorem dX1_lay_70 : decode cX1_lay 70 = .ok (.iload_n 3, 1) := by decide +kernel
theorem dX1_lay_71 : decode cX1_lay 71 = .ok (.iconst 1, 1) := by decide +kernel
theorem dX1_lay_72 : decode cX1_lay 72 = .ok (.iadd, 1) := by decide +kernel
theorem dX1_lay_73 : decode cX1_lay 73 = .ok (.istore 4, 2) := by decide +kernel
theorem dX1_lay_75 : decode cX1_lay 75 = .ok (.iload 4, 2) := by decide +kernel
theorem dX1_lay_77 : decode cX1_lay 77 = .ok (.iload_n 2, 1) := by decide +kernel
theorem dX1_lay_78 : decode cX1_lay 78 = .ok (.if_icmp .gt 21, 3) := by decide +kernel
theorem dX1_lay_81 : decode cX1_lay 81 = .ok (.aload_n 0, 1) := by decide +kernel
theorem dX1_lay_82 : decode cX1_lay 82 = .ok (.iload_n 3, 1) := by decide +kernel
theorem dX1_lay_83 : decode cX1_lay 83 = .ok (.aload_n 0, 1) := by decide +kernel
theorem dX1_lay_84 : decode cX1_lay 84 = .ok (.getfield 9, 3) := by decide +kernel
theorem dX1_lay_87 : decode cX1_lay 87 = .ok (.iload 4, 2) := by decide +kernel
theorem dX1_lay_89 : decode cX1_lay 89 = .ok (.iaload, 1) := by decide +kernel
theorem dX1_lay_90 : decode cX1_lay 90 = .ok (.invokevirtual 59, 3) := by decide +kernel
theorem dX1_lay_93 : decode cX1_lay 93 = .ok (.iinc 4 1, 3) := by decide +kernel
theorem dX1_lay_96 : decode cX1_lay 96 = .ok (.goto (-21), 3) := by decide +kernel
theorem dX1_lay_99 : decode cX1_lay 99 = .ok (.iinc 3 (-1), 3) := by decide +kernel
theorem dX1_lay_102 : decode cX1_lay 102 = .ok (.goto (-66), 3) := by decide +kernel
theorem dX1_lay_105 : decode cX1_lay 105 = .ok (.return_, 1) := by decide +kernel
theorem dX1_layWay_0 : decode cX1_layWay 0 = .ok (.aload_n 0, 1) := by decide +kernel
theorem dX1_layWay_1 : decode cX1_layWay 1 = .ok (.getfield 9, 3) := by decide +kernel
theorem dX1_layWay_4 : decode cX1_layWay 4 = .ok (.iload_n 1, 1) := by decide +kernel
theorem dX1_layWay_5 : decode cX1_layWay 5 = .ok (.iaload, 1) := by decide +kernel
theorem dX1_layWay_6 : decode cX1_layWay 6 = .ok (.istore_n 3, 1) := by decide +kernel
theorem dX1_layWay_7 : decode cX1_layWay 7 = .ok (.aload_n 0, 1) := by decide +kernel
theorem dX1_layWay_8 : decode cX1_layWay 8 = .ok (.getfield 33, 3) := by decide +kernel
theorem dX1_layWay_11 : decode cX1_layWay 11 = .ok (.getfield 63, 3) := by decide +kernel
theorem dX1_layWay_14 : decode cX1_layWay 14 = .ok (.iload_n 3, 1) := by decide +kernel
theorem dX1_layWay_15 : decode cX1_layWay 15 = .ok (.aaload, 1) := by decide +kernel
theorem dX1_layWay_16 : decode cX1_layWay 16 = .ok (.aload_n 0, 1) := by decide +kernel
theorem dX1_layWay_17 : decode cX1_layWay 17 = .ok (.getfield 15, 3) := by decide +kernel
theorem dX1_layWay_20 : decode cX1_layWay 20 = .ok (.iload_n 1, 1) := by decide +kernel
theorem dX1_layWay_21 : decode cX1_layWay 21 = .ok (.iaload, 1) := by decide +kernel
theorem dX1_layWay_22 : decode cX1_layWay 22 = .ok (.iaload, 1) := by decide +kernel
theorem dX1_layWay_23 : decode cX1_layWay 23 = .ok (.aload_n 0, 1) := by decide +kernel
theorem dX1_layWay_24 : decode cX1_layWay 24 = .ok (.getfield 23, 3) := by decide +kernel
theorem dX1_layWay_27 : decode cX1_layWay 27 = .ok (.aload_n 0, 1) := by decide +kernel
theorem dX1_layWay_28 : decode cX1_layWay 28 = .ok (.getfield 15, 3) := by decide +kernel
theorem dX1_layWay_31 : decode cX1_layWay 31 = .ok (.iload_n 1, 1) := by decide +kernel
theorem dX1_layWay_32 : decode cX1_layWay 32 = .ok (.iaload, 1) := by decide +kernel
theorem dX1_layWay_33 : decode cX1_layWay 33 = .ok (.aaload, 1) := by decide +kernel
theorem dX1_layWay_34 : decode cX1_layWay 34 = .ok (.iload_n 2, 1) := by decide +kernel
theorem dX1_layWay_35 : decode cX1_layWay 35 = .ok (.iaload, 1) := by decide +kernel
theorem dX1_layWay_36 : decode cX1_layWay 36 = .ok (.iadd, 1) := by decide +kernel
theorem dX1_layWay_37 : decode cX1_layWay 37 = .ok (.istore 4, 2) := by decide +kernel
theorem dX1_layWay_39 : decode cX1_layWay 39 = .ok (.aload_n 0, 1) := by decide +kernel
theorem dX1_layWay_40 : decode cX1_layWay 40 = .ok (.getfield 23, 3) := by decide +kernel
theorem dX1_layWay_43 : decode cX1_layWay 43 = .ok (.iload_n 3, 1) := by decide +kernel
theorem dX1_layWay_44 : decode cX1_layWay 44 = .ok (.aaload, 1) := by decide +kernel
theorem dX1_layWay_45 : decode cX1_layWay 45 = .ok (.iload_n 2, 1) := by decide +kernel
theorem dX1_layWay_46 : decode cX1_layWay 46 = .ok (.iload 4, 2) := by decide +kernel
theorem dX1_layWay_48 : decode cX1_layWay 48 = .ok (.iastore, 1) := by decide +kernel
theorem dX1_layWay_49 : decode cX1_layWay 49 = .ok (.aload_n 0, 1) := by decide +kernel
theorem dX1_layWay_50 : decode cX1_layWay 50 = .ok (.getfield 23, 3) := by decide +kernel
theorem dX1_layWay_53 : decode cX1_layWay 53 = .ok (.iload_n 2, 1) := by decide +kernel
theorem dX1_layWay_54 : decode cX1_layWay 54 = .ok (.aaload, 1) := by decide +kernel
theorem dX1_layWay_55 : decode cX1_layWay 55 = .ok (.iload_n 3, 1) := by decide +kernel
theorem dX1_layWay_56 : decode cX1_layWay 56 = .ok (.iload 4, 2) := by decide +kernel
theorem dX1_layWay_58 : decode cX1_layWay 58 = .ok (.iastore, 1) := by decide +kernel
theorem dX1_layWay_59 : decode cX1_layWay 59 = .ok (.return_, 1) := by decide +kernel
theorem dX1_findStretch_0 : decode cX1_findStretch 0 = .ok (.aload_n 0, 1) := by decide +kernel
theorem dX1_findStretch_1 : decode cX1_findStretch 1 = .ok (.iconst 1, 1) := by decide +kernel
theorem dX1_findStretch_2 : decode cX1_findStretch 2 = .ok (.putfield 26, 3) := by decide +kernel
theorem dX1_findStretch_5 : decode cX1_findStretch 5 = .ok (.aload_n 0, 1) := by decide +kernel
theorem dX1_findStretch_6 : decode cX1_findStretch 6 = .ok (.iconst 1, 1) := by decide +kernel
theorem dX1_findStretch_7 : decode cX1_findStretch 7 = .ok (.putfield 30, 3) := by decide +kernel
theorem dX1_findStretch_10 : decode cX1_findStretch 10 = .ok (.iconst 0, 1) := by decide +kernel
theorem dX1_findStretch_11 : decode cX1_findStretch 11 = .ok (.istore_n 1, 1) := by decide +kernel
theorem dX1_findStretch_12 : decode cX1_findStretch 12 = .ok (.iload_n 1, 1) := by decide +kernel
theorem dX1_findStretch_13 : decode cX1_findStretch 13 = .ok (.aload_n 0, 1) := by decide +kernel
theorem dX1_findStretch_14 : decode cX1_findStretch 14 = .ok (.getfield 33, 3) := by decide +kernel
theorem dX1_findStretch_17 : decode cX1_findStretch 17 = .ok (.getfield 37, 3) := by decide +kernel
theorem dX1_findStretch_20 : decode cX1_findStretch 20 = .ok (.if_icmp .ge 89, 3) := by decide +kernel
theorem dX1_findStretch_23 : decode cX1_findStretch 23 = .ok (.iload_n 1, 1) := by decide +kernel
theorem dX1_findStretch_24 : decode cX1_findStretch 24 = .ok (.iconst 1, 1) := by decide +kernel
theorem dX1_findStretch_25 : decode cX1_findStretch 25 = .ok (.iadd, 1) := by decide +kernel
theorem dX1_findStretch_26 : decode cX1_findStretch 26 = .ok (.istore_n 2, 1) := by decide +kernel
theorem dX1_findStretch_27 : decode cX1_findStretch 27 = .ok (.iload_n 2, 1) := by decide +kernel
theorem dX1_findStretch_28 : decode cX1_findStretch 28 = .ok (.aload_n 0, 1) := by decide +kernel
theorem dX1_findStretch_29 : decode cX1_findStretch 29 = .ok (.getfield 33, 3) := by decide +kernel
theorem dX1_findStretch_32 : decode cX1_findStretch 32 = .ok (.getfield 37, 3) := by decide +kernel
theorem dX1_findStretch_35 : decode cX1_findStretch 35 = .ok (.if_icmp .ge 68, 3) := by decide +kernel
theorem dX1_findStretch_38 : decode cX1_findStretch 38 = .ok (.aload_n 0, 1) := by decide +kernel
theorem dX1_findStretch_39 : decode cX1_findStretch 39 = .ok (.getfield 23, 3) := by decide +kernel
theorem dX1_findStretch_42 : decode cX1_findStretch 42 = .ok (.iload_n 1, 1) := by decide +kernel
theorem dX1_findStretch_43 : decode cX1_findStretch 43 = .ok (.aaload, 1) := by decide +kernel
theorem dX1_findStretch_44 : decode cX1_findStretch 44 = .ok (.iload_n 2, 1) := by decide +kernel
theorem dX1_findStretch_45 : decode cX1_findStretch 45 = .ok (.iaload, 1) := by decide +kernel
theorem dX1_findStretch_46 : decode cX1_findStretch 46 = .ok (.aload_n 0, 1) := by decide +kernel
theorem dX1_findStretch_47 : decode cX1_findStretch 47 = .ok (.getfield 30, 3) := by decide +kernel
theorem dX1_findStretch_50 : decode cX1_findStretch 50 = .ok (.imul, 1) := by decide +kernel
theorem dX1_findStretch_51 : decode cX1_findStretch 51 = .ok (.aload_n 0, 1) := by decide +kernel
theorem dX1_findStretch_52 : decode cX1_findStretch 52 = .ok (.getfield 26, 3) := by decide +kernel
theorem dX1_findStretch_55 : decode cX1_findStretch 55 = .ok (.aload_n 0, 1) := by decide +kernel
theorem dX1_findStretch_56 : decode cX1_findStretch 56 = .ok (.getfield 33, 3) := by decide +kernel
theorem dX1_findStretch_59 : decode cX1_findStretch 59 = .ok (.getfield 63, 3) := by decide +kernel
theorem dX1_findStretch_62 : decode cX1_findStretch 62 = .ok (.iload_n 1, 1) := by decide +kernel
theorem dX1_findStretch_63 : decode cX1_findStretch 63 = .ok (.aaload, 1) := by decide +kernel
theorem dX1_findStretch_64 : decode cX1_findStretch 64 = .ok (.iload_n 2, 1) := by decide +kernel
theorem dX1_findStretch_65 : decode cX1_findStretch 65 = .ok (.iaload, 1) := by decide +kernel
theorem dX1_findStretch_66 : decode cX1_findStretch 66 = .ok (.imul, 1) := by decide +kernel
theorem dX1_findStretch_67 : decode cX1_findStretch 67 = .ok (.if_icmp .le 30, 3) := by decide +kernel
theorem dX1_findStretch_70 : decode cX1_findStretch 70 = .ok (.aload_n 0, 1) := by decide +kernel
theorem dX1_findStretch_71 : decode cX1_findStretch 71 = .ok (.aload_n 0, 1) := by decide +kernel
theorem dX1_findStretch_72 : decode cX1_findStretch 72 = .ok (.getfield 23, 3) := by decide +kernel
theorem dX1_findStretch_75 : decode cX1_findStretch 75 = .ok (.iload_n 1, 1) := by decide +kernel
theorem dX1_findStretch_76 : decode cX1_findStretch 76 = .ok (.aaload, 1) := by decide +kernel
theorem dX1_findStretch_77 : decode cX1_findStretch 77 = .ok (.iload_n 2, 1) := by decide +kernel
theorem dX1_findStretch_78 : decode cX1_findStretch 78 = .ok (.iaload, 1) := by decide +kernel
theorem dX1_findStretch_79 : decode cX1_findStretch 79 = .ok (.putfield 26, 3) := by decide +kernel
theorem dX1_findStretch_82 : decode cX1_findStretch 82 = .ok (.aload_n 0, 1) := by decide +kernel
theorem dX1_findStretch_83 : decode cX1_findStretch 83 = .ok (.aload_n 0, 1) := by decide +kernel
theorem dX1_findStretch_84 : decode cX1_findStretch 84 = .ok (.getfield 33, 3) := by decide +kernel
theorem dX1_findStretch_87 : decode cX1_findStretch 87 = .ok (.getfield 63, 3) := by decide +kernel
theorem dX1_findStretch_90 : decode cX1_findStretch 90 = .ok (.iload_n 1, 1) := by decide +kernel
theorem dX1_findStretch_91 : decode cX1_findStretch 91 = .ok (.aaload, 1) := by decide +kernel
theorem dX1_findStretch_92 : decode cX1_findStretch 92 = .ok (.iload_n 2, 1) := by decide +kernel
theorem dX1_findStretch_93 : decode cX1_findStretch 93 = .ok (.iaload, 1) := by decide +kernel
theorem dX1_findStretch_94 : decode cX1_findStretch 94 = .ok (.putfield 30, 3) := by decide +kernel
theorem dX1_findStretch_97 : decode cX1_findStretch 97 = .ok (.iinc 2 1, 3) := by decide +kernel
theorem dX1_findStretch_100 : decode cX1_findStretch 100 = .ok (.goto (-73), 3) := by decide +kernel
theorem dX1_findStretch_103 : decode cX1_findStretch 103 = .ok (.iinc 1 1, 3) := by decide +kernel
theorem dX1_findStretch_106 : decode cX1_findStretch 106 = .ok (.goto (-94), 3) := by decide +kernel
theorem dX1_findStretch_109 : decode cX1_findStretch 109 = .ok (.return_, 1) := by decide +kernel
theorem dX1_leastByStretch_0 : decode cX1_leastByStretch 0 = .ok (.iconst 0, 1) := by decide +kernel
theorem dX1_leastByStretch_1 : decode cX1_leastByStretch 1 = .ok (.istore_n 1, 1) := by decide +kernel
theorem dX1_leastByStretch_2 : decode cX1_leastByStretch 2 = .ok (.iconst 0, 1) := by decide +kernel
theorem dX1_leastByStretch_3 : decode cX1_leastByStretch 3 = .ok (.istore_n 2, 1) := by decide +kernel
theorem dX1_leastByStretch_4 : decode cX1_leastByStretch 4 = .ok (.iconst 0, 1) := by decide +kernel
theorem dX1_leastByStretch_5 : decode cX1_leastByStretch 5 = .ok (.istore_n 3, 1) := by decide +kernel
theorem dX1_leastByStretch_6 : decode cX1_leastByStretch 6 = .ok (.aload_n 0, 1) := by decide +kernel
theorem dX1_leastByStretch_7 : decode cX1_leastByStretch 7 = .ok (.invokevirtual 66, 3) := by decide +kernel
theorem dX1_leastByStretch_10 : decode cX1_leastByStretch 10 = .ok (.istore 4, 2) := by decide +kernel
theorem dX1_leastByStretch_12 : decode cX1_leastByStretch 12 = .ok (.iconst 0, 1) := by decide +kernel
theorem dX1_leastByStretch_13 : decode cX1_leastByStretch 13 = .ok (.istore 5, 2) := by decide +kernel
theorem dX1_leastByStretch_15 : decode cX1_leastByStretch 15 = .ok (.iload 5, 2) := by decide +kernel
theorem dX1_leastByStretch_17 : decode cX1_leastByStretch 17 = .ok (.iload 4, 2) := by decide +kernel
theorem dX1_leastByStretch_19 : decode cX1_leastByStretch 19 = .ok (.if_icmp .ge 52, 3) := by decide +kernel
theorem dX1_leastByStretch_22 : decode cX1_leastByStretch 22 = .ok (.aload_n 0, 1) := by decide +kernel
theorem dX1_leastByStretch_23 : decode cX1_leastByStretch 23 = .ok (.iload 5, 2) := by decide +kernel
theorem dX1_leastByStretch_25 : decode cX1_leastByStretch 25 = .ok (.invokevirtual 69, 3) := by decide +kernel
theorem dX1_leastByStretch_28 : decode cX1_leastByStretch 28 = .ok (.aload_n 0, 1) := by decide +kernel
theorem dX1_leastByStretch_29 : decode cX1_leastByStretch 29 = .ok (.invokevirtual 72, 3) := by decide +kernel
theorem dX1_leastByStretch_32 : decode cX1_leastByStretch 32 = .ok (.iload 5, 2) := by decide +kernel
theorem dX1_leastByStretch_34 : decode cX1_leastByStretch 34 = .ok (.ifCond .eq 18, 3) := by decide +kernel
theorem dX1_leastByStretch_37 : decode cX1_leastByStretch 37 = .ok (.aload_n 0, 1) := by decide +kernel
theorem dX1_leastByStretch_38 : decode cX1_leastByStretch 38 = .ok (.getfield 26, 3) := by decide +kernel
theorem dX1_leastByStretch_41 : decode cX1_leastByStretch 41 = .ok (.iload_n 3, 1) := by decide +kernel
theorem dX1_leastByStretch_42 : decode cX1_leastByStretch 42 = .ok (.imul, 1) := by decide +kernel
theorem dX1_leastByStretch_43 : decode cX1_leastByStretch 43 = .ok (.iload_n 2, 1) := by decide +kernel
theorem dX1_leastByStretch_44 : decode cX1_leastByStretch 44 = .ok (.aload_n 0, 1) := by decide +kernel
theorem dX1_leastByStretch_45 : decode cX1_leastByStretch 45 = .ok (.getfield 30, 3) := by decide +kernel
theorem dX1_leastByStretch_48 : decode cX1_leastByStretch 48 = .ok (.imul, 1) := by decide +kernel
theorem dX1_leastByStretch_49 : decode cX1_leastByStretch 49 = .ok (.if_icmp .ge 16, 3) := by decide +kernel
theorem dX1_leastByStretch_52 : decode cX1_leastByStretch 52 = .ok (.iload 5, 2) := by decide +kernel
theorem dX1_leastByStretch_54 : decode cX1_leastByStretch 54 = .ok (.istore_n 1, 1) := by decide +kernel
theorem dX1_leastByStretch_55 : decode cX1_leastByStretch 55 = .ok (.aload_n 0, 1) := by decide +kernel
theorem dX1_leastByStretch_56 : decode cX1_leastByStretch 56 = .ok (.getfield 26, 3) := by decide +kernel
theorem dX1_leastByStretch_59 : decode cX1_leastByStretch 59 = .ok (.istore_n 2, 1) := by decide +kernel
theorem dX1_leastByStretch_60 : decode cX1_leastByStretch 60 = .ok (.aload_n 0, 1) := by decide +kernel
theorem dX1_leastByStretch_61 : decode cX1_leastByStretch 61 = .ok (.getfield 30, 3) := by decide +kernel
theorem dX1_leastByStretch_64 : decode cX1_leastByStretch 64 = .ok (.istore_n 3, 1) := by decide +kernel
theorem dX1_leastByStretch_65 : decode cX1_leastByStretch 65 = .ok (.iinc 5 1, 3) := by decide +kernel
theorem dX1_leastByStretch_68 : decode cX1_leastByStretch 68 = .ok (.goto (-53), 3) := by decide +kernel
theorem dX1_leastByStretch_71 : decode cX1_leastByStretch 71 = .ok (.iload_n 1, 1) := by decide +kernel
theorem dX1_leastByStretch_72 : decode cX1_leastByStretch 72 = .ok (.ireturn, 1) := by decide +kernel
theorem dX1_leastBySpread_0 : decode cX1_leastBySpread 0 = .ok (.iconst 0, 1) := by decide +kernel
theorem dX1_leastBySpread_1 : decode cX1_leastBySpread 1 = .ok (.istore_n 1, 1) := by decide +kernel
theorem dX1_leastBySpread_2 : decode cX1_leastBySpread 2 = .ok (.iconst 0, 1) := by decide +kernel
theorem dX1_leastBySpread_3 : decode cX1_leastBySpread 3 = .ok (.istore_n 2, 1) := by decide +kernel
theorem dX1_leastBySpread_4 : decode cX1_leastBySpread 4 = .ok (.aload_n 0, 1) := by decide +kernel
theorem dX1_leastBySpread_5 : decode cX1_leastBySpread 5 = .ok (.invokevirtual 66, 3) := by decide +kernel
theorem dX1_leastBySpread_8 : decode cX1_leastBySpread 8 = .ok (.istore_n 3, 1) := by decide +kernel
theorem dX1_leastBySpread_9 : decode cX1_leastBySpread 9 = .ok (.iconst 0, 1) := by decide +kernel
theorem dX1_leastBySpread_10 : decode cX1_leastBySpread 10 = .ok (.istore 4, 2) := by decide +kernel
theorem dX1_leastBySpread_12 : decode cX1_leastBySpread 12 = .ok (.iload 4, 2) := by decide +kernel
theorem dX1_leastBySpread_14 : decode cX1_leastBySpread 14 = .ok (.iload_n 3, 1) := by decide +kernel
theorem dX1_leastBySpread_15 : decode cX1_leastBySpread 15 = .ok (.if_icmp .ge 45, 3) := by decide +kernel
theorem dX1_leastBySpread_18 : decode cX1_leastBySpread 18 = .ok (.aload_n 0, 1) := by decide +kernel
theorem dX1_leastBySpread_19 : decode cX1_leastBySpread 19 = .ok (.iload 4, 2) := by decide +kernel
theorem dX1_leastBySpread_21 : decode cX1_leastBySpread 21 = .ok (.invokevirtual 69, 3) := by decide +kernel
theorem dX1_leastBySpread_24 : decode cX1_leastBySpread 24 = .ok (.aload_n 0, 1) := by decide +kernel
theorem dX1_leastBySpread_25 : decode cX1_leastBySpread 25 = .ok (.getfield 33, 3) := by decide +kernel
theorem dX1_leastBySpread_28 : decode cX1_leastBySpread 28 = .ok (.aload_n 0, 1) := by decide +kernel
theorem dX1_leastBySpread_29 : decode cX1_leastBySpread 29 = .ok (.getfield 23, 3) := by decide +kernel
theorem dX1_leastBySpread_32 : decode cX1_leastBySpread 32 = .ok (.invokevirtual 75, 3) := by decide +kernel
theorem dX1_leastBySpread_35 : decode cX1_leastBySpread 35 = .ok (.istore 5, 2) := by decide +kernel
theorem dX1_leastBySpread_37 : decode cX1_leastBySpread 37 = .ok (.iload 4, 2) := by decide +kernel
theorem dX1_leastBySpread_39 : decode cX1_leastBySpread 39 = .ok (.ifCond .eq 9, 3) := by decide +kernel
theorem dX1_leastBySpread_42 : decode cX1_leastBySpread 42 = .ok (.iload 5, 2) := by decide +kernel
theorem dX1_leastBySpread_44 : decode cX1_leastBySpread 44 = .ok (.iload_n 2, 1) := by decide +kernel
theorem dX1_leastBySpread_45 : decode cX1_leastBySpread 45 = .ok (.if_icmp .ge 9, 3) := by decide +kernel
theorem dX1_leastBySpread_48 : decode cX1_leastBySpread 48 = .ok (.iload 4, 2) := by decide +kernel
theorem dX1_leastBySpread_50 : decode cX1_leastBySpread 50 = .ok (.istore_n 1, 1) := by decide +kernel
theorem dX1_leastBySpread_51 : decode cX1_leastBySpread 51 = .ok (.iload 5, 2) := by decide +kernel
theorem dX1_leastBySpread_53 : decode cX1_leastBySpread 53 = .ok (.istore_n 2, 1) := by decide +kernel
theorem dX1_leastBySpread_54 : decode cX1_leastBySpread 54 = .ok (.iinc 4 1, 3) := by decide +kernel
theorem dX1_leastBySpread_57 : decode cX1_leastBySpread 57 = .ok (.goto (-45), 3) := by decide +kernel
theorem dX1_leastBySpread_60 : decode cX1_leastBySpread 60 = .ok (.iload_n 1, 1) := by decide +kernel
theorem dX1_leastBySpread_61 : decode cX1_leastBySpread 61 = .ok (.ireturn, 1) := by decide +kernel
theorem dX2_init_0 : decode cX2_init 0 = .ok (.aload_n 0, 1) := by decide +kernel
theorem dX2_init_1 : decode cX2_init 1 = .ok (.invokespecial 3, 3) := by decide +kernel
theorem dX2_init_4 : decode cX2_init 4 = .ok (.aload_n 0, 1) := by decide +kernel
theorem dX2_init_5 : decode cX2_init 5 = .ok (.aload_n 1, 1) := by decide +kernel
theorem dX2_init_6 : decode cX2_init 6 = .ok (.putfield 9, 3) := by decide +kernel
theorem dX2_init_9 : decode cX2_init 9 = .ok (.return_, 1) := by decide +kernel
theorem dX2_allPoints_0 : decode cX2_allPoints 0 = .ok (.iconst 1, 1) := by decide +kernel
theorem dX2_allPoints_1 : decode cX2_allPoints 1 = .ok (.aload_n 0, 1) := by decide +kernel
theorem dX2_allPoints_2 : decode cX2_allPoints 2 = .ok (.getfield 9, 3) := by decide +kernel
theorem dX2_allPoints_5 : decode cX2_allPoints 5 = .ok (.getfield 15, 3) := by decide +kernel
theorem dX2_allPoints_8 : decode cX2_allPoints 8 = .ok (.ishl, 1) := by decide +kernel
theorem dX2_allPoints_9 : decode cX2_allPoints 9 = .ok (.iconst 1, 1) := by decide +kernel
theorem dX2_allPoints_10 : decode cX2_allPoints 10 = .ok (.isub, 1) := by decide +kernel
theorem dX2_allPoints_11 : decode cX2_allPoints 11 = .ok (.ireturn, 1) := by decide +kernel
theorem dX2_isIn_0 : decode cX2_isIn 0 = .ok (.iload_n 0, 1) := by decide +kernel
theorem dX2_isIn_1 : decode cX2_isIn 1 = .ok (.iload_n 1, 1) := by decide +kernel
theorem dX2_isIn_2 : decode cX2_isIn 2 = .ok (.ishr, 1) := by decide +kernel
theorem dX2_isIn_3 : decode cX2_isIn 3 = .ok (.iconst 1, 1) := by decide +kernel
theorem dX2_isIn_4 : decode cX2_isIn 4 = .ok (.iand, 1) := by decide +kernel
theorem dX2_isIn_5 : decode cX2_isIn 5 = .ok (.iconst 1, 1) := by decide +kernel
theorem dX2_isIn_6 : decode cX2_isIn 6 = .ok (.if_icmp .ne 7, 3) := by decide +kernel
theorem dX2_isIn_9 : decode cX2_isIn 9 = .ok (.iconst 1, 1) := by decide +kernel
theorem dX2_isIn_10 : decode cX2_isIn 10 = .ok (.goto 4, 3) := by decide +kernel
theorem dX2_isIn_13 : decode cX2_isIn 13 = .ok (.iconst 0, 1) := by decide +kernel
theorem dX2_isIn_14 : decode cX2_isIn 14 = .ok (.ireturn, 1) := by decide +kernel
theorem dX2_isPart_0 : decode cX2_isPart 0 = .ok (.iload_n 1, 1) := by decide +kernel
theorem dX2_isPart_1 : decode cX2_isPart 1 = .ok (.ifCond .le 23, 3) := by decide +kernel
theorem dX2_isPart_4 : decode cX2_isPart 4 = .ok (.iload_n 1, 1) := by decide +kernel
theorem dX2_isPart_5 : decode cX2_isPart 5 = .ok (.aload_n 0, 1) := by decide +kernel
theorem dX2_isPart_6 : decode cX2_isPart 6 = .ok (.invokevirtual 21, 3) := by decide +kernel
theorem dX2_isPart_9 : decode cX2_isPart 9 = .ok (.if_icmp .ge 15, 3) := by decide +kernel
theorem dX2_isPart_12 : decode cX2_isPart 12 = .ok (.iload_n 1, 1) := by decide +kernel
theorem dX2_isPart_13 : decode cX2_isPart 13 = .ok (.iconst 0, 1) := by decide +kernel
theorem dX2_isPart_14 : decode cX2_isPart 14 = .ok (.invokestatic 25, 3) := by decide +kernel
theorem dX2_isPart_17 : decode cX2_isPart 17 = .ok (.ifCond .eq 7, 3) := by decide +kernel
theorem dX2_isPart_20 : decode cX2_isPart 20 = .ok (.iconst 1, 1) := by decide +kernel
theorem dX2_isPart_21 : decode cX2_isPart 21 = .ok (.goto 4, 3) := by decide +kernel
theorem dX2_isPart_24 : decode cX2_isPart 24 = .ok (.iconst 0, 1) := by decide +kernel
theorem dX2_isPart_25 : decode cX2_isPart 25 = .ok (.ireturn, 1) := by decide +kernel
theorem dX2_weigh_0 : decode cX2_weigh 0 = .ok (.sipush 2000, 3) := by decide +kernel
theorem dX2_weigh_3 : decode cX2_weigh 3 = .ok (.istore_n 2, 1) := by decide +kernel
theorem dX2_weigh_4 : decode cX2_weigh 4 = .ok (.iconst 0, 1) := by decide +kernel
theorem dX2_weigh_5 : decode cX2_weigh 5 = .ok (.istore_n 3, 1) := by decide +kernel
theorem dX2_weigh_6 : decode cX2_weigh 6 = .ok (.iload_n 3, 1) := by decide +kernel
theorem dX2_weigh_7 : decode cX2_weigh 7 = .ok (.aload_n 0, 1) := by decide +kernel
theorem dX2_weigh_8 : decode cX2_weigh 8 = .ok (.getfield 9, 3) := by decide +kernel
theorem dX2_weigh_11 : decode cX2_weigh 11 = .ok (.getfield 15, 3) := by decide +kernel
theorem dX2_weigh_14 : decode cX2_weigh 14 = .ok (.if_icmp .ge 60, 3) := by decide +kernel
theorem dX2_weigh_17 : decode cX2_weigh 17 = .ok (.iload_n 3, 1) := by decide +kernel
theorem dX2_weigh_18 : decode cX2_weigh 18 = .ok (.istore 4, 2) := by decide +kernel
theorem dX2_weigh_20 : decode cX2_weigh 20 = .ok (.iload 4, 2) := by decide +kernel
theorem dX2_weigh_22 : decode cX2_weigh 22 = .ok (.aload_n 0, 1) := by decide +kernel
theorem dX2_weigh_23 : decode cX2_weigh 23 = .ok (.getfield 9, 3) := by decide +kernel
theorem dX2_weigh_26 : decode cX2_weigh 26 = .ok (.getfield 15, 3) := by decide +kernel
theorem dX2_weigh_29 : decode cX2_weigh 29 = .ok (.if_icmp .ge 39, 3) := by decide +kernel
theorem dX2_weigh_32 : decode cX2_weigh 32 = .ok (.iload_n 1, 1) := by decide +kernel
theorem dX2_weigh_33 : decode cX2_weigh 33 = .ok (.iload_n 3, 1) := by decide +kernel
theorem dX2_weigh_34 : decode cX2_weigh 34 = .ok (.invokestatic 25, 3) := by decide +kernel
theorem dX2_weigh_37 : decode cX2_weigh 37 = .ok (.ifCond .eq 25, 3) := by decide +kernel
theorem dX2_weigh_40 : decode cX2_weigh 40 = .ok (.iload_n 1, 1) := by decide +kernel
theorem dX2_weigh_41 : decode cX2_weigh 41 = .ok (.iload 4, 2) := by decide +kernel
theorem dX2_weigh_43 : decode cX2_weigh 43 = .ok (.invokestatic 25, 3) := by decide +kernel
theorem dX2_weigh_46 : decode cX2_weigh 46 = .ok (.ifCond .eq 16, 3) := by decide +kernel
theorem dX2_weigh_49 : decode cX2_weigh 49 = .ok (.iload_n 2, 1) := by decide +kernel
theorem dX2_weigh_50 : decode cX2_weigh 50 = .ok (.aload_n 0, 1) := by decide +kernel
theorem dX2_weigh_51 : decode cX2_weigh 51 = .ok (.iload_n 1, 1) := by decide +kernel
theorem dX2_weigh_52 : decode cX2_weigh 52 = .ok (.iload_n 3, 1) := by decide +kernel
theorem dX2_weigh_53 : decode cX2_weigh 53 = .ok (.iload 4, 2) := by decide +kernel
theorem dX2_weigh_55 : decode cX2_weigh 55 = .ok (.invokevirtual 29, 3) := by decide +kernel
theorem dX2_weigh_58 : decode cX2_weigh 58 = .ok (.invokestatic 33, 3) := by decide +kernel
theorem dX2_weigh_61 : decode cX2_weigh 61 = .ok (.istore_n 2, 1) := by decide +kernel
theorem dX2_weigh_62 : decode cX2_weigh 62 = .ok (.iinc 4 1, 3) := by decide +kernel
theorem dX2_weigh_65 : decode cX2_weigh 65 = .ok (.goto (-45), 3) := by decide +kernel
theorem dX2_weigh_68 : decode cX2_weigh 68 = .ok (.iinc 3 1, 3) := by decide +kernel
theorem dX2_weigh_71 : decode cX2_weigh 71 = .ok (.goto (-65), 3) := by decide +kernel
theorem dX2_weigh_74 : decode cX2_weigh 74 = .ok (.iload_n 2, 1) := by decide +kernel
theorem dX2_weigh_75 : decode cX2_weigh 75 = .ok (.ireturn, 1) := by decide +kernel
theorem dX2_leastAcross_0 : decode cX2_leastAcross 0 = .ok (.sipush 2000, 3) := by decide +kernel
theorem dX2_leastAcross_3 : decode cX2_leastAcross 3 = .ok (.istore 4, 2) := by decide +kernel
theorem dX2_leastAcross_5 : decode cX2_leastAcross 5 = .ok (.iconst 0, 1) := by decide +kernel
theorem dX2_leastAcross_6 : decode cX2_leastAcross 6 = .ok (.istore 5, 2) := by decide +kernel
theorem dX2_leastAcross_8 : decode cX2_leastAcross 8 = .ok (.iload 5, 2) := by decide +kernel
theorem dX2_leastAcross_10 : decode cX2_leastAcross 10 = .ok (.aload_n 0, 1) := by decide +kernel
theorem dX2_leastAcross_11 : decode cX2_leastAcross 11 = .ok (.getfield 9, 3) := by decide +kernel
theorem dX2_leastAcross_14 : decode cX2_leastAcross 14 = .ok (.getfield 15, 3) := by decide +kernel
theorem dX2_leastAcross_17 : decode cX2_leastAcross 17 = .ok (.if_icmp .ge 66, 3) := by decide +kernel
theorem dX2_leastAcross_20 : decode cX2_leastAcross 20 = .ok (.iload 5, 2) := by decide +kernel
theorem dX2_leastAcross_22 : decode cX2_leastAcross 22 = .ok (.istore 6, 2) := by decide +kernel
theorem dX2_leastAcross_24 : decode cX2_leastAcross 24 = .ok (.iload 6, 2) := by decide +kernel
theorem dX2_leastAcross_26 : decode cX2_leastAcross 26 = .ok (.aload_n 0, 1) := by decide +kernel
theorem dX2_leastAcross_27 : decode cX2_leastAcross 27 = .ok (.getfield 9, 3) := by decide +kernel
theorem dX2_leastAcross_30 : decode cX2_leastAcross 30 = .ok (.getfield 15, 3) := by decide +kernel
theorem dX2_leastAcross_33 : decode cX2_leastAcross 33 = .ok (.if_icmp .ge 44, 3) := by decide +kernel
theorem dX2_leastAcross_36 : decode cX2_leastAcross 36 = .ok (.iload_n 1, 1) := by decide +kernel
theorem dX2_leastAcross_37 : decode cX2_leastAcross 37 = .ok (.iload 5, 2) := by decide +kernel
theorem dX2_leastAcross_39 : decode cX2_leastAcross 39 = .ok (.invokestatic 25, 3) := by decide +kernel
theorem dX2_leastAcross_42 : decode cX2_leastAcross 42 = .ok (.ifCond .ne 29, 3) := by decide +kernel
theorem dX2_leastAcross_45 : decode cX2_leastAcross 45 = .ok (.iload_n 1, 1) := by decide +kernel
theorem dX2_leastAcross_46 : decode cX2_leastAcross 46 = .ok (.iload 6, 2) := by decide +kernel
theorem dX2_leastAcross_48 : decode cX2_leastAcross 48 = .ok (.invokestatic 25, 3) := by decide +kernel
theorem dX2_leastAcross_51 : decode cX2_leastAcross 51 = .ok (.ifCond .ne 20, 3) := by decide +kernel
theorem dX2_leastAcross_54 : decode cX2_leastAcross 54 = .ok (.iload 4, 2) := by decide +kernel
theorem dX2_leastAcross_56 : decode cX2_leastAcross 56 = .ok (.aload_n 0, 1) := by decide +kernel
theorem dX2_leastAcross_57 : decode cX2_leastAcross 57 = .ok (.iload_n 2, 1) := by decide +kernel
theorem dX2_leastAcross_58 : decode cX2_leastAcross 58 = .ok (.iload_n 3, 1) := by decide +kernel
theorem dX2_leastAcross_59 : decode cX2_leastAcross 59 = .ok (.iload 5, 2) := by decide +kernel
theorem dX2_leastAcross_61 : decode cX2_leastAcross 61 = .ok (.iload 6, 2) := by decide +kernel
theorem dX2_leastAcross_63 : decode cX2_leastAcross 63 = .ok (.invokevirtual 39, 3) := by decide +kernel
theorem dX2_leastAcross_66 : decode cX2_leastAcross 66 = .ok (.invokestatic 33, 3) := by decide +kernel
theorem dX2_leastAcross_69 : decode cX2_leastAcross 69 = .ok (.istore 4, 2) := by decide +kernel
theorem dX2_leastAcross_71 : decode cX2_leastAcross 71 = .ok (.iinc 6 1, 3) := by decide +kernel
theorem dX2_leastAcross_74 : decode cX2_leastAcross 74 = .ok (.goto (-50), 3) := by decide +kernel
theorem dX2_leastAcross_77 : decode cX2_leastAcross 77 = .ok (.iinc 5 1, 3) := by decide +kernel
theorem dX2_leastAcross_80 : decode cX2_leastAcross 80 = .ok (.goto (-72), 3) := by decide +kernel
theorem dX2_leastAcross_83 : decode cX2_leastAcross 83 = .ok (.iload 4, 2) := by decide +kernel
theorem dX2_leastAcross_85 : decode cX2_leastAcross 85 = .ok (.ireturn, 1) := by decide +kernel
theorem dX2_across_0 : decode cX2_across 0 = .ok (.aload_n 0, 1) := by decide +kernel
theorem dX2_across_1 : decode cX2_across 1 = .ok (.getfield 9, 3) := by decide +kernel
theorem dX2_across_4 : decode cX2_across 4 = .ok (.getfield 43, 3) := by decide +kernel
theorem dX2_across_7 : decode cX2_across 7 = .ok (.astore 5, 2) := by decide +kernel
theorem dX2_across_9 : decode cX2_across 9 = .ok (.aload 5, 2) := by decide +kernel
theorem dX2_across_11 : decode cX2_across 11 = .ok (.iload_n 1, 1) := by decide +kernel
theorem dX2_across_12 : decode cX2_across 12 = .ok (.aaload, 1) := by decide +kernel
theorem dX2_across_13 : decode cX2_across 13 = .ok (.iload_n 2, 1) := by decide +kernel
theorem dX2_across_14 : decode cX2_across 14 = .ok (.iaload, 1) := by decide +kernel
theorem dX2_across_15 : decode cX2_across 15 = .ok (.aload 5, 2) := by decide +kernel
theorem dX2_across_17 : decode cX2_across 17 = .ok (.iload_n 3, 1) := by decide +kernel
theorem dX2_across_18 : decode cX2_across 18 = .ok (.aaload, 1) := by decide +kernel
theorem dX2_across_19 : decode cX2_across 19 = .ok (.iload 4, 2) := by decide +kernel
theorem dX2_across_21 : decode cX2_across 21 = .ok (.iaload, 1) := by decide +kernel
theorem dX2_across_22 : decode cX2_across 22 = .ok (.iadd, 1) := by decide +kernel
theorem dX2_across_23 : decode cX2_across 23 = .ok (.istore 6, 2) := by decide +kernel
theorem dX2_across_25 : decode cX2_across 25 = .ok (.aload 5, 2) := by decide +kernel
theorem dX2_across_27 : decode cX2_across 27 = .ok (.iload_n 1, 1) := by decide +kernel
theorem dX2_across_28 : decode cX2_across 28 = .ok (.aaload, 1) := by decide +kernel
theorem dX2_across_29 : decode cX2_across 29 = .ok (.iload_n 3, 1) := by decide +kernel
theorem dX2_across_30 : decode cX2_across 30 = .ok (.iaload, 1) := by decide +kernel
theorem dX2_across_31 : decode cX2_across 31 = .ok (.aload 5, 2) := by decide +kernel
theorem dX2_across_33 : decode cX2_across 33 = .ok (.iload_n 2, 1) := by decide +kernel
theorem dX2_across_34 : decode cX2_across 34 = .ok (.aaload, 1) := by decide +kernel
theorem dX2_across_35 : decode cX2_across 35 = .ok (.iload 4, 2) := by decide +kernel
theorem dX2_across_37 : decode cX2_across 37 = .ok (.iaload, 1) := by decide +kernel
theorem dX2_across_38 : decode cX2_across 38 = .ok (.iadd, 1) := by decide +kernel
theorem dX2_across_39 : decode cX2_across 39 = .ok (.istore 7, 2) := by decide +kernel
theorem dX2_across_41 : decode cX2_across 41 = .ok (.aload 5, 2) := by decide +kernel
theorem dX2_across_43 : decode cX2_across 43 = .ok (.iload_n 1, 1) := by decide +kernel
theorem dX2_across_44 : decode cX2_across 44 = .ok (.aaload, 1) := by decide +kernel
theorem dX2_across_45 : decode cX2_across 45 = .ok (.iload 4, 2) := by decide +kernel
theorem dX2_across_47 : decode cX2_across 47 = .ok (.iaload, 1) := by decide +kernel
theorem dX2_across_48 : decode cX2_across 48 = .ok (.aload 5, 2) := by decide +kernel
theorem dX2_across_50 : decode cX2_across 50 = .ok (.iload_n 2, 1) := by decide +kernel
theorem dX2_across_51 : decode cX2_across 51 = .ok (.aaload, 1) := by decide +kernel
theorem dX2_across_52 : decode cX2_across 52 = .ok (.iload_n 3, 1) := by decide +kernel
theorem dX2_across_53 : decode cX2_across 53 = .ok (.iaload, 1) := by decide +kernel
theorem dX2_across_54 : decode cX2_across 54 = .ok (.iadd, 1) := by decide +kernel
theorem dX2_across_55 : decode cX2_across 55 = .ok (.istore 8, 2) := by decide +kernel
theorem dX2_across_57 : decode cX2_across 57 = .ok (.iload 6, 2) := by decide +kernel
theorem dX2_across_59 : decode cX2_across 59 = .ok (.iload 7, 2) := by decide +kernel
theorem dX2_across_61 : decode cX2_across 61 = .ok (.iload 8, 2) := by decide +kernel
theorem dX2_across_63 : decode cX2_across 63 = .ok (.invokestatic 47, 3) := by decide +kernel
theorem dX2_across_66 : decode cX2_across 66 = .ok (.invokestatic 47, 3) := by decide +kernel
theorem dX2_across_69 : decode cX2_across 69 = .ok (.iload 6, 2) := by decide +kernel
theorem dX2_across_71 : decode cX2_across 71 = .ok (.isub, 1) := by decide +kernel
theorem dX2_across_72 : decode cX2_across 72 = .ok (.ireturn, 1) := by decide +kernel
theorem dX2_howManyWeigh_0 : decode cX2_howManyWeigh 0 = .ok (.iconst 0, 1) := by decide +kernel
theorem dX2_howManyWeigh_1 : decode cX2_howManyWeigh 1 = .ok (.istore_n 1, 1) := by decide +kernel
theorem dX2_howManyWeigh_2 : decode cX2_howManyWeigh 2 = .ok (.iconst 1, 1) := by decide +kernel
theorem dX2_howManyWeigh_3 : decode cX2_howManyWeigh 3 = .ok (.istore_n 2, 1) := by decide +kernel
theorem dX2_howManyWeigh_4 : decode cX2_howManyWeigh 4 = .ok (.iload_n 2, 1) := by decide +kernel
theorem dX2_howManyWeigh_5 : decode cX2_howManyWeigh 5 = .ok (.aload_n 0, 1) := by decide +kernel
theorem dX2_howManyWeigh_6 : decode cX2_howManyWeigh 6 = .ok (.invokevirtual 21, 3) := by decide +kernel
theorem dX2_howManyWeigh_9 : decode cX2_howManyWeigh 9 = .ok (.if_icmp .ge 28, 3) := by decide +kernel
theorem dX2_howManyWeigh_12 : decode cX2_howManyWeigh 12 = .ok (.iload_n 1, 1) := by decide +kernel
theorem dX2_howManyWeigh_13 : decode cX2_howManyWeigh 13 = .ok (.aload_n 0, 1) := by decide +kernel
theorem dX2_howManyWeigh_14 : decode cX2_howManyWeigh 14 = .ok (.iload_n 2, 1) := by decide +kernel
theorem dX2_howManyWeigh_15 : decode cX2_howManyWeigh 15 = .ok (.invokevirtual 50, 3) := by decide +kernel
theorem dX2_howManyWeigh_18 : decode cX2_howManyWeigh 18 = .ok (.ifCond .le 7, 3) := by decide +kernel
theorem dX2_howManyWeigh_21 : decode cX2_howManyWeigh 21 = .ok (.iconst 1, 1) := by decide +kernel
theorem dX2_howManyWeigh_22 : decode cX2_howManyWeigh 22 = .ok (.goto 4, 3) := by decide +kernel
theorem dX2_howManyWeigh_25 : decode cX2_howManyWeigh 25 = .ok (.iconst 0, 1) := by decide +kernel
theorem dX2_howManyWeigh_26 : decode cX2_howManyWeigh 26 = .ok (.invokestatic 54, 3) := by decide +kernel
theorem dX2_howManyWeigh_29 : decode cX2_howManyWeigh 29 = .ok (.iadd, 1) := by decide +kernel
theorem dX2_howManyWeigh_30 : decode cX2_howManyWeigh 30 = .ok (.istore_n 1, 1) := by decide +kernel
theorem dX2_howManyWeigh_31 : decode cX2_howManyWeigh 31 = .ok (.iinc 2 2, 3) := by decide +kernel
theorem dX2_howManyWeigh_34 : decode cX2_howManyWeigh 34 = .ok (.goto (-30), 3) := by decide +kernel
theorem dX2_howManyWeigh_37 : decode cX2_howManyWeigh 37 = .ok (.iload_n 1, 1) := by decide +kernel
theorem dX2_howManyWeigh_38 : decode cX2_howManyWeigh 38 = .ok (.ireturn, 1) := by decide +kernel
theorem dX2_leftOf_0 : decode cX2_leftOf 0 = .ok (.iconst 2, 1) := by decide +kernel
theorem dX2_leftOf_1 : decode cX2_leftOf 1 = .ok (.aload_n 0, 1) := by decide +kernel
theorem dX2_leftOf_2 : decode cX2_leftOf 2 = .ok (.getfield 9, 3) := by decide +kernel
theorem dX2_leftOf_5 : decode cX2_leftOf 5 = .ok (.getfield 43, 3) := by decide +kernel
theorem dX2_leftOf_8 : decode cX2_leftOf 8 = .ok (.iload_n 1, 1) := by decide +kernel
theorem dX2_leftOf_9 : decode cX2_leftOf 9 = .ok (.aaload, 1) := by decide +kernel
theorem dX2_leftOf_10 : decode cX2_leftOf 10 = .ok (.iload_n 2, 1) := by decide +kernel
theorem dX2_leftOf_11 : decode cX2_leftOf 11 = .ok (.iaload, 1) := by decide +kernel
theorem dX2_leftOf_12 : decode cX2_leftOf 12 = .ok (.imul, 1) := by decide +kernel
theorem dX2_leftOf_13 : decode cX2_leftOf 13 = .ok (.istore_n 3, 1) := by decide +kernel
theorem dX2_leftOf_14 : decode cX2_leftOf 14 = .ok (.iconst 1, 1) := by decide +kernel
theorem dX2_leftOf_15 : decode cX2_leftOf 15 = .ok (.istore 4, 2) := by decide +kernel
theorem dX2_leftOf_17 : decode cX2_leftOf 17 = .ok (.iload 4, 2) := by decide +kernel
theorem dX2_leftOf_19 : decode cX2_leftOf 19 = .ok (.aload_n 0, 1) := by decide +kernel
theorem dX2_leftOf_20 : decode cX2_leftOf 20 = .ok (.invokevirtual 21, 3) := by decide +kernel
theorem dX2_leftOf_23 : decode cX2_leftOf 23 = .ok (.if_icmp .ge 33, 3) := by decide +kernel
theorem dX2_leftOf_26 : decode cX2_leftOf 26 = .ok (.iload 4, 2) := by decide +kernel
theorem dX2_leftOf_28 : decode cX2_leftOf 28 = .ok (.iload_n 1, 1) := by decide +kernel
theorem dX2_leftOf_29 : decode cX2_leftOf 29 = .ok (.invokestatic 25, 3) := by decide +kernel
theorem dX2_leftOf_32 : decode cX2_leftOf 32 = .ok (.iload 4, 2) := by decide +kernel
theorem dX2_leftOf_34 : decode cX2_leftOf 34 = .ok (.iload_n 2, 1) := by decide +kernel
theorem dX2_leftOf_35 : decode cX2_leftOf 35 = .ok (.invokestatic 25, 3) := by decide +kernel
theorem dX2_leftOf_38 : decode cX2_leftOf 38 = .ok (.if_icmp .eq 12, 3) := by decide +kernel
theorem dX2_leftOf_41 : decode cX2_leftOf 41 = .ok (.iload_n 3, 1) := by decide +kernel
theorem dX2_leftOf_42 : decode cX2_leftOf 42 = .ok (.aload_n 0, 1) := by decide +kernel
theorem dX2_leftOf_43 : decode cX2_leftOf 43 = .ok (.iload 4, 2) := by decide +kernel
theorem dX2_leftOf_45 : decode cX2_leftOf 45 = .ok (.invokevirtual 50, 3) := by decide +kernel
theorem dX2_leftOf_48 : decode cX2_leftOf 48 = .ok (.isub, 1) := by decide +kernel
theorem dX2_leftOf_49 : decode cX2_leftOf 49 = .ok (.istore_n 3, 1) := by decide +kernel
theorem dX2_leftOf_50 : decode cX2_leftOf 50 = .ok (.iinc 4 2, 3) := by decide +kernel
theorem dX2_leftOf_53 : decode cX2_leftOf 53 = .ok (.goto (-36), 3) := by decide +kernel
theorem dX2_leftOf_56 : decode cX2_leftOf 56 = .ok (.iload_n 3, 1) := by decide +kernel
theorem dX2_leftOf_57 : decode cX2_leftOf 57 = .ok (.ireturn, 1) := by decide +kernel
theorem dX3_init_0 : decode cX3_init 0 = .ok (.aload_n 0, 1) := by decide +kernel
theorem dX3_init_1 : decode cX3_init 1 = .ok (.invokespecial 3, 3) := by decide +kernel
theorem dX3_init_4 : decode cX3_init 4 = .ok (.aload_n 0, 1) := by decide +kernel
theorem dX3_init_5 : decode cX3_init 5 = .ok (.bipush 6, 2) := by decide +kernel
theorem dX3_init_7 : decode cX3_init 7 = .ok (.bipush 6, 2) := by decide +kernel
theorem dX3_init_9 : decode cX3_init 9 = .ok (.multianewarray 9 2, 4) := by decide +kernel
theorem dX3_init_13 : decode cX3_init 13 = .ok (.putfield 11, 3) := by decide +kernel
theorem dX3_init_16 : decode cX3_init 16 = .ok (.aload_n 0, 1) := by decide +kernel
theorem dX3_init_17 : decode cX3_init 17 = .ok (.bipush 6, 2) := by decide +kernel
theorem dX3_init_19 : decode cX3_init 19 = .ok (.bipush 6, 2) := by decide +kernel
theorem dX3_init_21 : decode cX3_init 21 = .ok (.multianewarray 9 2, 4) := by decide +kernel
theorem dX3_init_25 : decode cX3_init 25 = .ok (.putfield 16, 3) := by decide +kernel
theorem dX3_init_28 : decode cX3_init 28 = .ok (.return_, 1) := by decide +kernel
theorem dX3_begin_0 : decode cX3_begin 0 = .ok (.aload_n 0, 1) := by decide +kernel
theorem dX3_begin_1 : decode cX3_begin 1 = .ok (.iload_n 1, 1) := by decide +kernel
theorem dX3_begin_2 : decode cX3_begin 2 = .ok (.putfield 19, 3) := by decide +kernel
theorem dX3_begin_5 : decode cX3_begin 5 = .ok (.iconst 0, 1) := by decide +kernel
theorem dX3_begin_6 : decode cX3_begin 6 = .ok (.istore_n 2, 1) := by decide +kernel
theorem dX3_begin_7 : decode cX3_begin 7 = .ok (.iload_n 2, 1) := by decide +kernel
theorem dX3_begin_8 : decode cX3_begin 8 = .ok (.bipush 6, 2) := by decide +kernel
theorem dX3_begin_10 : decode cX3_begin 10 = .ok (.if_icmp .ge 28, 3) := by decide +kernel
theorem dX3_begin_13 : decode cX3_begin 13 = .ok (.aload_n 0, 1) := by decide +kernel
theorem dX3_begin_14 : decode cX3_begin 14 = .ok (.getfield 11, 3) := by decide +kernel
theorem dX3_begin_17 : decode cX3_begin 17 = .ok (.iload_n 2, 1) := by decide +kernel
theorem dX3_begin_18 : decode cX3_begin 18 = .ok (.aaload, 1) := by decide +kernel
theorem dX3_begin_19 : decode cX3_begin 19 = .ok (.iconst 1, 1) := by decide +kernel
theorem dX3_begin_20 : decode cX3_begin 20 = .ok (.invokestatic 23, 3) := by decide +kernel
theorem dX3_begin_23 : decode cX3_begin 23 = .ok (.aload_n 0, 1) := by decide +kernel
theorem dX3_begin_24 : decode cX3_begin 24 = .ok (.getfield 11, 3) := by decide +kernel
theorem dX3_begin_27 : decode cX3_begin 27 = .ok (.iload_n 2, 1) := by decide +kernel
theorem dX3_begin_28 : decode cX3_begin 28 = .ok (.aaload, 1) := by decide +kernel
theorem dX3_begin_29 : decode cX3_begin 29 = .ok (.iload_n 2, 1) := by decide +kernel
theorem dX3_begin_30 : decode cX3_begin 30 = .ok (.iconst 0, 1) := by decide +kernel
theorem dX3_begin_31 : decode cX3_begin 31 = .ok (.iastore, 1) := by decide +kernel
theorem dX3_begin_32 : decode cX3_begin 32 = .ok (.iinc 2 1, 3) := by decide +kernel
theorem dX3_begin_35 : decode cX3_begin 35 = .ok (.goto (-28), 3) := by decide +kernel
theorem dX3_begin_38 : decode cX3_begin 38 = .ok (.return_, 1) := by decide +kernel
theorem dX3_put_0 : decode cX3_put 0 = .ok (.aload_n 0, 1) := by decide +kernel
theorem dX3_put_1 : decode cX3_put 1 = .ok (.getfield 11, 3) := by decide +kernel
theorem dX3_put_4 : decode cX3_put 4 = .ok (.iload_n 1, 1) := by decide +kernel
theorem dX3_put_5 : decode cX3_put 5 = .ok (.aaload, 1) := by decide +kernel
theorem dX3_put_6 : decode cX3_put 6 = .ok (.iload_n 2, 1) := by decide +kernel
theorem dX3_put_7 : decode cX3_put 7 = .ok (.iload_n 3, 1) := by decide +kernel
theorem dX3_put_8 : decode cX3_put 8 = .ok (.iastore, 1) := by decide +kernel
theorem dX3_put_9 : decode cX3_put 9 = .ok (.aload_n 0, 1) := by decide +kernel
theorem dX3_put_10 : decode cX3_put 10 = .ok (.getfield 11, 3) := by decide +kernel
theorem dX3_put_13 : decode cX3_put 13 = .ok (.iload_n 2, 1) := by decide +kernel
theorem dX3_put_14 : decode cX3_put 14 = .ok (.aaload, 1) := by decide +kernel
theorem dX3_put_15 : decode cX3_put 15 = .ok (.iload_n 1, 1) := by decide +kernel
theorem dX3_put_16 : decode cX3_put 16 = .ok (.iload_n 3, 1) := by decide +kernel
theorem dX3_put_17 : decode cX3_put 17 = .ok (.iastore, 1) := by decide +kernel
theorem dX3_put_18 : decode cX3_put 18 = .ok (.return_, 1) := by decide +kernel
theorem dX3_together_0 : decode cX3_together 0 = .ok (.iload_n 2, 1) := by decide +kernel
theorem dX3_together_1 : decode cX3_together 1 = .ok (.ifCond .ne 9, 3) := by decide +kernel
theorem dX3_together_4 : decode cX3_together 4 = .ok (.iload_n 0, 1) := by decide +kernel
theorem dX3_together_5 : decode cX3_together 5 = .ok (.iload_n 1, 1) := by decide +kernel
theorem dX3_together_6 : decode cX3_together 6 = .ok (.iadd, 1) := by decide +kernel
theorem dX3_together_7 : decode cX3_together 7 = .ok (.goto 8, 3) := by decide +kernel
theorem dX3_together_10 : decode cX3_together 10 = .ok (.iload_n 0, 1) := by decide +kernel
theorem dX3_together_11 : decode cX3_together 11 = .ok (.iload_n 1, 1) := by decide +kernel
theorem dX3_together_12 : decode cX3_together 12 = .ok (.invokestatic 29, 3) := by decide +kernel
theorem dX3_together_15 : decode cX3_together 15 = .ok (.ireturn, 1) := by decide +kernel
theorem dX3_brokenThrees_0 : decode cX3_brokenThrees 0 = .ok (.iconst 0, 1) := by decide +kernel
theorem dX3_brokenThrees_1 : decode cX3_brokenThrees 1 = .ok (.istore_n 2, 1) := by decide +kernel
theorem dX3_brokenThrees_2 : decode cX3_brokenThrees 2 = .ok (.iconst 0, 1) := by decide +kernel
theorem dX3_brokenThrees_3 : decode cX3_brokenThrees 3 = .ok (.istore_n 3, 1) := by decide +kernel
theorem dX3_brokenThrees_4 : decode cX3_brokenThrees 4 = .ok (.iload_n 3, 1) := by decide +kernel
theorem dX3_brokenThrees_5 : decode cX3_brokenThrees 5 = .ok (.aload_n 0, 1) := by decide +kernel
theorem dX3_brokenThrees_6 : decode cX3_brokenThrees 6 = .ok (.getfield 19, 3) := by decide +kernel
theorem dX3_brokenThrees_9 : decode cX3_brokenThrees 9 = .ok (.if_icmp .ge 40, 3) := by decide +kernel
theorem dX3_brokenThrees_12 : decode cX3_brokenThrees 12 = .ok (.iload_n 3, 1) := by decide +kernel
theorem dX3_brokenThrees_13 : decode cX3_brokenThrees 13 = .ok (.iconst 1, 1) := by decide +kernel
theorem dX3_brokenThrees_14 : decode cX3_brokenThrees 14 = .ok (.iadd, 1) := by decide +kernel
theorem dX3_brokenThrees_15 : decode cX3_brokenThrees 15 = .ok (.istore 4, 2) := by decide +kernel
theorem dX3_brokenThrees_17 : decode cX3_brokenThrees 17 = .ok (.iload 4, 2) := by decide +kernel
theorem dX3_brokenThrees_19 : decode cX3_brokenThrees 19 = .ok (.aload_n 0, 1) := by decide +kernel
theorem dX3_brokenThrees_20 : decode cX3_brokenThrees 20 = .ok (.getfield 19, 3) := by decide +kernel
theorem dX3_brokenThrees_23 : decode cX3_brokenThrees 23 = .ok (.if_icmp .ge 20, 3) := by decide +kernel
theorem dX3_brokenThrees_26 : decode cX3_brokenThrees 26 = .ok (.iload_n 2, 1) := by decide +kernel
theorem dX3_brokenThrees_27 : decode cX3_brokenThrees 27 = .ok (.aload_n 0, 1) := by decide +kernel
theorem dX3_brokenThrees_28 : decode cX3_brokenThrees 28 = .ok (.iload_n 3, 1) := by decide +kernel
theorem dX3_brokenThrees_29 : decode cX3_brokenThrees 29 = .ok (.iload 4, 2) := by decide +kernel
theorem dX3_brokenThrees_31 : decode cX3_brokenThrees 31 = .ok (.iload_n 1, 1) := by decide +kernel
theorem dX3_brokenThrees_32 : decode cX3_brokenThrees 32 = .ok (.invokevirtual 35, 3) := by decide +kernel
theorem dX3_brokenThrees_35 : decode cX3_brokenThrees 35 = .ok (.iadd, 1) := by decide +kernel
theorem dX3_brokenThrees_36 : decode cX3_brokenThrees 36 = .ok (.istore_n 2, 1) := by decide +kernel
theorem dX3_brokenThrees_37 : decode cX3_brokenThrees 37 = .ok (.iinc 4 1, 3) := by decide +kernel
theorem dX3_brokenThrees_40 : decode cX3_brokenThrees 40 = .ok (.goto (-23), 3) := by decide +kernel
theorem dX3_brokenThrees_43 : decode cX3_brokenThrees 43 = .ok (.iinc 3 1, 3) := by decide +kernel
theorem dX3_brokenThrees_46 : decode cX3_brokenThrees 46 = .ok (.goto (-42), 3) := by decide +kernel
theorem dX3_brokenThrees_49 : decode cX3_brokenThrees 49 = .ok (.iload_n 2, 1) := by decide +kernel
theorem dX3_brokenThrees_50 : decode cX3_brokenThrees 50 = .ok (.ireturn, 1) := by decide +kernel
theorem dX3_shorterBy_0 : decode cX3_shorterBy 0 = .ok (.iconst 0, 1) := by decide +kernel
theorem dX3_shorterBy_1 : decode cX3_shorterBy 1 = .ok (.istore 4, 2) := by decide +kernel
theorem dX3_shorterBy_3 : decode cX3_shorterBy 3 = .ok (.iconst 0, 1) := by decide +kernel
theorem dX3_shorterBy_4 : decode cX3_shorterBy 4 = .ok (.istore 5, 2) := by decide +kernel
theorem dX3_shorterBy_6 : decode cX3_shorterBy 6 = .ok (.iload 5, 2) := by decide +kernel
theorem dX3_shorterBy_8 : decode cX3_shorterBy 8 = .ok (.aload_n 0, 1) := by decide +kernel
theorem dX3_shorterBy_9 : decode cX3_shorterBy 9 = .ok (.getfield 19, 3) := by decide +kernel
theorem dX3_shorterBy_12 : decode cX3_shorterBy 12 = .ok (.if_icmp .ge 45, 3) := by decide +kernel
theorem dX3_shorterBy_15 : decode cX3_shorterBy 15 = .ok (.aload_n 0, 1) := by decide +kernel
theorem dX3_shorterBy_16 : decode cX3_shorterBy 16 = .ok (.getfield 11, 3) := by decide +kernel
theorem dX3_shorterBy_19 : decode cX3_shorterBy 19 = .ok (.iload_n 1, 1) := by decide +kernel
theorem dX3_shorterBy_20 : decode cX3_shorterBy 20 = .ok (.aaload, 1) := by decide +kernel
theorem dX3_shorterBy_21 : decode cX3_shorterBy 21 = .ok (.iload_n 2, 1) := by decide +kernel
theorem dX3_shorterBy_22 : decode cX3_shorterBy 22 = .ok (.iaload, 1) := by decide +kernel
theorem dX3_shorterBy_23 : decode cX3_shorterBy 23 = .ok (.aload_n 0, 1) := by decide +kernel
theorem dX3_shorterBy_24 : decode cX3_shorterBy 24 = .ok (.getfield 11, 3) := by decide +kernel
theorem dX3_shorterBy_27 : decode cX3_shorterBy 27 = .ok (.iload_n 1, 1) := by decide +kernel
theorem dX3_shorterBy_28 : decode cX3_shorterBy 28 = .ok (.aaload, 1) := by decide +kernel
theorem dX3_shorterBy_29 : decode cX3_shorterBy 29 = .ok (.iload 5, 2) := by decide +kernel
theorem dX3_shorterBy_31 : decode cX3_shorterBy 31 = .ok (.iaload, 1) := by decide +kernel
theorem dX3_shorterBy_32 : decode cX3_shorterBy 32 = .ok (.aload_n 0, 1) := by decide +kernel
theorem dX3_shorterBy_33 : decode cX3_shorterBy 33 = .ok (.getfield 11, 3) := by decide +kernel
theorem dX3_shorterBy_36 : decode cX3_shorterBy 36 = .ok (.iload 5, 2) := by decide +kernel
theorem dX3_shorterBy_38 : decode cX3_shorterBy 38 = .ok (.aaload, 1) := by decide +kernel
theorem dX3_shorterBy_39 : decode cX3_shorterBy 39 = .ok (.iload_n 2, 1) := by decide +kernel
theorem dX3_shorterBy_40 : decode cX3_shorterBy 40 = .ok (.iaload, 1) := by decide +kernel
theorem dX3_shorterBy_41 : decode cX3_shorterBy 41 = .ok (.iload_n 3, 1) := by decide +kernel
theorem dX3_shorterBy_42 : decode cX3_shorterBy 42 = .ok (.invokestatic 39, 3) := by decide +kernel
theorem dX3_shorterBy_45 : decode cX3_shorterBy 45 = .ok (.if_icmp .le 6, 3) := by decide +kernel
theorem dX3_shorterBy_48 : decode cX3_shorterBy 48 = .ok (.iinc 4 1, 3) := by decide +kernel
theorem dX3_shorterBy_51 : decode cX3_shorterBy 51 = .ok (.iinc 5 1, 3) := by decide +kernel
theorem dX3_shorterBy_54 : decode cX3_shorterBy 54 = .ok (.goto (-48), 3) := by decide +kernel
theorem dX3_shorterBy_57 : decode cX3_shorterBy 57 = .ok (.iload 4, 2) := by decide +kernel
theorem dX3_shorterBy_59 : decode cX3_shorterBy 59 = .ok (.ireturn, 1) := by decide +kernel
theorem dX3_brokenFours_0 : decode cX3_brokenFours 0 = .ok (.iconst 0, 1) := by decide +kernel
theorem dX3_brokenFours_1 : decode cX3_brokenFours 1 = .ok (.istore_n 1, 1) := by decide +kernel
theorem dX3_brokenFours_2 : decode cX3_brokenFours 2 = .ok (.iconst 0, 1) := by decide +kernel
theorem dX3_brokenFours_3 : decode cX3_brokenFours 3 = .ok (.istore_n 2, 1) := by decide +kernel
theorem dX3_brokenFours_4 : decode cX3_brokenFours 4 = .ok (.iload_n 2, 1) := by decide +kernel
theorem dX3_brokenFours_5 : decode cX3_brokenFours 5 = .ok (.aload_n 0, 1) := by decide +kernel
theorem dX3_brokenFours_6 : decode cX3_brokenFours 6 = .ok (.getfield 19, 3) := by decide +kernel
theorem dX3_brokenFours_9 : decode cX3_brokenFours 9 = .ok (.if_icmp .ge 58, 3) := by decide +kernel
theorem dX3_brokenFours_12 : decode cX3_brokenFours 12 = .ok (.iload_n 2, 1) := by decide +kernel
theorem dX3_brokenFours_13 : decode cX3_brokenFours 13 = .ok (.iconst 1, 1) := by decide +kernel
theorem dX3_brokenFours_14 : decode cX3_brokenFours 14 = .ok (.iadd, 1) := by decide +kernel
theorem dX3_brokenFours_15 : decode cX3_brokenFours 15 = .ok (.istore_n 3, 1) := by decide +kernel
theorem dX3_brokenFours_16 : decode cX3_brokenFours 16 = .ok (.iload_n 3, 1) := by decide +kernel
theorem dX3_brokenFours_17 : decode cX3_brokenFours 17 = .ok (.aload_n 0, 1) := by decide +kernel
theorem dX3_brokenFours_18 : decode cX3_brokenFours 18 = .ok (.getfield 19, 3) := by decide +kernel
theorem dX3_brokenFours_21 : decode cX3_brokenFours 21 = .ok (.if_icmp .ge 40, 3) := by decide +kernel
theorem dX3_brokenFours_24 : decode cX3_brokenFours 24 = .ok (.iload_n 3, 1) := by decide +kernel
theorem dX3_brokenFours_25 : decode cX3_brokenFours 25 = .ok (.iconst 1, 1) := by decide +kernel
theorem dX3_brokenFours_26 : decode cX3_brokenFours 26 = .ok (.iadd, 1) := by decide +kernel
theorem dX3_brokenFours_27 : decode cX3_brokenFours 27 = .ok (.istore 4, 2) := by decide +kernel
theorem dX3_brokenFours_29 : decode cX3_brokenFours 29 = .ok (.iload 4, 2) := by decide +kernel
theorem dX3_brokenFours_31 : decode cX3_brokenFours 31 = .ok (.aload_n 0, 1) := by decide +kernel
theorem dX3_brokenFours_32 : decode cX3_brokenFours 32 = .ok (.getfield 19, 3) := by decide +kernel
theorem dX3_brokenFours_35 : decode cX3_brokenFours 35 = .ok (.if_icmp .ge 20, 3) := by decide +kernel
theorem dX3_brokenFours_38 : decode cX3_brokenFours 38 = .ok (.iload_n 1, 1) := by decide +kernel
theorem dX3_brokenFours_39 : decode cX3_brokenFours 39 = .ok (.aload_n 0, 1) := by decide +kernel
theorem dX3_brokenFours_40 : decode cX3_brokenFours 40 = .ok (.iload_n 2, 1) := by decide +kernel
theorem dX3_brokenFours_41 : decode cX3_brokenFours 41 = .ok (.iload_n 3, 1) := by decide +kernel
theorem dX3_brokenFours_42 : decode cX3_brokenFours 42 = .ok (.iload 4, 2) := by decide +kernel
theorem dX3_brokenFours_44 : decode cX3_brokenFours 44 = .ok (.invokevirtual 42, 3) := by decide +kernel
theorem dX3_brokenFours_47 : decode cX3_brokenFours 47 = .ok (.iadd, 1) := by decide +kernel
theorem dX3_brokenFours_48 : decode cX3_brokenFours 48 = .ok (.istore_n 1, 1) := by decide +kernel
theorem dX3_brokenFours_49 : decode cX3_brokenFours 49 = .ok (.iinc 4 1, 3) := by decide +kernel
theorem dX3_brokenFours_52 : decode cX3_brokenFours 52 = .ok (.goto (-23), 3) := by decide +kernel
theorem dX3_brokenFours_55 : decode cX3_brokenFours 55 = .ok (.iinc 3 1, 3) := by decide +kernel
theorem dX3_brokenFours_58 : decode cX3_brokenFours 58 = .ok (.goto (-42), 3) := by decide +kernel
theorem dX3_brokenFours_61 : decode cX3_brokenFours 61 = .ok (.iinc 2 1, 3) := by decide +kernel
theorem dX3_brokenFours_64 : decode cX3_brokenFours 64 = .ok (.goto (-60), 3) := by decide +kernel
theorem dX3_brokenFours_67 : decode cX3_brokenFours 67 = .ok (.iload_n 1, 1) := by decide +kernel
theorem dX3_brokenFours_68 : decode cX3_brokenFours 68 = .ok (.ireturn, 1) := by decide +kernel
theorem dX3_brokenFoursFrom_0 : decode cX3_brokenFoursFrom 0 = .ok (.iconst 0, 1) := by decide +kernel
theorem dX3_brokenFoursFrom_1 : decode cX3_brokenFoursFrom 1 = .ok (.istore 4, 2) := by decide +kernel
theorem dX3_brokenFoursFrom_3 : decode cX3_brokenFoursFrom 3 = .ok (.iload_n 3, 1) := by decide +kernel
theorem dX3_brokenFoursFrom_4 : decode cX3_brokenFoursFrom 4 = .ok (.iconst 1, 1) := by decide +kernel
theorem dX3_brokenFoursFrom_5 : decode cX3_brokenFoursFrom 5 = .ok (.iadd, 1) := by decide +kernel
theorem dX3_brokenFoursFrom_6 : decode cX3_brokenFoursFrom 6 = .ok (.istore 5, 2) := by decide +kernel
theorem dX3_brokenFoursFrom_8 : decode cX3_brokenFoursFrom 8 = .ok (.iload 5, 2) := by decide +kernel
theorem dX3_brokenFoursFrom_10 : decode cX3_brokenFoursFrom 10 = .ok (.aload_n 0, 1) := by decide +kernel
theorem dX3_brokenFoursFrom_11 : decode cX3_brokenFoursFrom 11 = .ok (.getfield 19, 3) := by decide +kernel
theorem dX3_brokenFoursFrom_14 : decode cX3_brokenFoursFrom 14 = .ok (.if_icmp .ge 72, 3) := by decide +kernel
theorem dX3_brokenFoursFrom_17 : decode cX3_brokenFoursFrom 17 = .ok (.aload_n 0, 1) := by decide +kernel
theorem dX3_brokenFoursFrom_18 : decode cX3_brokenFoursFrom 18 = .ok (.getfield 11, 3) := by decide +kernel
theorem dX3_brokenFoursFrom_21 : decode cX3_brokenFoursFrom 21 = .ok (.iload_n 1, 1) := by decide +kernel
theorem dX3_brokenFoursFrom_22 : decode cX3_brokenFoursFrom 22 = .ok (.aaload, 1) := by decide +kernel
theorem dX3_brokenFoursFrom_23 : decode cX3_brokenFoursFrom 23 = .ok (.iload_n 2, 1) := by decide +kernel
theorem dX3_brokenFoursFrom_24 : decode cX3_brokenFoursFrom 24 = .ok (.iaload, 1) := by decide +kernel
theorem dX3_brokenFoursFrom_25 : decode cX3_brokenFoursFrom 25 = .ok (.aload_n 0, 1) := by decide +kernel
theorem dX3_brokenFoursFrom_26 : decode cX3_brokenFoursFrom 26 = .ok (.getfield 11, 3) := by decide +kernel
theorem dX3_brokenFoursFrom_29 : decode cX3_brokenFoursFrom 29 = .ok (.iload_n 3, 1) := by decide +kernel
theorem dX3_brokenFoursFrom_30 : decode cX3_brokenFoursFrom 30 = .ok (.aaload, 1) := by decide +kernel
theorem dX3_brokenFoursFrom_31 : decode cX3_brokenFoursFrom 31 = .ok (.iload 5, 2) := by decide +kernel
theorem dX3_brokenFoursFrom_33 : decode cX3_brokenFoursFrom 33 = .ok (.iaload, 1) := by decide +kernel
theorem dX3_brokenFoursFrom_34 : decode cX3_brokenFoursFrom 34 = .ok (.iadd, 1) := by decide +kernel
theorem dX3_brokenFoursFrom_35 : decode cX3_brokenFoursFrom 35 = .ok (.aload_n 0, 1) := by decide +kernel
theorem dX3_brokenFoursFrom_36 : decode cX3_brokenFoursFrom 36 = .ok (.getfield 11, 3) := by decide +kernel
theorem dX3_brokenFoursFrom_39 : decode cX3_brokenFoursFrom 39 = .ok (.iload_n 1, 1) := by decide +kernel
theorem dX3_brokenFoursFrom_40 : decode cX3_brokenFoursFrom 40 = .ok (.aaload, 1) := by decide +kernel
theorem dX3_brokenFoursFrom_41 : decode cX3_brokenFoursFrom 41 = .ok (.iload_n 3, 1) := by decide +kernel
theorem dX3_brokenFoursFrom_42 : decode cX3_brokenFoursFrom 42 = .ok (.iaload, 1) := by decide +kernel
theorem dX3_brokenFoursFrom_43 : decode cX3_brokenFoursFrom 43 = .ok (.aload_n 0, 1) := by decide +kernel
theorem dX3_brokenFoursFrom_44 : decode cX3_brokenFoursFrom 44 = .ok (.getfield 11, 3) := by decide +kernel
theorem dX3_brokenFoursFrom_47 : decode cX3_brokenFoursFrom 47 = .ok (.iload_n 2, 1) := by decide +kernel
theorem dX3_brokenFoursFrom_48 : decode cX3_brokenFoursFrom 48 = .ok (.aaload, 1) := by decide +kernel
theorem dX3_brokenFoursFrom_49 : decode cX3_brokenFoursFrom 49 = .ok (.iload 5, 2) := by decide +kernel
theorem dX3_brokenFoursFrom_51 : decode cX3_brokenFoursFrom 51 = .ok (.iaload, 1) := by decide +kernel
theorem dX3_brokenFoursFrom_52 : decode cX3_brokenFoursFrom 52 = .ok (.iadd, 1) := by decide +kernel
theorem dX3_brokenFoursFrom_53 : decode cX3_brokenFoursFrom 53 = .ok (.aload_n 0, 1) := by decide +kernel
theorem dX3_brokenFoursFrom_54 : decode cX3_brokenFoursFrom 54 = .ok (.getfield 11, 3) := by decide +kernel
theorem dX3_brokenFoursFrom_57 : decode cX3_brokenFoursFrom 57 = .ok (.iload_n 1, 1) := by decide +kernel
theorem dX3_brokenFoursFrom_58 : decode cX3_brokenFoursFrom 58 = .ok (.aaload, 1) := by decide +kernel
theorem dX3_brokenFoursFrom_59 : decode cX3_brokenFoursFrom 59 = .ok (.iload 5, 2) := by decide +kernel
theorem dX3_brokenFoursFrom_61 : decode cX3_brokenFoursFrom 61 = .ok (.iaload, 1) := by decide +kernel
theorem dX3_brokenFoursFrom_62 : decode cX3_brokenFoursFrom 62 = .ok (.aload_n 0, 1) := by decide +kernel
theorem dX3_brokenFoursFrom_63 : decode cX3_brokenFoursFrom 63 = .ok (.getfield 11, 3) := by decide +kernel
theorem dX3_brokenFoursFrom_66 : decode cX3_brokenFoursFrom 66 = .ok (.iload_n 2, 1) := by decide +kernel
theorem dX3_brokenFoursFrom_67 : decode cX3_brokenFoursFrom 67 = .ok (.aaload, 1) := by decide +kernel
theorem dX3_brokenFoursFrom_68 : decode cX3_brokenFoursFrom 68 = .ok (.iload_n 3, 1) := by decide +kernel
theorem dX3_brokenFoursFrom_69 : decode cX3_brokenFoursFrom 69 = .ok (.iaload, 1) := by decide +kernel
theorem dX3_brokenFoursFrom_70 : decode cX3_brokenFoursFrom 70 = .ok (.iadd, 1) := by decide +kernel
theorem dX3_brokenFoursFrom_71 : decode cX3_brokenFoursFrom 71 = .ok (.invokestatic 45, 3) := by decide +kernel
theorem dX3_brokenFoursFrom_74 : decode cX3_brokenFoursFrom 74 = .ok (.ifCond .ne 6, 3) := by decide +kernel
theorem dX3_brokenFoursFrom_77 : decode cX3_brokenFoursFrom 77 = .ok (.iinc 4 1, 3) := by decide +kernel
theorem dX3_brokenFoursFrom_80 : decode cX3_brokenFoursFrom 80 = .ok (.iinc 5 1, 3) := by decide +kernel
theorem dX3_brokenFoursFrom_83 : decode cX3_brokenFoursFrom 83 = .ok (.goto (-75), 3) := by decide +kernel
theorem dX3_brokenFoursFrom_86 : decode cX3_brokenFoursFrom 86 = .ok (.iload 4, 2) := by decide +kernel
theorem dX3_brokenFoursFrom_88 : decode cX3_brokenFoursFrom 88 = .ok (.ireturn, 1) := by decide +kernel
theorem dX3_twoGreatestAlike_0 : decode cX3_twoGreatestAlike 0 = .ok (.iload_n 0, 1) := by decide +kernel
theorem dX3_twoGreatestAlike_1 : decode cX3_twoGreatestAlike 1 = .ok (.iload_n 1, 1) := by decide +kernel
theorem dX3_twoGreatestAlike_2 : decode cX3_twoGreatestAlike 2 = .ok (.iload_n 2, 1) := by decide +kernel
theorem dX3_twoGreatestAlike_3 : decode cX3_twoGreatestAlike 3 = .ok (.invokestatic 29, 3) := by decide +kernel
theorem dX3_twoGreatestAlike_6 : decode cX3_twoGreatestAlike 6 = .ok (.invokestatic 29, 3) := by decide +kernel
theorem dX3_twoGreatestAlike_9 : decode cX3_twoGreatestAlike 9 = .ok (.istore_n 3, 1) := by decide +kernel
theorem dX3_twoGreatestAlike_10 : decode cX3_twoGreatestAlike 10 = .ok (.iload_n 0, 1) := by decide +kernel
theorem dX3_twoGreatestAlike_11 : decode cX3_twoGreatestAlike 11 = .ok (.iload_n 1, 1) := by decide +kernel
theorem dX3_twoGreatestAlike_12 : decode cX3_twoGreatestAlike 12 = .ok (.if_icmp .ne 8, 3) := by decide +kernel
theorem dX3_twoGreatestAlike_15 : decode cX3_twoGreatestAlike 15 = .ok (.iload_n 0, 1) := by decide +kernel
theorem dX3_twoGreatestAlike_16 : decode cX3_twoGreatestAlike 16 = .ok (.iload_n 3, 1) := by decide +kernel
theorem dX3_twoGreatestAlike_17 : decode cX3_twoGreatestAlike 17 = .ok (.if_icmp .eq 23, 3) := by decide +kernel
theorem dX3_twoGreatestAlike_20 : decode cX3_twoGreatestAlike 20 = .ok (.iload_n 0, 1) := by decide +kernel
theorem dX3_twoGreatestAlike_21 : decode cX3_twoGreatestAlike 21 = .ok (.iload_n 2, 1) := by decide +kernel
theorem dX3_twoGreatestAlike_22 : decode cX3_twoGreatestAlike 22 = .ok (.if_icmp .ne 8, 3) := by decide +kernel
theorem dX3_twoGreatestAlike_25 : decode cX3_twoGreatestAlike 25 = .ok (.iload_n 0, 1) := by decide +kernel
theorem dX3_twoGreatestAlike_26 : decode cX3_twoGreatestAlike 26 = .ok (.iload_n 3, 1) := by decide +kernel
theorem dX3_twoGreatestAlike_27 : decode cX3_twoGreatestAlike 27 = .ok (.if_icmp .eq 13, 3) := by decide +kernel
theorem dX3_twoGreatestAlike_30 : decode cX3_twoGreatestAlike 30 = .ok (.iload_n 1, 1) := by decide +kernel
theorem dX3_twoGreatestAlike_31 : decode cX3_twoGreatestAlike 31 = .ok (.iload_n 2, 1) := by decide +kernel
theorem dX3_twoGreatestAlike_32 : decode cX3_twoGreatestAlike 32 = .ok (.if_icmp .ne 12, 3) := by decide +kernel
theorem dX3_twoGreatestAlike_35 : decode cX3_twoGreatestAlike 35 = .ok (.iload_n 1, 1) := by decide +kernel
theorem dX3_twoGreatestAlike_36 : decode cX3_twoGreatestAlike 36 = .ok (.iload_n 3, 1) := by decide +kernel
theorem dX3_twoGreatestAlike_37 : decode cX3_twoGreatestAlike 37 = .ok (.if_icmp .ne 7, 3) := by decide +kernel
theorem dX3_twoGreatestAlike_40 : decode cX3_twoGreatestAlike 40 = .ok (.iconst 1, 1) := by decide +kernel
theorem dX3_twoGreatestAlike_41 : decode cX3_twoGreatestAlike 41 = .ok (.goto 4, 3) := by decide +kernel
theorem dX3_twoGreatestAlike_44 : decode cX3_twoGreatestAlike 44 = .ok (.iconst 0, 1) := by decide +kernel
theorem dX3_twoGreatestAlike_45 : decode cX3_twoGreatestAlike 45 = .ok (.ireturn, 1) := by decide +kernel
theorem dX3_closed_0 : decode cX3_closed 0 = .ok (.iconst 0, 1) := by decide +kernel
theorem dX3_closed_1 : decode cX3_closed 1 = .ok (.istore_n 2, 1) := by decide +kernel
theorem dX3_closed_2 : decode cX3_closed 2 = .ok (.iload_n 2, 1) := by decide +kernel
theorem dX3_closed_3 : decode cX3_closed 3 = .ok (.aload_n 0, 1) := by decide +kernel
theorem dX3_closed_4 : decode cX3_closed 4 = .ok (.getfield 19, 3) := by decide +kernel
theorem dX3_closed_7 : decode cX3_closed 7 = .ok (.if_icmp .ge 30, 3) := by decide +kernel
theorem dX3_closed_10 : decode cX3_closed 10 = .ok (.aload_n 0, 1) := by decide +kernel
theorem dX3_closed_11 : decode cX3_closed 11 = .ok (.getfield 11, 3) := by decide +kernel
theorem dX3_closed_14 : decode cX3_closed 14 = .ok (.iload_n 2, 1) := by decide +kernel
theorem dX3_closed_15 : decode cX3_closed 15 = .ok (.aaload, 1) := by decide +kernel
theorem dX3_closed_16 : decode cX3_closed 16 = .ok (.iconst 0, 1) := by decide +kernel
theorem dX3_closed_17 : decode cX3_closed 17 = .ok (.aload_n 0, 1) := by decide +kernel
theorem dX3_closed_18 : decode cX3_closed 18 = .ok (.getfield 16, 3) := by decide +kernel
theorem dX3_closed_21 : decode cX3_closed 21 = .ok (.iload_n 2, 1) := by decide +kernel
theorem dX3_closed_22 : decode cX3_closed 22 = .ok (.aaload, 1) := by decide +kernel
theorem dX3_closed_23 : decode cX3_closed 23 = .ok (.iconst 0, 1) := by decide +kernel
theorem dX3_closed_24 : decode cX3_closed 24 = .ok (.aload_n 0, 1) := by decide +kernel
theorem dX3_closed_25 : decode cX3_closed 25 = .ok (.getfield 19, 3) := by decide +kernel
theorem dX3_closed_28 : decode cX3_closed 28 = .ok (.invokestatic 49, 3) := by decide +kernel
theorem dX3_closed_31 : decode cX3_closed 31 = .ok (.iinc 2 1, 3) := by decide +kernel
theorem dX3_closed_34 : decode cX3_closed 34 = .ok (.goto (-32), 3) := by decide +kernel
theorem dX3_closed_37 : decode cX3_closed 37 = .ok (.iconst 0, 1) := by decide +kernel
theorem dX3_closed_38 : decode cX3_closed 38 = .ok (.istore_n 2, 1) := by decide +kernel
theorem dX3_closed_39 : decode cX3_closed 39 = .ok (.iload_n 2, 1) := by decide +kernel
theorem dX3_closed_40 : decode cX3_closed 40 = .ok (.aload_n 0, 1) := by decide +kernel
theorem dX3_closed_41 : decode cX3_closed 41 = .ok (.getfield 19, 3) := by decide +kernel
theorem dX3_closed_44 : decode cX3_closed 44 = .ok (.if_icmp .ge 15, 3) := by decide +kernel
theorem dX3_closed_47 : decode cX3_closed 47 = .ok (.aload_n 0, 1) := by decide +kernel
theorem dX3_closed_48 : decode cX3_closed 48 = .ok (.iload_n 2, 1) := by decide +kernel
theorem dX3_closed_49 : decode cX3_closed 49 = .ok (.iload_n 1, 1) := by decide +kernel
theorem dX3_closed_50 : decode cX3_closed 50 = .ok (.invokevirtual 55, 3) := by decide +kernel
theorem dX3_closed_53 : decode cX3_closed 53 = .ok (.iinc 2 1, 3) := by decide +kernel
theorem dX3_closed_56 : decode cX3_closed 56 = .ok (.goto (-17), 3) := by decide +kernel
theorem dX3_closed_59 : decode cX3_closed 59 = .ok (.aload_n 0, 1) := by decide +kernel
theorem dX3_closed_60 : decode cX3_closed 60 = .ok (.getfield 16, 3) := by decide +kernel
theorem dX3_closed_63 : decode cX3_closed 63 = .ok (.areturn, 1) := by decide +kernel
theorem dX3_shortenBy_0 : decode cX3_shortenBy 0 = .ok (.iconst 0, 1) := by decide +kernel
theorem dX3_shortenBy_1 : decode cX3_shortenBy 1 = .ok (.istore_n 3, 1) := by decide +kernel
theorem dX3_shortenBy_2 : decode cX3_shortenBy 2 = .ok (.iload_n 3, 1) := by decide +kernel
theorem dX3_shortenBy_3 : decode cX3_shortenBy 3 = .ok (.aload_n 0, 1) := by decide +kernel
theorem dX3_shortenBy_4 : decode cX3_shortenBy 4 = .ok (.getfield 19, 3) := by decide +kernel
theorem dX3_shortenBy_7 : decode cX3_shortenBy 7 = .ok (.if_icmp .ge 69, 3) := by decide +kernel
theorem dX3_shortenBy_10 : decode cX3_shortenBy 10 = .ok (.iconst 0, 1) := by decide +kernel
theorem dX3_shortenBy_11 : decode cX3_shortenBy 11 = .ok (.istore 4, 2) := by decide +kernel
theorem dX3_shortenBy_13 : decode cX3_shortenBy 13 = .ok (.iload 4, 2) := by decide +kernel
theorem dX3_shortenBy_15 : decode cX3_shortenBy 15 = .ok (.aload_n 0, 1) := by decide +kernel
theorem dX3_shortenBy_16 : decode cX3_shortenBy 16 = .ok (.getfield 19, 3) := by decide +kernel
theorem dX3_shortenBy_19 : decode cX3_shortenBy 19 = .ok (.if_icmp .ge 51, 3) := by decide +kernel
theorem dX3_shortenBy_22 : decode cX3_shortenBy 22 = .ok (.aload_n 0, 1) := by decide +kernel
theorem dX3_shortenBy_23 : decode cX3_shortenBy 23 = .ok (.getfield 16, 3) := by decide +kernel
theorem dX3_shortenBy_26 : decode cX3_shortenBy 26 = .ok (.iload_n 3, 1) := by decide +kernel
theorem dX3_shortenBy_27 : decode cX3_shortenBy 27 = .ok (.aaload, 1) := by decide +kernel
theorem dX3_shortenBy_28 : decode cX3_shortenBy 28 = .ok (.iload 4, 2) := by decide +kernel
theorem dX3_shortenBy_30 : decode cX3_shortenBy 30 = .ok (.aload_n 0, 1) := by decide +kernel
theorem dX3_shortenBy_31 : decode cX3_shortenBy 31 = .ok (.getfield 16, 3) := by decide +kernel
theorem dX3_shortenBy_34 : decode cX3_shortenBy 34 = .ok (.iload_n 3, 1) := by decide +kernel
theorem dX3_shortenBy_35 : decode cX3_shortenBy 35 = .ok (.aaload, 1) := by decide +kernel
theorem dX3_shortenBy_36 : decode cX3_shortenBy 36 = .ok (.iload 4, 2) := by decide +kernel
theorem dX3_shortenBy_38 : decode cX3_shortenBy 38 = .ok (.iaload, 1) := by decide +kernel
theorem dX3_shortenBy_39 : decode cX3_shortenBy 39 = .ok (.aload_n 0, 1) := by decide +kernel
theorem dX3_shortenBy_40 : decode cX3_shortenBy 40 = .ok (.getfield 16, 3) := by decide +kernel
theorem dX3_shortenBy_43 : decode cX3_shortenBy 43 = .ok (.iload_n 3, 1) := by decide +kernel
theorem dX3_shortenBy_44 : decode cX3_shortenBy 44 = .ok (.aaload, 1) := by decide +kernel
theorem dX3_shortenBy_45 : decode cX3_shortenBy 45 = .ok (.iload_n 1, 1) := by decide +kernel
theorem dX3_shortenBy_46 : decode cX3_shortenBy 46 = .ok (.iaload, 1) := by decide +kernel
theorem dX3_shortenBy_47 : decode cX3_shortenBy 47 = .ok (.aload_n 0, 1) := by decide +kernel
theorem dX3_shortenBy_48 : decode cX3_shortenBy 48 = .ok (.getfield 16, 3) := by decide +kernel
theorem dX3_shortenBy_51 : decode cX3_shortenBy 51 = .ok (.iload_n 1, 1) := by decide +kernel
theorem dX3_shortenBy_52 : decode cX3_shortenBy 52 = .ok (.aaload, 1) := by decide +kernel
theorem dX3_shortenBy_53 : decode cX3_shortenBy 53 = .ok (.iload 4, 2) := by decide +kernel
theorem dX3_shortenBy_55 : decode cX3_shortenBy 55 = .ok (.iaload, 1) := by decide +kernel
theorem dX3_shortenBy_56 : decode cX3_shortenBy 56 = .ok (.iload_n 2, 1) := by decide +kernel
theorem dX3_shortenBy_57 : decode cX3_shortenBy 57 = .ok (.invokestatic 39, 3) := by decide +kernel
theorem dX3_shortenBy_60 : decode cX3_shortenBy 60 = .ok (.invokestatic 59, 3) := by decide +kernel
theorem dX3_shortenBy_63 : decode cX3_shortenBy 63 = .ok (.iastore, 1) := by decide +kernel
theorem dX3_shortenBy_64 : decode cX3_shortenBy 64 = .ok (.iinc 4 1, 3) := by decide +kernel
theorem dX3_shortenBy_67 : decode cX3_shortenBy 67 = .ok (.goto (-54), 3) := by decide +kernel
theorem dX3_shortenBy_70 : decode cX3_shortenBy 70 = .ok (.iinc 3 1, 3) := by decide +kernel
theorem dX3_shortenBy_73 : decode cX3_shortenBy 73 = .ok (.goto (-71), 3) := by decide +kernel
theorem dX3_shortenBy_76 : decode cX3_shortenBy 76 = .ok (.return_, 1) := by decide +kernel
theorem dX3_become_0 : decode cX3_become 0 = .ok (.iconst 0, 1) := by decide +kernel
theorem dX3_become_1 : decode cX3_become 1 = .ok (.istore_n 2, 1) := by decide +kernel
theorem dX3_become_2 : decode cX3_become 2 = .ok (.iconst 0, 1) := by decide +kernel
theorem dX3_become_3 : decode cX3_become 3 = .ok (.istore_n 3, 1) := by decide +kernel
theorem dX3_become_4 : decode cX3_become 4 = .ok (.iload_n 3, 1) := by decide +kernel
theorem dX3_become_5 : decode cX3_become 5 = .ok (.aload_n 0, 1) := by decide +kernel
theorem dX3_become_6 : decode cX3_become 6 = .ok (.getfield 19, 3) := by decide +kernel
theorem dX3_become_9 : decode cX3_become 9 = .ok (.if_icmp .ge 63, 3) := by decide +kernel
theorem dX3_become_12 : decode cX3_become 12 = .ok (.iload_n 3, 1) := by decide +kernel
theorem dX3_become_13 : decode cX3_become 13 = .ok (.iconst 1, 1) := by decide +kernel
theorem dX3_become_14 : decode cX3_become 14 = .ok (.iadd, 1) := by decide +kernel
theorem dX3_become_15 : decode cX3_become 15 = .ok (.istore 4, 2) := by decide +kernel
theorem dX3_become_17 : decode cX3_become 17 = .ok (.iload 4, 2) := by decide +kernel
theorem dX3_become_19 : decode cX3_become 19 = .ok (.aload_n 0, 1) := by decide +kernel
theorem dX3_become_20 : decode cX3_become 20 = .ok (.getfield 19, 3) := by decide +kernel
theorem dX3_become_23 : decode cX3_become 23 = .ok (.if_icmp .ge 43, 3) := by decide +kernel
theorem dX3_become_26 : decode cX3_become 26 = .ok (.aload_n 0, 1) := by decide +kernel
theorem dX3_become_27 : decode cX3_become 27 = .ok (.getfield 11, 3) := by decide +kernel
theorem dX3_become_30 : decode cX3_become 30 = .ok (.iload_n 3, 1) := by decide +kernel
theorem dX3_become_31 : decode cX3_become 31 = .ok (.aaload, 1) := by decide +kernel
theorem dX3_become_32 : decode cX3_become 32 = .ok (.iload 4, 2) := by decide +kernel
theorem dX3_become_34 : decode cX3_become 34 = .ok (.iaload, 1) := by decide +kernel
theorem dX3_become_35 : decode cX3_become 35 = .ok (.aload_n 1, 1) := by decide +kernel
theorem dX3_become_36 : decode cX3_become 36 = .ok (.iload_n 3, 1) := by decide +kernel
theorem dX3_become_37 : decode cX3_become 37 = .ok (.aaload, 1) := by decide +kernel
theorem dX3_become_38 : decode cX3_become 38 = .ok (.iload 4, 2) := by decide +kernel
theorem dX3_become_40 : decode cX3_become 40 = .ok (.iaload, 1) := by decide +kernel
theorem dX3_become_41 : decode cX3_become 41 = .ok (.if_icmp .eq 19, 3) := by decide +kernel
theorem dX3_become_44 : decode cX3_become 44 = .ok (.iinc 2 1, 3) := by decide +kernel
theorem dX3_become_47 : decode cX3_become 47 = .ok (.aload_n 0, 1) := by decide +kernel
theorem dX3_become_48 : decode cX3_become 48 = .ok (.iload_n 3, 1) := by decide +kernel
theorem dX3_become_49 : decode cX3_become 49 = .ok (.iload 4, 2) := by decide +kernel
theorem dX3_become_51 : decode cX3_become 51 = .ok (.aload_n 1, 1) := by decide +kernel
theorem dX3_become_52 : decode cX3_become 52 = .ok (.iload_n 3, 1) := by decide +kernel
theorem dX3_become_53 : decode cX3_become 53 = .ok (.aaload, 1) := by decide +kernel
theorem dX3_become_54 : decode cX3_become 54 = .ok (.iload 4, 2) := by decide +kernel
theorem dX3_become_56 : decode cX3_become 56 = .ok (.iaload, 1) := by decide +kernel
theorem dX3_become_57 : decode cX3_become 57 = .ok (.invokevirtual 62, 3) := by decide +kernel
theorem dX3_become_60 : decode cX3_become 60 = .ok (.iinc 4 1, 3) := by decide +kernel
theorem dX3_become_63 : decode cX3_become 63 = .ok (.goto (-46), 3) := by decide +kernel
theorem dX3_become_66 : decode cX3_become 66 = .ok (.iinc 3 1, 3) := by decide +kernel
theorem dX3_become_69 : decode cX3_become 69 = .ok (.goto (-65), 3) := by decide +kernel
theorem dX3_become_72 : decode cX3_become 72 = .ok (.iload_n 2, 1) := by decide +kernel
theorem dX3_become_73 : decode cX3_become 73 = .ok (.ireturn, 1) := by decide +kernel
theorem dX3_greatestAbove_0 : decode cX3_greatestAbove 0 = .ok (.iconst 0, 1) := by decide +kernel
theorem dX3_greatestAbove_1 : decode cX3_greatestAbove 1 = .ok (.istore_n 2, 1) := by decide +kernel
theorem dX3_greatestAbove_2 : decode cX3_greatestAbove 2 = .ok (.iconst 0, 1) := by decide +kernel
theorem dX3_greatestAbove_3 : decode cX3_greatestAbove 3 = .ok (.istore_n 3, 1) := by decide +kernel
theorem dX3_greatestAbove_4 : decode cX3_greatestAbove 4 = .ok (.iload_n 3, 1) := by decide +kernel
theorem dX3_greatestAbove_5 : decode cX3_greatestAbove 5 = .ok (.aload_n 0, 1) := by decide +kernel
theorem dX3_greatestAbove_6 : decode cX3_greatestAbove 6 = .ok (.getfield 19, 3) := by decide +kernel
theorem dX3_greatestAbove_9 : decode cX3_greatestAbove 9 = .ok (.if_icmp .ge 50, 3) := by decide +kernel
theorem dX3_greatestAbove_12 : decode cX3_greatestAbove 12 = .ok (.iload_n 3, 1) := by decide +kernel
theorem dX3_greatestAbove_13 : decode cX3_greatestAbove 13 = .ok (.iconst 1, 1) := by decide +kernel
theorem dX3_greatestAbove_14 : decode cX3_greatestAbove 14 = .ok (.iadd, 1) := by decide +kernel
theorem dX3_greatestAbove_15 : decode cX3_greatestAbove 15 = .ok (.istore 4, 2) := by decide +kernel
theorem dX3_greatestAbove_17 : decode cX3_greatestAbove 17 = .ok (.iload 4, 2) := by decide +kernel
theorem dX3_greatestAbove_19 : decode cX3_greatestAbove 19 = .ok (.aload_n 0, 1) := by decide +kernel
theorem dX3_greatestAbove_20 : decode cX3_greatestAbove 20 = .ok (.getfield 19, 3) := by decide +kernel
theorem dX3_greatestAbove_23 : decode cX3_greatestAbove 23 = .ok (.if_icmp .ge 30, 3) := by decide +kernel
theorem dX3_greatestAbove_26 : decode cX3_greatestAbove 26 = .ok (.iload_n 2, 1) := by decide +kernel
theorem dX3_greatestAbove_27 : decode cX3_greatestAbove 27 = .ok (.aload_n 0, 1) := by decide +kernel
theorem dX3_greatestAbove_28 : decode cX3_greatestAbove 28 = .ok (.getfield 11, 3) := by decide +kernel
theorem dX3_greatestAbove_31 : decode cX3_greatestAbove 31 = .ok (.iload_n 3, 1) := by decide +kernel
theorem dX3_greatestAbove_32 : decode cX3_greatestAbove 32 = .ok (.aaload, 1) := by decide +kernel
theorem dX3_greatestAbove_33 : decode cX3_greatestAbove 33 = .ok (.iload 4, 2) := by decide +kernel
theorem dX3_greatestAbove_35 : decode cX3_greatestAbove 35 = .ok (.iaload, 1) := by decide +kernel
theorem dX3_greatestAbove_36 : decode cX3_greatestAbove 36 = .ok (.aload_n 1, 1) := by decide +kernel
theorem dX3_greatestAbove_37 : decode cX3_greatestAbove 37 = .ok (.iload_n 3, 1) := by decide +kernel
theorem dX3_greatestAbove_38 : decode cX3_greatestAbove 38 = .ok (.aaload, 1) := by decide +kernel
theorem dX3_greatestAbove_39 : decode cX3_greatestAbove 39 = .ok (.iload 4, 2) := by decide +kernel
theorem dX3_greatestAbove_41 : decode cX3_greatestAbove 41 = .ok (.iaload, 1) := by decide +kernel
theorem dX3_greatestAbove_42 : decode cX3_greatestAbove 42 = .ok (.isub, 1) := by decide +kernel
theorem dX3_greatestAbove_43 : decode cX3_greatestAbove 43 = .ok (.invokestatic 29, 3) := by decide +kernel
theorem dX3_greatestAbove_46 : decode cX3_greatestAbove 46 = .ok (.istore_n 2, 1) := by decide +kernel
theorem dX3_greatestAbove_47 : decode cX3_greatestAbove 47 = .ok (.iinc 4 1, 3) := by decide +kernel
theorem dX3_greatestAbove_50 : decode cX3_greatestAbove 50 = .ok (.goto (-33), 3) := by decide +kernel
theorem dX3_greatestAbove_53 : decode cX3_greatestAbove 53 = .ok (.iinc 3 1, 3) := by decide +kernel
theorem dX3_greatestAbove_56 : decode cX3_greatestAbove 56 = .ok (.goto (-52), 3) := by decide +kernel
theorem dX3_greatestAbove_59 : decode cX3_greatestAbove 59 = .ok (.iload_n 2, 1) := by decide +kernel
theorem dX3_greatestAbove_60 : decode cX3_greatestAbove 60 = .ok (.ireturn, 1) := by decide +kernel
theorem dX3_groupsWithin_0 : decode cX3_groupsWithin 0 = .ok (.aload_n 0, 1) := by decide +kernel
theorem dX3_groupsWithin_1 : decode cX3_groupsWithin 1 = .ok (.iconst 1, 1) := by decide +kernel
theorem dX3_groupsWithin_2 : decode cX3_groupsWithin 2 = .ok (.invokevirtual 66, 3) := by decide +kernel
theorem dX3_groupsWithin_5 : decode cX3_groupsWithin 5 = .ok (.astore_n 2, 1) := by decide +kernel
theorem dX3_groupsWithin_6 : decode cX3_groupsWithin 6 = .ok (.iconst 0, 1) := by decide +kernel
theorem dX3_groupsWithin_7 : decode cX3_groupsWithin 7 = .ok (.istore_n 3, 1) := by decide +kernel
theorem dX3_groupsWithin_8 : decode cX3_groupsWithin 8 = .ok (.iconst 0, 1) := by decide +kernel
theorem dX3_groupsWithin_9 : decode cX3_groupsWithin 9 = .ok (.istore 4, 2) := by decide +kernel
theorem dX3_groupsWithin_11 : decode cX3_groupsWithin 11 = .ok (.iload 4, 2) := by decide +kernel
theorem dX3_groupsWithin_13 : decode cX3_groupsWithin 13 = .ok (.aload_n 0, 1) := by decide +kernel
theorem dX3_groupsWithin_14 : decode cX3_groupsWithin 14 = .ok (.getfield 19, 3) := by decide +kernel
theorem dX3_groupsWithin_17 : decode cX3_groupsWithin 17 = .ok (.if_icmp .ge 59, 3) := by decide +kernel
theorem dX3_groupsWithin_20 : decode cX3_groupsWithin 20 = .ok (.iconst 1, 1) := by decide +kernel
theorem dX3_groupsWithin_21 : decode cX3_groupsWithin 21 = .ok (.istore 5, 2) := by decide +kernel
theorem dX3_groupsWithin_23 : decode cX3_groupsWithin 23 = .ok (.iconst 0, 1) := by decide +kernel
theorem dX3_groupsWithin_24 : decode cX3_groupsWithin 24 = .ok (.istore 6, 2) := by decide +kernel
theorem dX3_groupsWithin_26 : decode cX3_groupsWithin 26 = .ok (.iload 6, 2) := by decide +kernel
theorem dX3_groupsWithin_28 : decode cX3_groupsWithin 28 = .ok (.iload 4, 2) := by decide +kernel
theorem dX3_groupsWithin_30 : decode cX3_groupsWithin 30 = .ok (.if_icmp .ge 32, 3) := by decide +kernel
theorem dX3_groupsWithin_33 : decode cX3_groupsWithin 33 = .ok (.iload 5, 2) := by decide +kernel
theorem dX3_groupsWithin_35 : decode cX3_groupsWithin 35 = .ok (.ifCond .eq 18, 3) := by decide +kernel
theorem dX3_groupsWithin_38 : decode cX3_groupsWithin 38 = .ok (.aload_n 2, 1) := by decide +kernel
theorem dX3_groupsWithin_39 : decode cX3_groupsWithin 39 = .ok (.iload 4, 2) := by decide +kernel
theorem dX3_groupsWithin_41 : decode cX3_groupsWithin 41 = .ok (.aaload, 1) := by decide +kernel
theorem dX3_groupsWithin_42 : decode cX3_groupsWithin 42 = .ok (.iload 6, 2) := by decide +kernel
theorem dX3_groupsWithin_44 : decode cX3_groupsWithin 44 = .ok (.iaload, 1) := by decide +kernel
theorem dX3_groupsWithin_45 : decode cX3_groupsWithin 45 = .ok (.iload_n 1, 1) := by decide +kernel
theorem dX3_groupsWithin_46 : decode cX3_groupsWithin 46 = .ok (.if_icmp .le 7, 3) := by decide +kernel
theorem dX3_groupsWithin_49 : decode cX3_groupsWithin 49 = .ok (.iconst 1, 1) := by decide +kernel
theorem dX3_groupsWithin_50 : decode cX3_groupsWithin 50 = .ok (.goto 4, 3) := by decide +kernel
theorem dX3_groupsWithin_53 : decode cX3_groupsWithin 53 = .ok (.iconst 0, 1) := by decide +kernel
theorem dX3_groupsWithin_54 : decode cX3_groupsWithin 54 = .ok (.istore 5, 2) := by decide +kernel
theorem dX3_groupsWithin_56 : decode cX3_groupsWithin 56 = .ok (.iinc 6 1, 3) := by decide +kernel
theorem dX3_groupsWithin_59 : decode cX3_groupsWithin 59 = .ok (.goto (-33), 3) := by decide +kernel
theorem dX3_groupsWithin_62 : decode cX3_groupsWithin 62 = .ok (.iload_n 3, 1) := by decide +kernel
theorem dX3_groupsWithin_63 : decode cX3_groupsWithin 63 = .ok (.iload 5, 2) := by decide +kernel
theorem dX3_groupsWithin_65 : decode cX3_groupsWithin 65 = .ok (.invokestatic 70, 3) := by decide +kernel
theorem dX3_groupsWithin_68 : decode cX3_groupsWithin 68 = .ok (.iadd, 1) := by decide +kernel
theorem dX3_groupsWithin_69 : decode cX3_groupsWithin 69 = .ok (.istore_n 3, 1) := by decide +kernel
theorem dX3_groupsWithin_70 : decode cX3_groupsWithin 70 = .ok (.iinc 4 1, 3) := by decide +kernel
theorem dX3_groupsWithin_73 : decode cX3_groupsWithin 73 = .ok (.goto (-62), 3) := by decide +kernel
theorem dX3_groupsWithin_76 : decode cX3_groupsWithin 76 = .ok (.iload_n 3, 1) := by decide +kernel
theorem dX3_groupsWithin_77 : decode cX3_groupsWithin 77 = .ok (.ireturn, 1) := by decide +kernel
theorem dX3_sumOf_0 : decode cX3_sumOf 0 = .ok (.iconst 0, 1) := by decide +kernel
theorem dX3_sumOf_1 : decode cX3_sumOf 1 = .ok (.istore_n 2, 1) := by decide +kernel
theorem dX3_sumOf_2 : decode cX3_sumOf 2 = .ok (.iconst 0, 1) := by decide +kernel
theorem dX3_sumOf_3 : decode cX3_sumOf 3 = .ok (.istore_n 3, 1) := by decide +kernel
theorem dX3_sumOf_4 : decode cX3_sumOf 4 = .ok (.iload_n 3, 1) := by decide +kernel
theorem dX3_sumOf_5 : decode cX3_sumOf 5 = .ok (.aload_n 0, 1) := by decide +kernel
theorem dX3_sumOf_6 : decode cX3_sumOf 6 = .ok (.getfield 19, 3) := by decide +kernel
theorem dX3_sumOf_9 : decode cX3_sumOf 9 = .ok (.if_icmp .ge 38, 3) := by decide +kernel
theorem dX3_sumOf_12 : decode cX3_sumOf 12 = .ok (.iload_n 3, 1) := by decide +kernel
theorem dX3_sumOf_13 : decode cX3_sumOf 13 = .ok (.iconst 1, 1) := by decide +kernel
theorem dX3_sumOf_14 : decode cX3_sumOf 14 = .ok (.iadd, 1) := by decide +kernel
theorem dX3_sumOf_15 : decode cX3_sumOf 15 = .ok (.istore 4, 2) := by decide +kernel
theorem dX3_sumOf_17 : decode cX3_sumOf 17 = .ok (.iload 4, 2) := by decide +kernel
theorem dX3_sumOf_19 : decode cX3_sumOf 19 = .ok (.aload_n 0, 1) := by decide +kernel
theorem dX3_sumOf_20 : decode cX3_sumOf 20 = .ok (.getfield 19, 3) := by decide +kernel
theorem dX3_sumOf_23 : decode cX3_sumOf 23 = .ok (.if_icmp .ge 18, 3) := by decide +kernel
theorem dX3_sumOf_26 : decode cX3_sumOf 26 = .ok (.iload_n 2, 1) := by decide +kernel
theorem dX3_sumOf_27 : decode cX3_sumOf 27 = .ok (.aload_n 1, 1) := by decide +kernel
theorem dX3_sumOf_28 : decode cX3_sumOf 28 = .ok (.iload_n 3, 1) := by decide +kernel
theorem dX3_sumOf_29 : decode cX3_sumOf 29 = .ok (.aaload, 1) := by decide +kernel
theorem dX3_sumOf_30 : decode cX3_sumOf 30 = .ok (.iload 4, 2) := by decide +kernel
theorem dX3_sumOf_32 : decode cX3_sumOf 32 = .ok (.iaload, 1) := by decide +kernel
theorem dX3_sumOf_33 : decode cX3_sumOf 33 = .ok (.iadd, 1) := by decide +kernel
theorem dX3_sumOf_34 : decode cX3_sumOf 34 = .ok (.istore_n 2, 1) := by decide +kernel
theorem dX3_sumOf_35 : decode cX3_sumOf 35 = .ok (.iinc 4 1, 3) := by decide +kernel
theorem dX3_sumOf_38 : decode cX3_sumOf 38 = .ok (.goto (-21), 3) := by decide +kernel
theorem dX3_sumOf_41 : decode cX3_sumOf 41 = .ok (.iinc 3 1, 3) := by decide +kernel
theorem dX3_sumOf_44 : decode cX3_sumOf 44 = .ok (.goto (-40), 3) := by decide +kernel
theorem dX3_sumOf_47 : decode cX3_sumOf 47 = .ok (.iload_n 2, 1) := by decide +kernel
theorem dX3_sumOf_48 : decode cX3_sumOf 48 = .ok (.ireturn, 1) := by decide +kernel
theorem dX3_greatestOf_0 : decode cX3_greatestOf 0 = .ok (.iconst 0, 1) := by decide +kernel
theorem dX3_greatestOf_1 : decode cX3_greatestOf 1 = .ok (.istore_n 2, 1) := by decide +kernel
theorem dX3_greatestOf_2 : decode cX3_greatestOf 2 = .ok (.iconst 0, 1) := by decide +kernel
theorem dX3_greatestOf_3 : decode cX3_greatestOf 3 = .ok (.istore_n 3, 1) := by decide +kernel
theorem dX3_greatestOf_4 : decode cX3_greatestOf 4 = .ok (.iload_n 3, 1) := by decide +kernel
theorem dX3_greatestOf_5 : decode cX3_greatestOf 5 = .ok (.aload_n 0, 1) := by decide +kernel
theorem dX3_greatestOf_6 : decode cX3_greatestOf 6 = .ok (.getfield 19, 3) := by decide +kernel
theorem dX3_greatestOf_9 : decode cX3_greatestOf 9 = .ok (.if_icmp .ge 40, 3) := by decide +kernel
theorem dX3_greatestOf_12 : decode cX3_greatestOf 12 = .ok (.iload_n 3, 1) := by decide +kernel
theorem dX3_greatestOf_13 : decode cX3_greatestOf 13 = .ok (.iconst 1, 1) := by decide +kernel
theorem dX3_greatestOf_14 : decode cX3_greatestOf 14 = .ok (.iadd, 1) := by decide +kernel
theorem dX3_greatestOf_15 : decode cX3_greatestOf 15 = .ok (.istore 4, 2) := by decide +kernel
theorem dX3_greatestOf_17 : decode cX3_greatestOf 17 = .ok (.iload 4, 2) := by decide +kernel
theorem dX3_greatestOf_19 : decode cX3_greatestOf 19 = .ok (.aload_n 0, 1) := by decide +kernel
theorem dX3_greatestOf_20 : decode cX3_greatestOf 20 = .ok (.getfield 19, 3) := by decide +kernel
theorem dX3_greatestOf_23 : decode cX3_greatestOf 23 = .ok (.if_icmp .ge 20, 3) := by decide +kernel
theorem dX3_greatestOf_26 : decode cX3_greatestOf 26 = .ok (.iload_n 2, 1) := by decide +kernel
theorem dX3_greatestOf_27 : decode cX3_greatestOf 27 = .ok (.aload_n 1, 1) := by decide +kernel
theorem dX3_greatestOf_28 : decode cX3_greatestOf 28 = .ok (.iload_n 3, 1) := by decide +kernel
theorem dX3_greatestOf_29 : decode cX3_greatestOf 29 = .ok (.aaload, 1) := by decide +kernel
theorem dX3_greatestOf_30 : decode cX3_greatestOf 30 = .ok (.iload 4, 2) := by decide +kernel
theorem dX3_greatestOf_32 : decode cX3_greatestOf 32 = .ok (.iaload, 1) := by decide +kernel
theorem dX3_greatestOf_33 : decode cX3_greatestOf 33 = .ok (.invokestatic 29, 3) := by decide +kernel
theorem dX3_greatestOf_36 : decode cX3_greatestOf 36 = .ok (.istore_n 2, 1) := by decide +kernel
theorem dX3_greatestOf_37 : decode cX3_greatestOf 37 = .ok (.iinc 4 1, 3) := by decide +kernel
theorem dX3_greatestOf_40 : decode cX3_greatestOf 40 = .ok (.goto (-23), 3) := by decide +kernel
theorem dX3_greatestOf_43 : decode cX3_greatestOf 43 = .ok (.iinc 3 1, 3) := by decide +kernel
theorem dX3_greatestOf_46 : decode cX3_greatestOf 46 = .ok (.goto (-42), 3) := by decide +kernel
theorem dX3_greatestOf_49 : decode cX3_greatestOf 49 = .ok (.iload_n 2, 1) := by decide +kernel
theorem dX3_greatestOf_50 : decode cX3_greatestOf 50 = .ok (.ireturn, 1) := by decide +kernel
theorem dX4_init_0 : decode cX4_init 0 = .ok (.aload_n 0, 1) := by decide +kernel
theorem dX4_init_1 : decode cX4_init 1 = .ok (.invokespecial 3, 3) := by decide +kernel
theorem dX4_init_4 : decode cX4_init 4 = .ok (.aload_n 0, 1) := by decide +kernel
theorem dX4_init_5 : decode cX4_init 5 = .ok (.new 9, 3) := by decide +kernel
theorem dX4_init_8 : decode cX4_init 8 = .ok (.dup, 1) := by decide +kernel
theorem dX4_init_9 : decode cX4_init 9 = .ok (.invokespecial 11, 3) := by decide +kernel
theorem dX4_init_12 : decode cX4_init 12 = .ok (.putfield 12, 3) := by decide +kernel
theorem dX4_init_15 : decode cX4_init 15 = .ok (.aload_n 0, 1) := by decide +kernel
theorem dX4_init_16 : decode cX4_init 16 = .ok (.new 16, 3) := by decide +kernel
theorem dX4_init_19 : decode cX4_init 19 = .ok (.dup, 1) := by decide +kernel
theorem dX4_init_20 : decode cX4_init 20 = .ok (.aload_n 0, 1) := by decide +kernel
theorem dX4_init_21 : decode cX4_init 21 = .ok (.getfield 12, 3) := by decide +kernel
theorem dX4_init_24 : decode cX4_init 24 = .ok (.invokespecial 18, 3) := by decide +kernel
theorem dX4_init_27 : decode cX4_init 27 = .ok (.putfield 21, 3) := by decide +kernel
theorem dX4_init_30 : decode cX4_init 30 = .ok (.aload_n 0, 1) := by decide +kernel
theorem dX4_init_31 : decode cX4_init 31 = .ok (.new 25, 3) := by decide +kernel
theorem dX4_init_34 : decode cX4_init 34 = .ok (.dup, 1) := by decide +kernel
theorem dX4_init_35 : decode cX4_init 35 = .ok (.aload_n 0, 1) := by decide +kernel
theorem dX4_init_36 : decode cX4_init 36 = .ok (.getfield 12, 3) := by decide +kernel
theorem dX4_init_39 : decode cX4_init 39 = .ok (.invokespecial 27, 3) := by decide +kernel
theorem dX4_init_42 : decode cX4_init 42 = .ok (.putfield 28, 3) := by decide +kernel
theorem dX4_init_45 : decode cX4_init 45 = .ok (.aload_n 0, 1) := by decide +kernel
theorem dX4_init_46 : decode cX4_init 46 = .ok (.new 32, 3) := by decide +kernel
theorem dX4_init_49 : decode cX4_init 49 = .ok (.dup, 1) := by decide +kernel
theorem dX4_init_50 : decode cX4_init 50 = .ok (.aload_n 0, 1) := by decide +kernel
theorem dX4_init_51 : decode cX4_init 51 = .ok (.getfield 12, 3) := by decide +kernel
theorem dX4_init_54 : decode cX4_init 54 = .ok (.invokespecial 34, 3) := by decide +kernel
theorem dX4_init_57 : decode cX4_init 57 = .ok (.putfield 35, 3) := by decide +kernel
theorem dX4_init_60 : decode cX4_init 60 = .ok (.aload_n 0, 1) := by decide +kernel
theorem dX4_init_61 : decode cX4_init 61 = .ok (.iconst 0, 1) := by decide +kernel
theorem dX4_init_62 : decode cX4_init 62 = .ok (.putfield 39, 3) := by decide +kernel
theorem dX4_init_65 : decode cX4_init 65 = .ok (.aload_n 0, 1) := by decide +kernel
theorem dX4_init_66 : decode cX4_init 66 = .ok (.getfield 12, 3) := by decide +kernel
theorem dX4_init_69 : decode cX4_init 69 = .ok (.iconst 2, 1) := by decide +kernel
theorem dX4_init_70 : decode cX4_init 70 = .ok (.invokevirtual 43, 3) := by decide +kernel
theorem dX4_init_73 : decode cX4_init 73 = .ok (.return_, 1) := by decide +kernel
theorem dX4_points_0 : decode cX4_points 0 = .ok (.iload_n 1, 1) := by decide +kernel
theorem dX4_points_1 : decode cX4_points 1 = .ok (.iconst 2, 1) := by decide +kernel
theorem dX4_points_2 : decode cX4_points 2 = .ok (.if_icmp .lt 9, 3) := by decide +kernel
theorem dX4_points_5 : decode cX4_points 5 = .ok (.iload_n 1, 1) := by decide +kernel
theorem dX4_points_6 : decode cX4_points 6 = .ok (.bipush 6, 2) := by decide +kernel
theorem dX4_points_8 : decode cX4_points 8 = .ok (.if_icmp .le 6, 3) := by decide +kernel
theorem dX4_points_11 : decode cX4_points 11 = .ok (.bipush (-102), 2) := by decide +kernel
theorem dX4_points_13 : decode cX4_points 13 = .ok (.ireturn, 1) := by decide +kernel
theorem dX4_points_14 : decode cX4_points 14 = .ok (.aload_n 0, 1) := by decide +kernel
theorem dX4_points_15 : decode cX4_points 15 = .ok (.getfield 12, 3) := by decide +kernel
theorem dX4_points_18 : decode cX4_points 18 = .ok (.iload_n 1, 1) := by decide +kernel
theorem dX4_points_19 : decode cX4_points 19 = .ok (.invokevirtual 43, 3) := by decide +kernel
theorem dX4_points_22 : decode cX4_points 22 = .ok (.iload_n 1, 1) := by decide +kernel
theorem dX4_points_23 : decode cX4_points 23 = .ok (.ireturn, 1) := by decide +kernel
theorem dX4_set_0 : decode cX4_set 0 = .ok (.aload_n 0, 1) := by decide +kernel
theorem dX4_set_1 : decode cX4_set 1 = .ok (.iload_n 1, 1) := by decide +kernel
theorem dX4_set_2 : decode cX4_set 2 = .ok (.iload_n 2, 1) := by decide +kernel
theorem dX4_set_3 : decode cX4_set 3 = .ok (.invokevirtual 47, 3) := by decide +kernel
theorem dX4_set_6 : decode cX4_set 6 = .ok (.ifCond .eq 8, 3) := by decide +kernel
theorem dX4_set_9 : decode cX4_set 9 = .ok (.iload_n 1, 1) := by decide +kernel
theorem dX4_set_10 : decode cX4_set 10 = .ok (.iload_n 2, 1) := by decide +kernel
theorem dX4_set_11 : decode cX4_set 11 = .ok (.if_icmp .ne 6, 3) := by decide +kernel
theorem dX4_set_14 : decode cX4_set 14 = .ok (.bipush (-101), 2) := by decide +kernel
theorem dX4_set_16 : decode cX4_set 16 = .ok (.ireturn, 1) := by decide +kernel
theorem dX4_set_17 : decode cX4_set 17 = .ok (.iload_n 3, 1) := by decide +kernel
theorem dX4_set_18 : decode cX4_set 18 = .ok (.iconst 1, 1) := by decide +kernel
theorem dX4_set_19 : decode cX4_set 19 = .ok (.if_icmp .lt 10, 3) := by decide +kernel
theorem dX4_set_22 : decode cX4_set 22 = .ok (.iload_n 3, 1) := by decide +kernel
theorem dX4_set_23 : decode cX4_set 23 = .ok (.sipush 1000, 3) := by decide +kernel
theorem dX4_set_26 : decode cX4_set 26 = .ok (.if_icmp .le 6, 3) := by decide +kernel
theorem dX4_set_29 : decode cX4_set 29 = .ok (.bipush (-102), 2) := by decide +kernel
theorem dX4_set_31 : decode cX4_set 31 = .ok (.ireturn, 1) := by decide +kernel
theorem dX4_set_32 : decode cX4_set 32 = .ok (.aload_n 0, 1) := by decide +kernel
theorem dX4_set_33 : decode cX4_set 33 = .ok (.getfield 12, 3) := by decide +kernel
theorem dX4_set_36 : decode cX4_set 36 = .ok (.getfield 51, 3) := by decide +kernel
theorem dX4_set_39 : decode cX4_set 39 = .ok (.iload_n 1, 1) := by decide +kernel
theorem dX4_set_40 : decode cX4_set 40 = .ok (.aaload, 1) := by decide +kernel
theorem dX4_set_41 : decode cX4_set 41 = .ok (.iload_n 2, 1) := by decide +kernel
theorem dX4_set_42 : decode cX4_set 42 = .ok (.iaload, 1) := by decide +kernel
theorem dX4_set_43 : decode cX4_set 43 = .ok (.istore 4, 2) := by decide +kernel
theorem dX4_set_45 : decode cX4_set 45 = .ok (.aload_n 0, 1) := by decide +kernel
theorem dX4_set_46 : decode cX4_set 46 = .ok (.getfield 12, 3) := by decide +kernel
theorem dX4_set_49 : decode cX4_set 49 = .ok (.iload_n 1, 1) := by decide +kernel
theorem dX4_set_50 : decode cX4_set 50 = .ok (.iload_n 2, 1) := by decide +kernel
theorem dX4_set_51 : decode cX4_set 51 = .ok (.iload_n 3, 1) := by decide +kernel
theorem dX4_set_52 : decode cX4_set 52 = .ok (.invokevirtual 55, 3) := by decide +kernel
theorem dX4_set_55 : decode cX4_set 55 = .ok (.iload 4, 2) := by decide +kernel
theorem dX4_set_57 : decode cX4_set 57 = .ok (.ireturn, 1) := by decide +kernel
theorem dX4_get_0 : decode cX4_get 0 = .ok (.aload_n 0, 1) := by decide +kernel
theorem dX4_get_1 : decode cX4_get 1 = .ok (.iload_n 1, 1) := by decide +kernel
theorem dX4_get_2 : decode cX4_get 2 = .ok (.iload_n 2, 1) := by decide +kernel
theorem dX4_get_3 : decode cX4_get 3 = .ok (.invokevirtual 47, 3) := by decide +kernel
theorem dX4_get_6 : decode cX4_get 6 = .ok (.ifCond .eq 17, 3) := by decide +kernel
theorem dX4_get_9 : decode cX4_get 9 = .ok (.aload_n 0, 1) := by decide +kernel
theorem dX4_get_10 : decode cX4_get 10 = .ok (.getfield 12, 3) := by decide +kernel
theorem dX4_get_13 : decode cX4_get 13 = .ok (.getfield 51, 3) := by decide +kernel
theorem dX4_get_16 : decode cX4_get 16 = .ok (.iload_n 1, 1) := by decide +kernel
theorem dX4_get_17 : decode cX4_get 17 = .ok (.aaload, 1) := by decide +kernel
theorem dX4_get_18 : decode cX4_get 18 = .ok (.iload_n 2, 1) := by decide +kernel
theorem dX4_get_19 : decode cX4_get 19 = .ok (.iaload, 1) := by decide +kernel
theorem dX4_get_20 : decode cX4_get 20 = .ok (.goto 5, 3) := by decide +kernel
theorem dX4_get_23 : decode cX4_get 23 = .ok (.bipush (-101), 2) := by decide +kernel
theorem dX4_get_25 : decode cX4_get 25 = .ok (.ireturn, 1) := by decide +kernel
theorem dX4_is_0 : decode cX4_is 0 = .ok (.iload_n 1, 1) := by decide +kernel
theorem dX4_is_1 : decode cX4_is 1 = .ok (.ifCond .eq 8, 3) := by decide +kernel
theorem dX4_is_4 : decode cX4_is 4 = .ok (.iload_n 1, 1) := by decide +kernel
theorem dX4_is_5 : decode cX4_is 5 = .ok (.iconst 1, 1) := by decide +kernel
theorem dX4_is_6 : decode cX4_is 6 = .ok (.if_icmp .ne 23, 3) := by decide +kernel
theorem dX4_is_9 : decode cX4_is 9 = .ok (.aload_n 0, 1) := by decide +kernel
theorem dX4_is_10 : decode cX4_is 10 = .ok (.getfield 12, 3) := by decide +kernel
theorem dX4_is_13 : decode cX4_is 13 = .ok (.iload_n 1, 1) := by decide +kernel
theorem dX4_is_14 : decode cX4_is 14 = .ok (.invokevirtual 59, 3) := by decide +kernel
theorem dX4_is_17 : decode cX4_is 17 = .ok (.ifCond .ne 7, 3) := by decide +kernel
theorem dX4_is_20 : decode cX4_is 20 = .ok (.iconst 1, 1) := by decide +kernel
theorem dX4_is_21 : decode cX4_is 21 = .ok (.goto 4, 3) := by decide +kernel
theorem dX4_is_24 : decode cX4_is 24 = .ok (.iconst 0, 1) := by decide +kernel
theorem dX4_is_25 : decode cX4_is 25 = .ok (.invokestatic 63, 3) := by decide +kernel
theorem dX4_is_28 : decode cX4_is 28 = .ok (.ireturn, 1) := by decide +kernel
theorem dX4_is_29 : decode cX4_is 29 = .ok (.iload_n 1, 1) := by decide +kernel
theorem dX4_is_30 : decode cX4_is 30 = .ok (.iconst 2, 1) := by decide +kernel
theorem dX4_is_31 : decode cX4_is 31 = .ok (.if_icmp .ne 29, 3) := by decide +kernel
theorem dX4_is_34 : decode cX4_is 34 = .ok (.aload_n 0, 1) := by decide +kernel
theorem dX4_is_35 : decode cX4_is 35 = .ok (.invokevirtual 67, 3) := by decide +kernel
theorem dX4_is_38 : decode cX4_is 38 = .ok (.ifCond .eq 17, 3) := by decide +kernel
theorem dX4_is_41 : decode cX4_is 41 = .ok (.aload_n 0, 1) := by decide +kernel
theorem dX4_is_42 : decode cX4_is 42 = .ok (.getfield 12, 3) := by decide +kernel
theorem dX4_is_45 : decode cX4_is 45 = .ok (.invokevirtual 71, 3) := by decide +kernel
theorem dX4_is_48 : decode cX4_is 48 = .ok (.ifCond .ne 7, 3) := by decide +kernel
theorem dX4_is_51 : decode cX4_is 51 = .ok (.iconst 1, 1) := by decide +kernel
theorem dX4_is_52 : decode cX4_is 52 = .ok (.goto 4, 3) := by decide +kernel
theorem dX4_is_55 : decode cX4_is 55 = .ok (.iconst 0, 1) := by decide +kernel
theorem dX4_is_56 : decode cX4_is 56 = .ok (.invokestatic 63, 3) := by decide +kernel
theorem dX4_is_59 : decode cX4_is 59 = .ok (.ireturn, 1) := by decide +kernel
theorem dX4_is_60 : decode cX4_is 60 = .ok (.bipush (-102), 2) := by decide +kernel
theorem dX4_is_62 : decode cX4_is 62 = .ok (.ireturn, 1) := by decide +kernel
theorem dX4_broken_0 : decode cX4_broken 0 = .ok (.iload_n 1, 1) := by decide +kernel
theorem dX4_broken_1 : decode cX4_broken 1 = .ok (.ifCond .eq 8, 3) := by decide +kernel
theorem dX4_broken_4 : decode cX4_broken 4 = .ok (.iload_n 1, 1) := by decide +kernel
theorem dX4_broken_5 : decode cX4_broken 5 = .ok (.iconst 1, 1) := by decide +kernel
theorem dX4_broken_6 : decode cX4_broken 6 = .ok (.if_icmp .ne 12, 3) := by decide +kernel
theorem dX4_broken_9 : decode cX4_broken 9 = .ok (.aload_n 0, 1) := by decide +kernel
theorem dX4_broken_10 : decode cX4_broken 10 = .ok (.getfield 12, 3) := by decide +kernel
theorem dX4_broken_13 : decode cX4_broken 13 = .ok (.iload_n 1, 1) := by decide +kernel
theorem dX4_broken_14 : decode cX4_broken 14 = .ok (.invokevirtual 59, 3) := by decide +kernel
theorem dX4_broken_17 : decode cX4_broken 17 = .ok (.ireturn, 1) := by decide +kernel
theorem dX4_broken_18 : decode cX4_broken 18 = .ok (.iload_n 1, 1) := by decide +kernel
theorem dX4_broken_19 : decode cX4_broken 19 = .ok (.iconst 2, 1) := by decide +kernel
theorem dX4_broken_20 : decode cX4_broken 20 = .ok (.if_icmp .ne 13, 3) := by decide +kernel
theorem dX4_broken_23 : decode cX4_broken 23 = .ok (.aload_n 0, 1) := by decide +kernel
theorem dX4_broken_24 : decode cX4_broken 24 = .ok (.getfield 12, 3) := by decide +kernel
theorem dX4_broken_27 : decode cX4_broken 27 = .ok (.invokevirtual 71, 3) := by decide +kernel
theorem dX4_broken_30 : decode cX4_broken 30 = .ok (.goto 5, 3) := by decide +kernel
theorem dX4_broken_33 : decode cX4_broken 33 = .ok (.bipush (-102), 2) := by decide +kernel
theorem dX4_broken_35 : decode cX4_broken 35 = .ok (.ireturn, 1) := by decide +kernel
theorem dX4_mend_0 : decode cX4_mend 0 = .ok (.aload_n 0, 1) := by decide +kernel
theorem dX4_mend_1 : decode cX4_mend 1 = .ok (.getfield 12, 3) := by decide +kernel
theorem dX4_mend_4 : decode cX4_mend 4 = .ok (.aload_n 0, 1) := by decide +kernel
theorem dX4_mend_5 : decode cX4_mend 5 = .ok (.getfield 12, 3) := by decide +kernel
theorem dX4_mend_8 : decode cX4_mend 8 = .ok (.iconst 0, 1) := by decide +kernel
theorem dX4_mend_9 : decode cX4_mend 9 = .ok (.invokevirtual 75, 3) := by decide +kernel
theorem dX4_mend_12 : decode cX4_mend 12 = .ok (.invokevirtual 79, 3) := by decide +kernel
theorem dX4_mend_15 : decode cX4_mend 15 = .ok (.ireturn, 1) := by decide +kernel
theorem dX4_low_0 : decode cX4_low 0 = .ok (.aload_n 0, 1) := by decide +kernel
theorem dX4_low_1 : decode cX4_low 1 = .ok (.iload_n 1, 1) := by decide +kernel
theorem dX4_low_2 : decode cX4_low 2 = .ok (.iload_n 2, 1) := by decide +kernel
theorem dX4_low_3 : decode cX4_low 3 = .ok (.invokevirtual 47, 3) := by decide +kernel
theorem dX4_low_6 : decode cX4_low 6 = .ok (.ifCond .eq 18, 3) := by decide +kernel
theorem dX4_low_9 : decode cX4_low 9 = .ok (.aload_n 0, 1) := by decide +kernel
theorem dX4_low_10 : decode cX4_low 10 = .ok (.getfield 12, 3) := by decide +kernel
theorem dX4_low_13 : decode cX4_low 13 = .ok (.iconst 1, 1) := by decide +kernel
theorem dX4_low_14 : decode cX4_low 14 = .ok (.invokevirtual 75, 3) := by decide +kernel
theorem dX4_low_17 : decode cX4_low 17 = .ok (.iload_n 1, 1) := by decide +kernel
theorem dX4_low_18 : decode cX4_low 18 = .ok (.aaload, 1) := by decide +kernel
theorem dX4_low_19 : decode cX4_low 19 = .ok (.iload_n 2, 1) := by decide +kernel
theorem dX4_low_20 : decode cX4_low 20 = .ok (.iaload, 1) := by decide +kernel
theorem dX4_low_21 : decode cX4_low 21 = .ok (.goto 5, 3) := by decide +kernel
theorem dX4_low_24 : decode cX4_low 24 = .ok (.bipush (-101), 2) := by decide +kernel
theorem dX4_low_26 : decode cX4_low 26 = .ok (.ireturn, 1) := by decide +kernel
theorem dX4_gap_0 : decode cX4_gap 0 = .ok (.aload_n 0, 1) := by decide +kernel
theorem dX4_gap_1 : decode cX4_gap 1 = .ok (.getfield 12, 3) := by decide +kernel
theorem dX4_gap_4 : decode cX4_gap 4 = .ok (.aload_n 0, 1) := by decide +kernel
theorem dX4_gap_5 : decode cX4_gap 5 = .ok (.getfield 12, 3) := by decide +kernel
theorem dX4_gap_8 : decode cX4_gap 8 = .ok (.iconst 1, 1) := by decide +kernel
theorem dX4_gap_9 : decode cX4_gap 9 = .ok (.invokevirtual 75, 3) := by decide +kernel
theorem dX4_gap_12 : decode cX4_gap 12 = .ok (.invokevirtual 83, 3) := by decide +kernel
theorem dX4_gap_15 : decode cX4_gap 15 = .ok (.ireturn, 1) := by decide +kernel
theorem dX4_groups_0 : decode cX4_groups 0 = .ok (.iload_n 1, 1) := by decide +kernel
theorem dX4_groups_1 : decode cX4_groups 1 = .ok (.invokestatic 86, 3) := by decide +kernel
theorem dX4_groups_4 : decode cX4_groups 4 = .ok (.ifCond .eq 14, 3) := by decide +kernel
theorem dX4_groups_7 : decode cX4_groups 7 = .ok (.aload_n 0, 1) := by decide +kernel
theorem dX4_groups_8 : decode cX4_groups 8 = .ok (.getfield 12, 3) := by decide +kernel
theorem dX4_groups_11 : decode cX4_groups 11 = .ok (.iload_n 1, 1) := by decide +kernel
theorem dX4_groups_12 : decode cX4_groups 12 = .ok (.invokevirtual 90, 3) := by decide +kernel
theorem dX4_groups_15 : decode cX4_groups 15 = .ok (.goto 5, 3) := by decide +kernel
theorem dX4_groups_18 : decode cX4_groups 18 = .ok (.bipush (-102), 2) := by decide +kernel
theorem dX4_groups_20 : decode cX4_groups 20 = .ok (.ireturn, 1) := by decide +kernel
theorem dX4_lower_0 : decode cX4_lower 0 = .ok (.aload_n 0, 1) := by decide +kernel
theorem dX4_lower_1 : decode cX4_lower 1 = .ok (.getfield 12, 3) := by decide +kernel
theorem dX4_lower_4 : decode cX4_lower 4 = .ok (.aload_n 0, 1) := by decide +kernel
theorem dX4_lower_5 : decode cX4_lower 5 = .ok (.getfield 12, 3) := by decide +kernel
theorem dX4_lower_8 : decode cX4_lower 8 = .ok (.iconst 1, 1) := by decide +kernel
theorem dX4_lower_9 : decode cX4_lower 9 = .ok (.invokevirtual 75, 3) := by decide +kernel
theorem dX4_lower_12 : decode cX4_lower 12 = .ok (.invokevirtual 79, 3) := by decide +kernel
theorem dX4_lower_15 : decode cX4_lower 15 = .ok (.ireturn, 1) := by decide +kernel
theorem dX4_codes_0 : decode cX4_codes 0 = .ok (.aload_n 0, 1) := by decide +kernel
theorem dX4_codes_1 : decode cX4_codes 1 = .ok (.getfield 21, 3) := by decide +kernel
theorem dX4_codes_4 : decode cX4_codes 4 = .ok (.invokevirtual 93, 3) := by decide +kernel
theorem dX4_codes_7 : decode cX4_codes 7 = .ok (.ireturn, 1) := by decide +kernel
theorem dX4_joined_0 : decode cX4_joined 0 = .ok (.aload_n 0, 1) := by decide +kernel
theorem dX4_joined_1 : decode cX4_joined 1 = .ok (.iload_n 1, 1) := by decide +kernel
theorem dX4_joined_2 : decode cX4_joined 2 = .ok (.invokevirtual 96, 3) := by decide +kernel
theorem dX4_joined_5 : decode cX4_joined 5 = .ok (.ifCond .ne 6, 3) := by decide +kernel
theorem dX4_joined_8 : decode cX4_joined 8 = .ok (.bipush (-102), 2) := by decide +kernel
theorem dX4_joined_10 : decode cX4_joined 10 = .ok (.ireturn, 1) := by decide +kernel
theorem dX4_joined_11 : decode cX4_joined 11 = .ok (.aload_n 0, 1) := by decide +kernel
theorem dX4_joined_12 : decode cX4_joined 12 = .ok (.iload_n 2, 1) := by decide +kernel
theorem dX4_joined_13 : decode cX4_joined 13 = .ok (.iload_n 3, 1) := by decide +kernel
theorem dX4_joined_14 : decode cX4_joined 14 = .ok (.invokevirtual 47, 3) := by decide +kernel
theorem dX4_joined_17 : decode cX4_joined 17 = .ok (.ifCond .ne 6, 3) := by decide +kernel
theorem dX4_joined_20 : decode cX4_joined 20 = .ok (.bipush (-101), 2) := by decide +kernel
theorem dX4_joined_22 : decode cX4_joined 22 = .ok (.ireturn, 1) := by decide +kernel
theorem dX4_joined_23 : decode cX4_joined 23 = .ok (.aload_n 0, 1) := by decide +kernel
theorem dX4_joined_24 : decode cX4_joined 24 = .ok (.getfield 21, 3) := by decide +kernel
theorem dX4_joined_27 : decode cX4_joined 27 = .ok (.iload_n 1, 1) := by decide +kernel
theorem dX4_joined_28 : decode cX4_joined 28 = .ok (.invokevirtual 99, 3) := by decide +kernel
theorem dX4_joined_31 : decode cX4_joined 31 = .ok (.aload_n 0, 1) := by decide +kernel
theorem dX4_joined_32 : decode cX4_joined 32 = .ok (.getfield 21, 3) := by decide +kernel
theorem dX4_joined_35 : decode cX4_joined 35 = .ok (.iload_n 2, 1) := by decide +kernel
theorem dX4_joined_36 : decode cX4_joined 36 = .ok (.iload_n 3, 1) := by decide +kernel
theorem dX4_joined_37 : decode cX4_joined 37 = .ok (.invokevirtual 102, 3) := by decide +kernel
theorem dX4_joined_40 : decode cX4_joined 40 = .ok (.invokestatic 63, 3) := by decide +kernel
theorem dX4_joined_43 : decode cX4_joined 43 = .ok (.ireturn, 1) := by decide +kernel
theorem dX4_way_0 : decode cX4_way 0 = .ok (.aload_n 0, 1) := by decide +kernel
theorem dX4_way_1 : decode cX4_way 1 = .ok (.iload_n 1, 1) := by decide +kernel
theorem dX4_way_2 : decode cX4_way 2 = .ok (.invokevirtual 96, 3) := by decide +kernel
theorem dX4_way_5 : decode cX4_way 5 = .ok (.ifCond .ne 6, 3) := by decide +kernel
theorem dX4_way_8 : decode cX4_way 8 = .ok (.bipush (-102), 2) := by decide +kernel
theorem dX4_way_10 : decode cX4_way 10 = .ok (.ireturn, 1) := by decide +kernel
theorem dX4_way_11 : decode cX4_way 11 = .ok (.aload_n 0, 1) := by decide +kernel
theorem dX4_way_12 : decode cX4_way 12 = .ok (.iload_n 2, 1) := by decide +kernel
theorem dX4_way_13 : decode cX4_way 13 = .ok (.iload_n 3, 1) := by decide +kernel
theorem dX4_way_14 : decode cX4_way 14 = .ok (.invokevirtual 47, 3) := by decide +kernel
theorem dX4_way_17 : decode cX4_way 17 = .ok (.ifCond .ne 6, 3) := by decide +kernel
theorem dX4_way_20 : decode cX4_way 20 = .ok (.bipush (-101), 2) := by decide +kernel
theorem dX4_way_22 : decode cX4_way 22 = .ok (.ireturn, 1) := by decide +kernel
theorem dX4_way_23 : decode cX4_way 23 = .ok (.aload_n 0, 1) := by decide +kernel
theorem dX4_way_24 : decode cX4_way 24 = .ok (.getfield 21, 3) := by decide +kernel
theorem dX4_way_27 : decode cX4_way 27 = .ok (.iload_n 1, 1) := by decide +kernel
theorem dX4_way_28 : decode cX4_way 28 = .ok (.invokevirtual 105, 3) := by decide +kernel
theorem dX4_way_31 : decode cX4_way 31 = .ok (.aload_n 0, 1) := by decide +kernel
theorem dX4_way_32 : decode cX4_way 32 = .ok (.getfield 21, 3) := by decide +kernel
theorem dX4_way_35 : decode cX4_way 35 = .ok (.getfield 108, 3) := by decide +kernel
theorem dX4_way_38 : decode cX4_way 38 = .ok (.iload_n 2, 1) := by decide +kernel
theorem dX4_way_39 : decode cX4_way 39 = .ok (.aaload, 1) := by decide +kernel
theorem dX4_way_40 : decode cX4_way 40 = .ok (.iload_n 3, 1) := by decide +kernel
theorem dX4_way_41 : decode cX4_way 41 = .ok (.iaload, 1) := by decide +kernel
theorem dX4_way_42 : decode cX4_way 42 = .ok (.ireturn, 1) := by decide +kernel
theorem dX4_stretch_0 : decode cX4_stretch 0 = .ok (.aload_n 0, 1) := by decide +kernel
theorem dX4_stretch_1 : decode cX4_stretch 1 = .ok (.iload_n 1, 1) := by decide +kernel
theorem dX4_stretch_2 : decode cX4_stretch 2 = .ok (.invokevirtual 96, 3) := by decide +kernel
theorem dX4_stretch_5 : decode cX4_stretch 5 = .ok (.ifCond .eq 12, 3) := by decide +kernel
theorem dX4_stretch_8 : decode cX4_stretch 8 = .ok (.iload_n 2, 1) := by decide +kernel
theorem dX4_stretch_9 : decode cX4_stretch 9 = .ok (.ifCond .eq 12, 3) := by decide +kernel
theorem dX4_stretch_12 : decode cX4_stretch 12 = .ok (.iload_n 2, 1) := by decide +kernel
theorem dX4_stretch_13 : decode cX4_stretch 13 = .ok (.iconst 1, 1) := by decide +kernel
theorem dX4_stretch_14 : decode cX4_stretch 14 = .ok (.if_icmp .eq 7, 3) := by decide +kernel
theorem dX4_stretch_17 : decode cX4_stretch 17 = .ok (.ldc2_w 111, 3) := by decide +kernel
theorem dX4_stretch_20 : decode cX4_stretch 20 = .ok (.lreturn, 1) := by decide +kernel
theorem dX4_stretch_21 : decode cX4_stretch 21 = .ok (.aload_n 0, 1) := by decide +kernel
theorem dX4_stretch_22 : decode cX4_stretch 22 = .ok (.getfield 21, 3) := by decide +kernel
theorem dX4_stretch_25 : decode cX4_stretch 25 = .ok (.iload_n 1, 1) := by decide +kernel
theorem dX4_stretch_26 : decode cX4_stretch 26 = .ok (.invokevirtual 105, 3) := by decide +kernel
theorem dX4_stretch_29 : decode cX4_stretch 29 = .ok (.aload_n 0, 1) := by decide +kernel
theorem dX4_stretch_30 : decode cX4_stretch 30 = .ok (.getfield 21, 3) := by decide +kernel
theorem dX4_stretch_33 : decode cX4_stretch 33 = .ok (.invokevirtual 113, 3) := by decide +kernel
theorem dX4_stretch_36 : decode cX4_stretch 36 = .ok (.iload_n 2, 1) := by decide +kernel
theorem dX4_stretch_37 : decode cX4_stretch 37 = .ok (.ifCond .ne 13, 3) := by decide +kernel
theorem dX4_stretch_40 : decode cX4_stretch 40 = .ok (.aload_n 0, 1) := by decide +kernel
theorem dX4_stretch_41 : decode cX4_stretch 41 = .ok (.getfield 21, 3) := by decide +kernel
theorem dX4_stretch_44 : decode cX4_stretch 44 = .ok (.getfield 116, 3) := by decide +kernel
theorem dX4_stretch_47 : decode cX4_stretch 47 = .ok (.goto 10, 3) := by decide +kernel
theorem dX4_stretch_50 : decode cX4_stretch 50 = .ok (.aload_n 0, 1) := by decide +kernel
theorem dX4_stretch_51 : decode cX4_stretch 51 = .ok (.getfield 21, 3) := by decide +kernel
theorem dX4_stretch_54 : decode cX4_stretch 54 = .ok (.getfield 119, 3) := by decide +kernel
theorem dX4_stretch_57 : decode cX4_stretch 57 = .ok (.istore_n 3, 1) := by decide +kernel
theorem dX4_stretch_58 : decode cX4_stretch 58 = .ok (.aload_n 0, 1) := by decide +kernel
theorem dX4_stretch_59 : decode cX4_stretch 59 = .ok (.getfield 21, 3) := by decide +kernel
theorem dX4_stretch_62 : decode cX4_stretch 62 = .ok (.getfield 116, 3) := by decide +kernel
theorem dX4_stretch_65 : decode cX4_stretch 65 = .ok (.aload_n 0, 1) := by decide +kernel
theorem dX4_stretch_66 : decode cX4_stretch 66 = .ok (.getfield 21, 3) := by decide +kernel
theorem dX4_stretch_69 : decode cX4_stretch 69 = .ok (.getfield 119, 3) := by decide +kernel
theorem dX4_stretch_72 : decode cX4_stretch 72 = .ok (.invokestatic 122, 3) := by decide +kernel
theorem dX4_stretch_75 : decode cX4_stretch 75 = .ok (.istore 4, 2) := by decide +kernel
theorem dX4_stretch_77 : decode cX4_stretch 77 = .ok (.iload 4, 2) := by decide +kernel
theorem dX4_stretch_79 : decode cX4_stretch 79 = .ok (.iconst 1, 1) := by decide +kernel
theorem dX4_stretch_80 : decode cX4_stretch 80 = .ok (.if_icmp .le 11, 3) := by decide +kernel
theorem dX4_stretch_83 : decode cX4_stretch 83 = .ok (.iload_n 3, 1) := by decide +kernel
theorem dX4_stretch_84 : decode cX4_stretch 84 = .ok (.iload 4, 2) := by decide +kernel
theorem dX4_stretch_86 : decode cX4_stretch 86 = .ok (.idiv, 1) := by decide +kernel
theorem dX4_stretch_87 : decode cX4_stretch 87 = .ok (.i2l, 1) := by decide +kernel
theorem dX4_stretch_88 : decode cX4_stretch 88 = .ok (.goto 5, 3) := by decide +kernel
theorem dX4_stretch_91 : decode cX4_stretch 91 = .ok (.iload_n 3, 1) := by decide +kernel
theorem dX4_stretch_92 : decode cX4_stretch 92 = .ok (.i2l, 1) := by decide +kernel
theorem dX4_stretch_93 : decode cX4_stretch 93 = .ok (.lreturn, 1) := by decide +kernel
theorem dX4_spread_0 : decode cX4_spread 0 = .ok (.aload_n 0, 1) := by decide +kernel
theorem dX4_spread_1 : decode cX4_spread 1 = .ok (.iload_n 1, 1) := by decide +kernel
theorem dX4_spread_2 : decode cX4_spread 2 = .ok (.invokevirtual 96, 3) := by decide +kernel
theorem dX4_spread_5 : decode cX4_spread 5 = .ok (.ifCond .ne 6, 3) := by decide +kernel
theorem dX4_spread_8 : decode cX4_spread 8 = .ok (.bipush (-102), 2) := by decide +kernel
theorem dX4_spread_10 : decode cX4_spread 10 = .ok (.ireturn, 1) := by decide +kernel
theorem dX4_spread_11 : decode cX4_spread 11 = .ok (.aload_n 0, 1) := by decide +kernel
theorem dX4_spread_12 : decode cX4_spread 12 = .ok (.getfield 21, 3) := by decide +kernel
theorem dX4_spread_15 : decode cX4_spread 15 = .ok (.iload_n 1, 1) := by decide +kernel
theorem dX4_spread_16 : decode cX4_spread 16 = .ok (.invokevirtual 105, 3) := by decide +kernel
theorem dX4_spread_19 : decode cX4_spread 19 = .ok (.aload_n 0, 1) := by decide +kernel
theorem dX4_spread_20 : decode cX4_spread 20 = .ok (.getfield 12, 3) := by decide +kernel
theorem dX4_spread_23 : decode cX4_spread 23 = .ok (.aload_n 0, 1) := by decide +kernel
theorem dX4_spread_24 : decode cX4_spread 24 = .ok (.getfield 21, 3) := by decide +kernel
theorem dX4_spread_27 : decode cX4_spread 27 = .ok (.getfield 108, 3) := by decide +kernel
theorem dX4_spread_30 : decode cX4_spread 30 = .ok (.invokevirtual 126, 3) := by decide +kernel
theorem dX4_spread_33 : decode cX4_spread 33 = .ok (.ireturn, 1) := by decide +kernel
theorem dX4_best_0 : decode cX4_best 0 = .ok (.iload_n 1, 1) := by decide +kernel
theorem dX4_best_1 : decode cX4_best 1 = .ok (.ifCond .eq 11, 3) := by decide +kernel
theorem dX4_best_4 : decode cX4_best 4 = .ok (.iload_n 1, 1) := by decide +kernel
theorem dX4_best_5 : decode cX4_best 5 = .ok (.iconst 1, 1) := by decide +kernel
theorem dX4_best_6 : decode cX4_best 6 = .ok (.if_icmp .eq 6, 3) := by decide +kernel
theorem dX4_best_9 : decode cX4_best 9 = .ok (.bipush (-102), 2) := by decide +kernel
theorem dX4_best_11 : decode cX4_best 11 = .ok (.ireturn, 1) := by decide +kernel
theorem dX4_best_12 : decode cX4_best 12 = .ok (.aload_n 0, 1) := by decide +kernel
theorem dX4_best_13 : decode cX4_best 13 = .ok (.getfield 39, 3) := by decide +kernel
theorem dX4_best_16 : decode cX4_best 16 = .ok (.bipush 60, 2) := by decide +kernel
theorem dX4_best_18 : decode cX4_best 18 = .ok (.if_icmp .lt 6, 3) := by decide +kernel
theorem dX4_best_21 : decode cX4_best 21 = .ok (.bipush (-104), 2) := by decide +kernel
theorem dX4_best_23 : decode cX4_best 23 = .ok (.ireturn, 1) := by decide +kernel
theorem dX4_best_24 : decode cX4_best 24 = .ok (.aload_n 0, 1) := by decide +kernel
theorem dX4_best_25 : decode cX4_best 25 = .ok (.dup, 1) := by decide +kernel
theorem dX4_best_26 : decode cX4_best 26 = .ok (.getfield 39, 3) := by decide +kernel
theorem dX4_best_29 : decode cX4_best 29 = .ok (.iconst 1, 1) := by decide +kernel
theorem dX4_best_30 : decode cX4_best 30 = .ok (.iadd, 1) := by decide +kernel
theorem dX4_best_31 : decode cX4_best 31 = .ok (.putfield 39, 3) := by decide +kernel
theorem dX4_best_34 : decode cX4_best 34 = .ok (.iload_n 1, 1) := by decide +kernel
theorem dX4_best_35 : decode cX4_best 35 = .ok (.ifCond .ne 13, 3) := by decide +kernel
theorem dX4_best_38 : decode cX4_best 38 = .ok (.aload_n 0, 1) := by decide +kernel
theorem dX4_best_39 : decode cX4_best 39 = .ok (.getfield 21, 3) := by decide +kernel
theorem dX4_best_42 : decode cX4_best 42 = .ok (.invokevirtual 129, 3) := by decide +kernel
theorem dX4_best_45 : decode cX4_best 45 = .ok (.goto 10, 3) := by decide +kernel
theorem dX4_best_48 : decode cX4_best 48 = .ok (.aload_n 0, 1) := by decide +kernel
theorem dX4_best_49 : decode cX4_best 49 = .ok (.getfield 21, 3) := by decide +kernel
theorem dX4_best_52 : decode cX4_best 52 = .ok (.invokevirtual 132, 3) := by decide +kernel
theorem dX4_best_55 : decode cX4_best 55 = .ok (.ireturn, 1) := by decide +kernel
theorem dX4_grow_0 : decode cX4_grow 0 = .ok (.aload_n 0, 1) := by decide +kernel
theorem dX4_grow_1 : decode cX4_grow 1 = .ok (.iload_n 1, 1) := by decide +kernel
theorem dX4_grow_2 : decode cX4_grow 2 = .ok (.invokevirtual 96, 3) := by decide +kernel
theorem dX4_grow_5 : decode cX4_grow 5 = .ok (.ifCond .ne 6, 3) := by decide +kernel
theorem dX4_grow_8 : decode cX4_grow 8 = .ok (.bipush (-102), 2) := by decide +kernel
theorem dX4_grow_10 : decode cX4_grow 10 = .ok (.ireturn, 1) := by decide +kernel
theorem dX4_grow_11 : decode cX4_grow 11 = .ok (.aload_n 0, 1) := by decide +kernel
theorem dX4_grow_12 : decode cX4_grow 12 = .ok (.getfield 21, 3) := by decide +kernel
theorem dX4_grow_15 : decode cX4_grow 15 = .ok (.iload_n 1, 1) := by decide +kernel
theorem dX4_grow_16 : decode cX4_grow 16 = .ok (.invokevirtual 105, 3) := by decide +kernel
theorem dX4_grow_19 : decode cX4_grow 19 = .ok (.aload_n 0, 1) := by decide +kernel
theorem dX4_grow_20 : decode cX4_grow 20 = .ok (.getfield 12, 3) := by decide +kernel
theorem dX4_grow_23 : decode cX4_grow 23 = .ok (.aload_n 0, 1) := by decide +kernel
theorem dX4_grow_24 : decode cX4_grow 24 = .ok (.getfield 21, 3) := by decide +kernel
theorem dX4_grow_27 : decode cX4_grow 27 = .ok (.getfield 108, 3) := by decide +kernel
theorem dX4_grow_30 : decode cX4_grow 30 = .ok (.invokevirtual 135, 3) := by decide +kernel
theorem dX4_grow_33 : decode cX4_grow 33 = .ok (.sipush 1000, 3) := by decide +kernel
theorem dX4_grow_36 : decode cX4_grow 36 = .ok (.if_icmp .le 6, 3) := by decide +kernel
theorem dX4_grow_39 : decode cX4_grow 39 = .ok (.bipush (-103), 2) := by decide +kernel
theorem dX4_grow_41 : decode cX4_grow 41 = .ok (.ireturn, 1) := by decide +kernel
theorem dX4_grow_42 : decode cX4_grow 42 = .ok (.aload_n 0, 1) := by decide +kernel
theorem dX4_grow_43 : decode cX4_grow 43 = .ok (.getfield 12, 3) := by decide +kernel
theorem dX4_grow_46 : decode cX4_grow 46 = .ok (.aload_n 0, 1) := by decide +kernel
theorem dX4_grow_47 : decode cX4_grow 47 = .ok (.getfield 21, 3) := by decide +kernel
theorem dX4_grow_50 : decode cX4_grow 50 = .ok (.getfield 108, 3) := by decide +kernel
theorem dX4_grow_53 : decode cX4_grow 53 = .ok (.invokevirtual 79, 3) := by decide +kernel
theorem dX4_grow_56 : decode cX4_grow 56 = .ok (.ireturn, 1) := by decide +kernel
theorem dX4_weight_0 : decode cX4_weight 0 = .ok (.aload_n 0, 1) := by decide +kernel
theorem dX4_weight_1 : decode cX4_weight 1 = .ok (.getfield 28, 3) := by decide +kernel
theorem dX4_weight_4 : decode cX4_weight 4 = .ok (.iload_n 1, 1) := by decide +kernel
theorem dX4_weight_5 : decode cX4_weight 5 = .ok (.invokevirtual 138, 3) := by decide +kernel
theorem dX4_weight_8 : decode cX4_weight 8 = .ok (.ifCond .ne 6, 3) := by decide +kernel
theorem dX4_weight_11 : decode cX4_weight 11 = .ok (.bipush (-102), 2) := by decide +kernel
theorem dX4_weight_13 : decode cX4_weight 13 = .ok (.ireturn, 1) := by decide +kernel
theorem dX4_weight_14 : decode cX4_weight 14 = .ok (.aload_n 0, 1) := by decide +kernel
theorem dX4_weight_15 : decode cX4_weight 15 = .ok (.invokevirtual 67, 3) := by decide +kernel
theorem dX4_weight_18 : decode cX4_weight 18 = .ok (.ifCond .eq 14, 3) := by decide +kernel
theorem dX4_weight_21 : decode cX4_weight 21 = .ok (.aload_n 0, 1) := by decide +kernel
theorem dX4_weight_22 : decode cX4_weight 22 = .ok (.getfield 28, 3) := by decide +kernel
theorem dX4_weight_25 : decode cX4_weight 25 = .ok (.iload_n 1, 1) := by decide +kernel
theorem dX4_weight_26 : decode cX4_weight 26 = .ok (.invokevirtual 141, 3) := by decide +kernel
theorem dX4_weight_29 : decode cX4_weight 29 = .ok (.goto 5, 3) := by decide +kernel
theorem dX4_weight_32 : decode cX4_weight 32 = .ok (.bipush (-103), 2) := by decide +kernel
theorem dX4_weight_34 : decode cX4_weight 34 = .ok (.ireturn, 1) := by decide +kernel
theorem dX4_parts_0 : decode cX4_parts 0 = .ok (.aload_n 0, 1) := by decide +kernel
theorem dX4_parts_1 : decode cX4_parts 1 = .ok (.invokevirtual 67, 3) := by decide +kernel
theorem dX4_parts_4 : decode cX4_parts 4 = .ok (.ifCond .eq 13, 3) := by decide +kernel
theorem dX4_parts_7 : decode cX4_parts 7 = .ok (.aload_n 0, 1) := by decide +kernel
theorem dX4_parts_8 : decode cX4_parts 8 = .ok (.getfield 28, 3) := by decide +kernel
theorem dX4_parts_11 : decode cX4_parts 11 = .ok (.invokevirtual 144, 3) := by decide +kernel
theorem dX4_parts_14 : decode cX4_parts 14 = .ok (.goto 5, 3) := by decide +kernel
theorem dX4_parts_17 : decode cX4_parts 17 = .ok (.bipush (-103), 2) := by decide +kernel
theorem dX4_parts_19 : decode cX4_parts 19 = .ok (.ireturn, 1) := by decide +kernel
theorem dX4_rest_0 : decode cX4_rest 0 = .ok (.aload_n 0, 1) := by decide +kernel
theorem dX4_rest_1 : decode cX4_rest 1 = .ok (.iload_n 1, 1) := by decide +kernel
theorem dX4_rest_2 : decode cX4_rest 2 = .ok (.iload_n 2, 1) := by decide +kernel
theorem dX4_rest_3 : decode cX4_rest 3 = .ok (.invokevirtual 47, 3) := by decide +kernel
theorem dX4_rest_6 : decode cX4_rest 6 = .ok (.ifCond .ne 7, 3) := by decide +kernel
theorem dX4_rest_9 : decode cX4_rest 9 = .ok (.sipush (-10101), 3) := by decide +kernel
theorem dX4_rest_12 : decode cX4_rest 12 = .ok (.ireturn, 1) := by decide +kernel
theorem dX4_rest_13 : decode cX4_rest 13 = .ok (.aload_n 0, 1) := by decide +kernel
theorem dX4_rest_14 : decode cX4_rest 14 = .ok (.invokevirtual 67, 3) := by decide +kernel
theorem dX4_rest_17 : decode cX4_rest 17 = .ok (.ifCond .eq 15, 3) := by decide +kernel
theorem dX4_rest_20 : decode cX4_rest 20 = .ok (.aload_n 0, 1) := by decide +kernel
theorem dX4_rest_21 : decode cX4_rest 21 = .ok (.getfield 28, 3) := by decide +kernel
theorem dX4_rest_24 : decode cX4_rest 24 = .ok (.iload_n 1, 1) := by decide +kernel
theorem dX4_rest_25 : decode cX4_rest 25 = .ok (.iload_n 2, 1) := by decide +kernel
theorem dX4_rest_26 : decode cX4_rest 26 = .ok (.invokevirtual 147, 3) := by decide +kernel
theorem dX4_rest_29 : decode cX4_rest 29 = .ok (.goto 6, 3) := by decide +kernel
theorem dX4_rest_32 : decode cX4_rest 32 = .ok (.sipush (-10103), 3) := by decide +kernel
theorem dX4_rest_35 : decode cX4_rest 35 = .ok (.ireturn, 1) := by decide +kernel
theorem dX4_drawn_0 : decode cX4_drawn 0 = .ok (.aload_n 0, 1) := by decide +kernel
theorem dX4_drawn_1 : decode cX4_drawn 1 = .ok (.iload_n 1, 1) := by decide +kernel
theorem dX4_drawn_2 : decode cX4_drawn 2 = .ok (.iload_n 2, 1) := by decide +kernel
theorem dX4_drawn_3 : decode cX4_drawn 3 = .ok (.invokevirtual 47, 3) := by decide +kernel
theorem dX4_drawn_6 : decode cX4_drawn 6 = .ok (.ifCond .ne 6, 3) := by decide +kernel
theorem dX4_drawn_9 : decode cX4_drawn 9 = .ok (.bipush (-101), 2) := by decide +kernel
theorem dX4_drawn_11 : decode cX4_drawn 11 = .ok (.ireturn, 1) := by decide +kernel
theorem dX4_drawn_12 : decode cX4_drawn 12 = .ok (.iload_n 3, 1) := by decide +kernel
theorem dX4_drawn_13 : decode cX4_drawn 13 = .ok (.invokestatic 86, 3) := by decide +kernel
theorem dX4_drawn_16 : decode cX4_drawn 16 = .ok (.ifCond .eq 16, 3) := by decide +kernel
theorem dX4_drawn_19 : decode cX4_drawn 19 = .ok (.aload_n 0, 1) := by decide +kernel
theorem dX4_drawn_20 : decode cX4_drawn 20 = .ok (.getfield 35, 3) := by decide +kernel
theorem dX4_drawn_23 : decode cX4_drawn 23 = .ok (.iload_n 1, 1) := by decide +kernel
theorem dX4_drawn_24 : decode cX4_drawn 24 = .ok (.iload_n 2, 1) := by decide +kernel
theorem dX4_drawn_25 : decode cX4_drawn 25 = .ok (.iload_n 3, 1) := by decide +kernel
theorem dX4_drawn_26 : decode cX4_drawn 26 = .ok (.invokevirtual 150, 3) := by decide +kernel
theorem dX4_drawn_29 : decode cX4_drawn 29 = .ok (.goto 5, 3) := by decide +kernel
theorem dX4_drawn_32 : decode cX4_drawn 32 = .ok (.bipush (-102), 2) := by decide +kernel
theorem dX4_drawn_34 : decode cX4_drawn 34 = .ok (.ireturn, 1) := by decide +kernel
theorem dX4_goes_0 : decode cX4_goes 0 = .ok (.aload_n 0, 1) := by decide +kernel
theorem dX4_goes_1 : decode cX4_goes 1 = .ok (.iload_n 1, 1) := by decide +kernel
theorem dX4_goes_2 : decode cX4_goes 2 = .ok (.invokevirtual 154, 3) := by decide +kernel
theorem dX4_goes_5 : decode cX4_goes 5 = .ok (.ifCond .ne 6, 3) := by decide +kernel
theorem dX4_goes_8 : decode cX4_goes 8 = .ok (.bipush (-101), 2) := by decide +kernel
theorem dX4_goes_10 : decode cX4_goes 10 = .ok (.ireturn, 1) := by decide +kernel
theorem dX4_goes_11 : decode cX4_goes 11 = .ok (.iload_n 2, 1) := by decide +kernel
theorem dX4_goes_12 : decode cX4_goes 12 = .ok (.ifCond .lt 21, 3) := by decide +kernel
theorem dX4_goes_15 : decode cX4_goes 15 = .ok (.iload_n 2, 1) := by decide +kernel
theorem dX4_goes_16 : decode cX4_goes 16 = .ok (.aload_n 0, 1) := by decide +kernel
theorem dX4_goes_17 : decode cX4_goes 17 = .ok (.getfield 35, 3) := by decide +kernel
theorem dX4_goes_20 : decode cX4_goes 20 = .ok (.invokevirtual 157, 3) := by decide +kernel
theorem dX4_goes_23 : decode cX4_goes 23 = .ok (.if_icmp .ge 10, 3) := by decide +kernel
theorem dX4_goes_26 : decode cX4_goes 26 = .ok (.iload_n 3, 1) := by decide +kernel
theorem dX4_goes_27 : decode cX4_goes 27 = .ok (.invokestatic 86, 3) := by decide +kernel
theorem dX4_goes_30 : decode cX4_goes 30 = .ok (.ifCond .ne 6, 3) := by decide +kernel
theorem dX4_goes_33 : decode cX4_goes 33 = .ok (.bipush (-102), 2) := by decide +kernel
theorem dX4_goes_35 : decode cX4_goes 35 = .ok (.ireturn, 1) := by decide +kernel
theorem dX4_goes_36 : decode cX4_goes 36 = .ok (.aload_n 0, 1) := by decide +kernel
theorem dX4_goes_37 : decode cX4_goes 37 = .ok (.getfield 35, 3) := by decide +kernel
theorem dX4_goes_40 : decode cX4_goes 40 = .ok (.iload_n 1, 1) := by decide +kernel
theorem dX4_goes_41 : decode cX4_goes 41 = .ok (.iload_n 2, 1) := by decide +kernel
theorem dX4_goes_42 : decode cX4_goes 42 = .ok (.iload_n 3, 1) := by decide +kernel
theorem dX4_goes_43 : decode cX4_goes 43 = .ok (.invokevirtual 158, 3) := by decide +kernel
theorem dX4_goes_46 : decode cX4_goes 46 = .ok (.ireturn, 1) := by decide +kernel
theorem dX4_count_0 : decode cX4_count 0 = .ok (.iload_n 1, 1) := by decide +kernel
theorem dX4_count_1 : decode cX4_count 1 = .ok (.tableswitch 74 0 3 #[31, 39, 54, 69], 31) := by decide +kernel
theorem dX4_count_32 : decode cX4_count 32 = .ok (.aload_n 0, 1) := by decide +kernel
theorem dX4_count_33 : decode cX4_count 33 = .ok (.getfield 12, 3) := by decide +kernel
theorem dX4_count_36 : decode cX4_count 36 = .ok (.getfield 161, 3) := by decide +kernel
theorem dX4_count_39 : decode cX4_count 39 = .ok (.ireturn, 1) := by decide +kernel
theorem dX4_count_40 : decode cX4_count 40 = .ok (.aload_n 0, 1) := by decide +kernel
theorem dX4_count_41 : decode cX4_count 41 = .ok (.getfield 12, 3) := by decide +kernel
theorem dX4_count_44 : decode cX4_count 44 = .ok (.aload_n 0, 1) := by decide +kernel
theorem dX4_count_45 : decode cX4_count 45 = .ok (.getfield 12, 3) := by decide +kernel
theorem dX4_count_48 : decode cX4_count 48 = .ok (.getfield 51, 3) := by decide +kernel
theorem dX4_count_51 : decode cX4_count 51 = .ok (.invokevirtual 126, 3) := by decide +kernel
theorem dX4_count_54 : decode cX4_count 54 = .ok (.ireturn, 1) := by decide +kernel
theorem dX4_count_55 : decode cX4_count 55 = .ok (.aload_n 0, 1) := by decide +kernel
theorem dX4_count_56 : decode cX4_count 56 = .ok (.getfield 12, 3) := by decide +kernel
theorem dX4_count_59 : decode cX4_count 59 = .ok (.aload_n 0, 1) := by decide +kernel
theorem dX4_count_60 : decode cX4_count 60 = .ok (.getfield 12, 3) := by decide +kernel
theorem dX4_count_63 : decode cX4_count 63 = .ok (.getfield 51, 3) := by decide +kernel
theorem dX4_count_66 : decode cX4_count 66 = .ok (.invokevirtual 135, 3) := by decide +kernel
theorem dX4_count_69 : decode cX4_count 69 = .ok (.ireturn, 1) := by decide +kernel
theorem dX4_count_70 : decode cX4_count 70 = .ok (.aload_n 0, 1) := by decide +kernel
theorem dX4_count_71 : decode cX4_count 71 = .ok (.getfield 39, 3) := by decide +kernel
theorem dX4_count_74 : decode cX4_count 74 = .ok (.ireturn, 1) := by decide +kernel
theorem dX4_count_75 : decode cX4_count 75 = .ok (.bipush (-102), 2) := by decide +kernel
theorem dX4_count_77 : decode cX4_count 77 = .ok (.ireturn, 1) := by decide +kernel
theorem dX4_digest_0 : decode cX4_digest 0 = .ok (.aload_n 0, 1) := by decide +kernel
theorem dX4_digest_1 : decode cX4_digest 1 = .ok (.getfield 12, 3) := by decide +kernel
theorem dX4_digest_4 : decode cX4_digest 4 = .ok (.iconst 1, 1) := by decide +kernel
theorem dX4_digest_5 : decode cX4_digest 5 = .ok (.invokevirtual 75, 3) := by decide +kernel
theorem dX4_digest_8 : decode cX4_digest 8 = .ok (.astore_n 1, 1) := by decide +kernel
theorem dX4_digest_9 : decode cX4_digest 9 = .ok (.ldc2_w 164, 3) := by decide +kernel
theorem dX4_digest_12 : decode cX4_digest 12 = .ok (.aload_n 0, 1) := by decide +kernel
theorem dX4_digest_13 : decode cX4_digest 13 = .ok (.getfield 12, 3) := by decide +kernel
theorem dX4_digest_16 : decode cX4_digest 16 = .ok (.getfield 161, 3) := by decide +kernel
theorem dX4_digest_19 : decode cX4_digest 19 = .ok (.i2l, 1) := by decide +kernel
theorem dX4_digest_20 : decode cX4_digest 20 = .ok (.invokestatic 166, 3) := by decide +kernel
theorem dX4_digest_23 : decode cX4_digest 23 = .ok (.lstore_n 2, 1) := by decide +kernel
theorem dX4_digest_24 : decode cX4_digest 24 = .ok (.iconst 0, 1) := by decide +kernel
theorem dX4_digest_25 : decode cX4_digest 25 = .ok (.istore 4, 2) := by decide +kernel
theorem dX4_digest_27 : decode cX4_digest 27 = .ok (.iload 4, 2) := by decide +kernel
theorem dX4_digest_29 : decode cX4_digest 29 = .ok (.aload_n 0, 1) := by decide +kernel
theorem dX4_digest_30 : decode cX4_digest 30 = .ok (.getfield 12, 3) := by decide +kernel
theorem dX4_digest_33 : decode cX4_digest 33 = .ok (.getfield 161, 3) := by decide +kernel
theorem dX4_digest_36 : decode cX4_digest 36 = .ok (.if_icmp .ge 65, 3) := by decide +kernel
theorem dX4_digest_39 : decode cX4_digest 39 = .ok (.iload 4, 2) := by decide +kernel
theorem dX4_digest_41 : decode cX4_digest 41 = .ok (.iconst 1, 1) := by decide +kernel
theorem dX4_digest_42 : decode cX4_digest 42 = .ok (.iadd, 1) := by decide +kernel
theorem dX4_digest_43 : decode cX4_digest 43 = .ok (.istore 5, 2) := by decide +kernel
theorem dX4_digest_45 : decode cX4_digest 45 = .ok (.iload 5, 2) := by decide +kernel
theorem dX4_digest_47 : decode cX4_digest 47 = .ok (.aload_n 0, 1) := by decide +kernel
theorem dX4_digest_48 : decode cX4_digest 48 = .ok (.getfield 12, 3) := by decide +kernel
theorem dX4_digest_51 : decode cX4_digest 51 = .ok (.getfield 161, 3) := by decide +kernel
theorem dX4_digest_54 : decode cX4_digest 54 = .ok (.if_icmp .ge 41, 3) := by decide +kernel
theorem dX4_digest_57 : decode cX4_digest 57 = .ok (.lload_n 2, 1) := by decide +kernel
theorem dX4_digest_58 : decode cX4_digest 58 = .ok (.aload_n 0, 1) := by decide +kernel
theorem dX4_digest_59 : decode cX4_digest 59 = .ok (.getfield 12, 3) := by decide +kernel
theorem dX4_digest_62 : decode cX4_digest 62 = .ok (.getfield 51, 3) := by decide +kernel
theorem dX4_digest_65 : decode cX4_digest 65 = .ok (.iload 4, 2) := by decide +kernel
theorem dX4_digest_67 : decode cX4_digest 67 = .ok (.aaload, 1) := by decide +kernel
theorem dX4_digest_68 : decode cX4_digest 68 = .ok (.iload 5, 2) := by decide +kernel
theorem dX4_digest_70 : decode cX4_digest 70 = .ok (.iaload, 1) := by decide +kernel
theorem dX4_digest_71 : decode cX4_digest 71 = .ok (.i2l, 1) := by decide +kernel
theorem dX4_digest_72 : decode cX4_digest 72 = .ok (.invokestatic 166, 3) := by decide +kernel
theorem dX4_digest_75 : decode cX4_digest 75 = .ok (.lstore_n 2, 1) := by decide +kernel
theorem dX4_digest_76 : decode cX4_digest 76 = .ok (.lload_n 2, 1) := by decide +kernel
theorem dX4_digest_77 : decode cX4_digest 77 = .ok (.aload_n 1, 1) := by decide +kernel
theorem dX4_digest_78 : decode cX4_digest 78 = .ok (.iload 4, 2) := by decide +kernel
theorem dX4_digest_80 : decode cX4_digest 80 = .ok (.aaload, 1) := by decide +kernel
theorem dX4_digest_81 : decode cX4_digest 81 = .ok (.iload 5, 2) := by decide +kernel
theorem dX4_digest_83 : decode cX4_digest 83 = .ok (.iaload, 1) := by decide +kernel
theorem dX4_digest_84 : decode cX4_digest 84 = .ok (.i2l, 1) := by decide +kernel
theorem dX4_digest_85 : decode cX4_digest 85 = .ok (.invokestatic 166, 3) := by decide +kernel
theorem dX4_digest_88 : decode cX4_digest 88 = .ok (.lstore_n 2, 1) := by decide +kernel
theorem dX4_digest_89 : decode cX4_digest 89 = .ok (.iinc 5 1, 3) := by decide +kernel
theorem dX4_digest_92 : decode cX4_digest 92 = .ok (.goto (-47), 3) := by decide +kernel
theorem dX4_digest_95 : decode cX4_digest 95 = .ok (.iinc 4 1, 3) := by decide +kernel
theorem dX4_digest_98 : decode cX4_digest 98 = .ok (.goto (-71), 3) := by decide +kernel
theorem dX4_digest_101 : decode cX4_digest 101 = .ok (.lload_n 2, 1) := by decide +kernel
theorem dX4_digest_102 : decode cX4_digest 102 = .ok (.aload_n 0, 1) := by decide +kernel
theorem dX4_digest_103 : decode cX4_digest 103 = .ok (.getfield 39, 3) := by decide +kernel
theorem dX4_digest_106 : decode cX4_digest 106 = .ok (.i2l, 1) := by decide +kernel
theorem dX4_digest_107 : decode cX4_digest 107 = .ok (.invokestatic 166, 3) := by decide +kernel
theorem dX4_digest_110 : decode cX4_digest 110 = .ok (.lreturn, 1) := by decide +kernel
theorem dX4_taken_0 : decode cX4_taken 0 = .ok (.ldc2_w 170, 3) := by decide +kernel
theorem dX4_taken_3 : decode cX4_taken 3 = .ok (.lload_n 0, 1) := by decide +kernel
theorem dX4_taken_4 : decode cX4_taken 4 = .ok (.lmul, 1) := by decide +kernel
theorem dX4_taken_5 : decode cX4_taken 5 = .ok (.lload_n 2, 1) := by decide +kernel
theorem dX4_taken_6 : decode cX4_taken 6 = .ok (.ladd, 1) := by decide +kernel
theorem dX4_taken_7 : decode cX4_taken 7 = .ok (.lreturn, 1) := by decide +kernel
theorem dX4_asAnswer_0 : decode cX4_asAnswer 0 = .ok (.iload_n 0, 1) := by decide +kernel
theorem dX4_asAnswer_1 : decode cX4_asAnswer 1 = .ok (.ifCond .eq 7, 3) := by decide +kernel
theorem dX4_asAnswer_4 : decode cX4_asAnswer 4 = .ok (.iconst 1, 1) := by decide +kernel
theorem dX4_asAnswer_5 : decode cX4_asAnswer 5 = .ok (.goto 4, 3) := by decide +kernel
theorem dX4_asAnswer_8 : decode cX4_asAnswer 8 = .ok (.iconst 0, 1) := by decide +kernel
theorem dX4_asAnswer_9 : decode cX4_asAnswer 9 = .ok (.ireturn, 1) := by decide +kernel
theorem dX4_isKnown_0 : decode cX4_isKnown 0 = .ok (.iload_n 1, 1) := by decide +kernel
theorem dX4_isKnown_1 : decode cX4_isKnown 1 = .ok (.ifCond .lt 18, 3) := by decide +kernel
theorem dX4_isKnown_4 : decode cX4_isKnown 4 = .ok (.iload_n 1, 1) := by decide +kernel
theorem dX4_isKnown_5 : decode cX4_isKnown 5 = .ok (.aload_n 0, 1) := by decide +kernel
theorem dX4_isKnown_6 : decode cX4_isKnown 6 = .ok (.getfield 12, 3) := by decide +kernel
theorem dX4_isKnown_9 : decode cX4_isKnown 9 = .ok (.getfield 161, 3) := by decide +kernel
theorem dX4_isKnown_12 : decode cX4_isKnown 12 = .ok (.if_icmp .ge 7, 3) := by decide +kernel
theorem dX4_isKnown_15 : decode cX4_isKnown 15 = .ok (.iconst 1, 1) := by decide +kernel
theorem dX4_isKnown_16 : decode cX4_isKnown 16 = .ok (.goto 4, 3) := by decide +kernel
theorem dX4_isKnown_19 : decode cX4_isKnown 19 = .ok (.iconst 0, 1) := by decide +kernel
theorem dX4_isKnown_20 : decode cX4_isKnown 20 = .ok (.ireturn, 1) := by decide +kernel
theorem dX4_areKnown_0 : decode cX4_areKnown 0 = .ok (.aload_n 0, 1) := by decide +kernel
theorem dX4_areKnown_1 : decode cX4_areKnown 1 = .ok (.iload_n 1, 1) := by decide +kernel
theorem dX4_areKnown_2 : decode cX4_areKnown 2 = .ok (.invokevirtual 154, 3) := by decide +kernel
theorem dX4_areKnown_5 : decode cX4_areKnown 5 = .ok (.ifCond .eq 15, 3) := by decide +kernel
theorem dX4_areKnown_8 : decode cX4_areKnown 8 = .ok (.aload_n 0, 1) := by decide +kernel
theorem dX4_areKnown_9 : decode cX4_areKnown 9 = .ok (.iload_n 2, 1) := by decide +kernel
theorem dX4_areKnown_10 : decode cX4_areKnown 10 = .ok (.invokevirtual 154, 3) := by decide +kernel
theorem dX4_areKnown_13 : decode cX4_areKnown 13 = .ok (.ifCond .eq 7, 3) := by decide +kernel
theorem dX4_areKnown_16 : decode cX4_areKnown 16 = .ok (.iconst 1, 1) := by decide +kernel
theorem dX4_areKnown_17 : decode cX4_areKnown 17 = .ok (.goto 4, 3) := by decide +kernel
theorem dX4_areKnown_20 : decode cX4_areKnown 20 = .ok (.iconst 0, 1) := by decide +kernel
theorem dX4_areKnown_21 : decode cX4_areKnown 21 = .ok (.ireturn, 1) := by decide +kernel
theorem dX4_isCode_0 : decode cX4_isCode 0 = .ok (.iload_n 1, 1) := by decide +kernel
theorem dX4_isCode_1 : decode cX4_isCode 1 = .ok (.ifCond .lt 18, 3) := by decide +kernel
theorem dX4_isCode_4 : decode cX4_isCode 4 = .ok (.iload_n 1, 1) := by decide +kernel
theorem dX4_isCode_5 : decode cX4_isCode 5 = .ok (.aload_n 0, 1) := by decide +kernel
theorem dX4_isCode_6 : decode cX4_isCode 6 = .ok (.getfield 21, 3) := by decide +kernel
theorem dX4_isCode_9 : decode cX4_isCode 9 = .ok (.invokevirtual 93, 3) := by decide +kernel
theorem dX4_isCode_12 : decode cX4_isCode 12 = .ok (.if_icmp .ge 7, 3) := by decide +kernel
theorem dX4_isCode_15 : decode cX4_isCode 15 = .ok (.iconst 1, 1) := by decide +kernel
theorem dX4_isCode_16 : decode cX4_isCode 16 = .ok (.goto 4, 3) := by decide +kernel
theorem dX4_isCode_19 : decode cX4_isCode 19 = .ok (.iconst 0, 1) := by decide +kernel
theorem dX4_isCode_20 : decode cX4_isCode 20 = .ok (.ireturn, 1) := by decide +kernel
theorem dX4_isReach_0 : decode cX4_isReach 0 = .ok (.iload_n 0, 1) := by decide +kernel
theorem dX4_isReach_1 : decode cX4_isReach 1 = .ok (.ifCond .lt 14, 3) := by decide +kernel
theorem dX4_isReach_4 : decode cX4_isReach 4 = .ok (.iload_n 0, 1) := by decide +kernel
theorem dX4_isReach_5 : decode cX4_isReach 5 = .ok (.sipush 1000, 3) := by decide +kernel
theorem dX4_isReach_8 : decode cX4_isReach 8 = .ok (.if_icmp .gt 7, 3) := by decide +kernel
theorem dX4_isReach_11 : decode cX4_isReach 11 = .ok (.iconst 1, 1) := by decide +kernel
theorem dX4_isReach_12 : decode cX4_isReach 12 = .ok (.goto 4, 3) := by decide +kernel
theorem dX4_isReach_15 : decode cX4_isReach 15 = .ok (.iconst 0, 1) := by decide +kernel
theorem dX4_isReach_16 : decode cX4_isReach 16 = .ok (.ireturn, 1) := by decide +kernel
theorem dX4_isNear_0 : decode cX4_isNear 0 = .ok (.aload_n 0, 1) := by decide +kernel
theorem dX4_isNear_1 : decode cX4_isNear 1 = .ok (.getfield 12, 3) := by decide +kernel
theorem dX4_isNear_4 : decode cX4_isNear 4 = .ok (.iconst 0, 1) := by decide +kernel
theorem dX4_isNear_5 : decode cX4_isNear 5 = .ok (.invokevirtual 59, 3) := by decide +kernel
theorem dX4_isNear_8 : decode cX4_isNear 8 = .ok (.ifCond .ne 7, 3) := by decide +kernel
theorem dX4_isNear_11 : decode cX4_isNear 11 = .ok (.iconst 1, 1) := by decide +kernel
theorem dX4_isNear_12 : decode cX4_isNear 12 = .ok (.goto 4, 3) := by decide +kernel
theorem dX4_isNear_15 : decode cX4_isNear 15 = .ok (.iconst 0, 1) := by decide +kernel
theorem dX4_isNear_16 : decode cX4_isNear 16 = .ok (.ireturn, 1) := by decide +kernel
theorem dX4_greatestDivisor_0 : decode cX4_greatestDivisor 0 = .ok (.iload_n 0, 1) := by decide +kernel
theorem dX4_greatestDivisor_1 : decode cX4_greatestDivisor 1 = .ok (.istore_n 2, 1) := by decide +kernel
theorem dX4_greatestDivisor_2 : decode cX4_greatestDivisor 2 = .ok (.iload_n 1, 1) := by decide +kernel
theorem dX4_greatestDivisor_3 : decode cX4_greatestDivisor 3 = .ok (.istore_n 3, 1) := by decide +kernel
theorem dX4_greatestDivisor_4 : decode cX4_greatestDivisor 4 = .ok (.iconst 0, 1) := by decide +kernel
theorem dX4_greatestDivisor_5 : decode cX4_greatestDivisor 5 = .ok (.istore 4, 2) := by decide +kernel
theorem dX4_greatestDivisor_7 : decode cX4_greatestDivisor 7 = .ok (.iload 4, 2) := by decide +kernel
theorem dX4_greatestDivisor_9 : decode cX4_greatestDivisor 9 = .ok (.bipush 64, 2) := by decide +kernel
theorem dX4_greatestDivisor_11 : decode cX4_greatestDivisor 11 = .ok (.if_icmp .ge 23, 3) := by decide +kernel
theorem dX4_greatestDivisor_14 : decode cX4_greatestDivisor 14 = .ok (.iload_n 3, 1) := by decide +kernel
theorem dX4_greatestDivisor_15 : decode cX4_greatestDivisor 15 = .ok (.ifCond .le 19, 3) := by decide +kernel
theorem dX4_greatestDivisor_18 : decode cX4_greatestDivisor 18 = .ok (.iload_n 2, 1) := by decide +kernel
theorem dX4_greatestDivisor_19 : decode cX4_greatestDivisor 19 = .ok (.iload_n 3, 1) := by decide +kernel
theorem dX4_greatestDivisor_20 : decode cX4_greatestDivisor 20 = .ok (.irem, 1) := by decide +kernel
theorem dX4_greatestDivisor_21 : decode cX4_greatestDivisor 21 = .ok (.istore 5, 2) := by decide +kernel
theorem dX4_greatestDivisor_23 : decode cX4_greatestDivisor 23 = .ok (.iload_n 3, 1) := by decide +kernel
theorem dX4_greatestDivisor_24 : decode cX4_greatestDivisor 24 = .ok (.istore_n 2, 1) := by decide +kernel
theorem dX4_greatestDivisor_25 : decode cX4_greatestDivisor 25 = .ok (.iload 5, 2) := by decide +kernel
theorem dX4_greatestDivisor_27 : decode cX4_greatestDivisor 27 = .ok (.istore_n 3, 1) := by decide +kernel
theorem dX4_greatestDivisor_28 : decode cX4_greatestDivisor 28 = .ok (.iinc 4 1, 3) := by decide +kernel
theorem dX4_greatestDivisor_31 : decode cX4_greatestDivisor 31 = .ok (.goto (-24), 3) := by decide +kernel
theorem dX4_greatestDivisor_34 : decode cX4_greatestDivisor 34 = .ok (.iload_n 2, 1) := by decide +kernel
theorem dX4_greatestDivisor_35 : decode cX4_greatestDivisor 35 = .ok (.ireturn, 1) := by decide +kernel
theorem dJ6_bitCount_0f7a4_0 : decode cJ6_bitCount_0f7a4 0 = .ok (.iload_n 0, 1) := by decide +kernel
theorem dJ6_bitCount_0f7a4_1 : decode cJ6_bitCount_0f7a4 1 = .ok (.iload_n 0, 1) := by decide +kernel
theorem dJ6_bitCount_0f7a4_2 : decode cJ6_bitCount_0f7a4 2 = .ok (.iconst 1, 1) := by decide +kernel
theorem dJ6_bitCount_0f7a4_3 : decode cJ6_bitCount_0f7a4 3 = .ok (.iushr, 1) := by decide +kernel
theorem dJ6_bitCount_0f7a4_4 : decode cJ6_bitCount_0f7a4 4 = .ok (.ldc_w 265, 3) := by decide +kernel
theorem dJ6_bitCount_0f7a4_7 : decode cJ6_bitCount_0f7a4 7 = .ok (.iand, 1) := by decide +kernel
theorem dJ6_bitCount_0f7a4_8 : decode cJ6_bitCount_0f7a4 8 = .ok (.isub, 1) := by decide +kernel
theorem dJ6_bitCount_0f7a4_9 : decode cJ6_bitCount_0f7a4 9 = .ok (.istore_n 0, 1) := by decide +kernel
theorem dJ6_bitCount_0f7a4_10 : decode cJ6_bitCount_0f7a4 10 = .ok (.iload_n 0, 1) := by decide +kernel
theorem dJ6_bitCount_0f7a4_11 : decode cJ6_bitCount_0f7a4 11 = .ok (.ldc_w 266, 3) := by decide +kernel
theorem dJ6_bitCount_0f7a4_14 : decode cJ6_bitCount_0f7a4 14 = .ok (.iand, 1) := by decide +kernel
theorem dJ6_bitCount_0f7a4_15 : decode cJ6_bitCount_0f7a4 15 = .ok (.iload_n 0, 1) := by decide +kernel
theorem dJ6_bitCount_0f7a4_16 : decode cJ6_bitCount_0f7a4 16 = .ok (.iconst 2, 1) := by decide +kernel
theorem dJ6_bitCount_0f7a4_17 : decode cJ6_bitCount_0f7a4 17 = .ok (.iushr, 1) := by decide +kernel
theorem dJ6_bitCount_0f7a4_18 : decode cJ6_bitCount_0f7a4 18 = .ok (.ldc_w 266, 3) := by decide +kernel
theorem dJ6_bitCount_0f7a4_21 : decode cJ6_bitCount_0f7a4 21 = .ok (.iand, 1) := by decide +kernel
theorem dJ6_bitCount_0f7a4_22 : decode cJ6_bitCount_0f7a4 22 = .ok (.iadd, 1) := by decide +kernel
theorem dJ6_bitCount_0f7a4_23 : decode cJ6_bitCount_0f7a4 23 = .ok (.istore_n 0, 1) := by decide +kernel
theorem dJ6_bitCount_0f7a4_24 : decode cJ6_bitCount_0f7a4 24 = .ok (.iload_n 0, 1) := by decide +kernel
theorem dJ6_bitCount_0f7a4_25 : decode cJ6_bitCount_0f7a4 25 = .ok (.iload_n 0, 1) := by decide +kernel
theorem dJ6_bitCount_0f7a4_26 : decode cJ6_bitCount_0f7a4 26 = .ok (.iconst 4, 1) := by decide +kernel
theorem dJ6_bitCount_0f7a4_27 : decode cJ6_bitCount_0f7a4 27 = .ok (.iushr, 1) := by decide +kernel
theorem dJ6_bitCount_0f7a4_28 : decode cJ6_bitCount_0f7a4 28 = .ok (.iadd, 1) := by decide +kernel
theorem dJ6_bitCount_0f7a4_29 : decode cJ6_bitCount_0f7a4 29 = .ok (.ldc_w 267, 3) := by decide +kernel
theorem dJ6_bitCount_0f7a4_32 : decode cJ6_bitCount_0f7a4 32 = .ok (.iand, 1) := by decide +kernel
theorem dJ6_bitCount_0f7a4_33 : decode cJ6_bitCount_0f7a4 33 = .ok (.istore_n 0, 1) := by decide +kernel
theorem dJ6_bitCount_0f7a4_34 : decode cJ6_bitCount_0f7a4 34 = .ok (.iload_n 0, 1) := by decide +kernel
theorem dJ6_bitCount_0f7a4_35 : decode cJ6_bitCount_0f7a4 35 = .ok (.iload_n 0, 1) := by decide +kernel
theorem dJ6_bitCount_0f7a4_36 : decode cJ6_bitCount_0f7a4 36 = .ok (.bipush 8, 2) := by decide +kernel
theorem dJ6_bitCount_0f7a4_38 : decode cJ6_bitCount_0f7a4 38 = .ok (.iushr, 1) := by decide +kernel
theorem dJ6_bitCount_0f7a4_39 : decode cJ6_bitCount_0f7a4 39 = .ok (.iadd, 1) := by decide +kernel
theorem dJ6_bitCount_0f7a4_40 : decode cJ6_bitCount_0f7a4 40 = .ok (.istore_n 0, 1) := by decide +kernel
theorem dJ6_bitCount_0f7a4_41 : decode cJ6_bitCount_0f7a4 41 = .ok (.iload_n 0, 1) := by decide +kernel
theorem dJ6_bitCount_0f7a4_42 : decode cJ6_bitCount_0f7a4 42 = .ok (.iload_n 0, 1) := by decide +kernel
theorem dJ6_bitCount_0f7a4_43 : decode cJ6_bitCount_0f7a4 43 = .ok (.bipush 16, 2) := by decide +kernel
theorem dJ6_bitCount_0f7a4_45 : decode cJ6_bitCount_0f7a4 45 = .ok (.iushr, 1) := by decide +kernel
theorem dJ6_bitCount_0f7a4_46 : decode cJ6_bitCount_0f7a4 46 = .ok (.iadd, 1) := by decide +kernel
theorem dJ6_bitCount_0f7a4_47 : decode cJ6_bitCount_0f7a4 47 = .ok (.istore_n 0, 1) := by decide +kernel
theorem dJ6_bitCount_0f7a4_48 : decode cJ6_bitCount_0f7a4 48 = .ok (.iload_n 0, 1) := by decide +kernel
theorem dJ6_bitCount_0f7a4_49 : decode cJ6_bitCount_0f7a4 49 = .ok (.bipush 63, 2) := by decide +kernel
theorem dJ6_bitCount_0f7a4_51 : decode cJ6_bitCount_0f7a4 51 = .ok (.iand, 1) := by decide +kernel
theorem dJ6_bitCount_0f7a4_52 : decode cJ6_bitCount_0f7a4 52 = .ok (.ireturn, 1) := by decide +kernel
theorem dJ9_max_7cf53_0 : decode cJ9_max_7cf53 0 = .ok (.iload_n 0, 1) := by decide +kernel
theorem dJ9_max_7cf53_1 : decode cJ9_max_7cf53 1 = .ok (.iload_n 1, 1) := by decide +kernel
theorem dJ9_max_7cf53_2 : decode cJ9_max_7cf53 2 = .ok (.if_icmp .lt 7, 3) := by decide +kernel
theorem dJ9_max_7cf53_5 : decode cJ9_max_7cf53 5 = .ok (.iload_n 0, 1) := by decide +kernel
theorem dJ9_max_7cf53_6 : decode cJ9_max_7cf53 6 = .ok (.goto 4, 3) := by decide +kernel
theorem dJ9_max_7cf53_9 : decode cJ9_max_7cf53 9 = .ok (.iload_n 1, 1) := by decide +kernel
theorem dJ9_max_7cf53_10 : decode cJ9_max_7cf53 10 = .ok (.ireturn, 1) := by decide +kernel
theorem dJ9_min_7cf53_0 : decode cJ9_min_7cf53 0 = .ok (.iload_n 0, 1) := by decide +kernel
theorem dJ9_min_7cf53_1 : decode cJ9_min_7cf53 1 = .ok (.iload_n 1, 1) := by decide +kernel
theorem dJ9_min_7cf53_2 : decode cJ9_min_7cf53 2 = .ok (.if_icmp .gt 7, 3) := by decide +kernel
theorem dJ9_min_7cf53_5 : decode cJ9_min_7cf53 5 = .ok (.iload_n 0, 1) := by decide +kernel
theorem dJ9_min_7cf53_6 : decode cJ9_min_7cf53 6 = .ok (.goto 4, 3) := by decide +kernel
theorem dJ9_min_7cf53_9 : decode cJ9_min_7cf53 9 = .ok (.iload_n 1, 1) := by decide +kernel
theorem dJ9_min_7cf53_10 : decode cJ9_min_7cf53 10 = .ok (.ireturn, 1) := by decide +kernel
theorem dJ7_fill_53178_0 : decode cJ7_fill_53178 0 = .ok (.iconst 0, 1) := by decide +kernel
theorem dJ7_fill_53178_1 : decode cJ7_fill_53178 1 = .ok (.istore_n 2, 1) := by decide +kernel
theorem dJ7_fill_53178_2 : decode cJ7_fill_53178 2 = .ok (.aload_n 0, 1) := by decide +kernel
theorem dJ7_fill_53178_3 : decode cJ7_fill_53178 3 = .ok (.arraylength, 1) := by decide +kernel
theorem dJ7_fill_53178_4 : decode cJ7_fill_53178 4 = .ok (.istore_n 3, 1) := by decide +kernel
theorem dJ7_fill_53178_5 : decode cJ7_fill_53178 5 = .ok (.iload_n 2, 1) := by decide +kernel
theorem dJ7_fill_53178_6 : decode cJ7_fill_53178 6 = .ok (.iload_n 3, 1) := by decide +kernel
theorem dJ7_fill_53178_7 : decode cJ7_fill_53178 7 = .ok (.if_icmp .ge 13, 3) := by decide +kernel
theorem dJ7_fill_53178_10 : decode cJ7_fill_53178 10 = .ok (.aload_n 0, 1) := by decide +kernel
theorem dJ7_fill_53178_11 : decode cJ7_fill_53178 11 = .ok (.iload_n 2, 1) := by decide +kernel
theorem dJ7_fill_53178_12 : decode cJ7_fill_53178 12 = .ok (.iload_n 1, 1) := by decide +kernel
theorem dJ7_fill_53178_13 : decode cJ7_fill_53178 13 = .ok (.iastore, 1) := by decide +kernel
theorem dJ7_fill_53178_14 : decode cJ7_fill_53178 14 = .ok (.iinc 2 1, 3) := by decide +kernel
theorem dJ7_fill_53178_17 : decode cJ7_fill_53178 17 = .ok (.goto (-12), 3) := by decide +kernel
theorem dJ7_fill_53178_20 : decode cJ7_fill_53178 20 = .ok (.return_, 1) := by decide +kernel
