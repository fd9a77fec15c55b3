theorem dX5_init_0 : decode cX5_init 0 = .ok (.aload_n 0, 1) := by decide +kernel
theorem dX5_init_1 : decode cX5_init 1 = .ok (.invokespecial 1, 3) := by decide +kernel
theorem dX5_init_4 : decode cX5_init 4 = .ok (.aload_n 0, 1) := by decide +kernel
theorem dX5_init_5 : decode cX5_init 5 = .ok (.iconst 2, 1) := by decide +kernel
theorem dX5_init_6 : decode cX5_init 6 = .ok (.putfield 7, 3) := by decide +kernel
theorem dX5_init_9 : decode cX5_init 9 = .ok (.aload_n 0, 1) := by decide +kernel
theorem dX5_init_10 : decode cX5_init 10 = .ok (.bipush 36, 2) := by decide +kernel
theorem dX5_init_12 : decode cX5_init 12 = .ok (.newarray .int, 2) := by decide +kernel
theorem dX5_init_14 : decode cX5_init 14 = .ok (.putfield 13, 3) := by decide +kernel
theorem dX5_init_17 : decode cX5_init 17 = .ok (.aload_n 0, 1) := by decide +kernel
theorem dX5_init_18 : decode cX5_init 18 = .ok (.bipush 36, 2) := by decide +kernel
theorem dX5_init_20 : decode cX5_init 20 = .ok (.newarray .int, 2) := by decide +kernel
theorem dX5_init_22 : decode cX5_init 22 = .ok (.putfield 17, 3) := by decide +kernel
theorem dX5_init_25 : decode cX5_init 25 = .ok (.aload_n 0, 1) := by decide +kernel
theorem dX5_init_26 : decode cX5_init 26 = .ok (.bipush 36, 2) := by decide +kernel
theorem dX5_init_28 : decode cX5_init 28 = .ok (.newarray .boolean, 2) := by decide +kernel
theorem dX5_init_30 : decode cX5_init 30 = .ok (.putfield 20, 3) := by decide +kernel
theorem dX5_init_33 : decode cX5_init 33 = .ok (.aload_n 0, 1) := by decide +kernel
theorem dX5_init_34 : decode cX5_init 34 = .ok (.bipush 6, 2) := by decide +kernel
theorem dX5_init_36 : decode cX5_init 36 = .ok (.newarray .int, 2) := by decide +kernel
theorem dX5_init_38 : decode cX5_init 38 = .ok (.putfield 24, 3) := by decide +kernel
theorem dX5_init_41 : decode cX5_init 41 = .ok (.aload_n 0, 1) := by decide +kernel
theorem dX5_init_42 : decode cX5_init 42 = .ok (.bipush 36, 2) := by decide +kernel
theorem dX5_init_44 : decode cX5_init 44 = .ok (.newarray .int, 2) := by decide +kernel
theorem dX5_init_46 : decode cX5_init 46 = .ok (.putfield 27, 3) := by decide +kernel
theorem dX5_init_49 : decode cX5_init 49 = .ok (.aload_n 0, 1) := by decide +kernel
theorem dX5_init_50 : decode cX5_init 50 = .ok (.bipush 6, 2) := by decide +kernel
theorem dX5_init_52 : decode cX5_init 52 = .ok (.newarray .int, 2) := by decide +kernel
theorem dX5_init_54 : decode cX5_init 54 = .ok (.putfield 30, 3) := by decide +kernel
theorem dX5_init_57 : decode cX5_init 57 = .ok (.aload_n 0, 1) := by decide +kernel
theorem dX5_init_58 : decode cX5_init 58 = .ok (.invokevirtual 33, 3) := by decide +kernel
theorem dX5_init_61 : decode cX5_init 61 = .ok (.return_, 1) := by decide +kernel
theorem dX5_in_0 : decode cX5_in 0 = .ok (.iload_n 0, 1) := by decide +kernel
theorem dX5_in_1 : decode cX5_in 1 = .ok (.iload_n 1, 1) := by decide +kernel
theorem dX5_in_2 : decode cX5_in 2 = .ok (.if_icmp .lt 12, 3) := by decide +kernel
theorem dX5_in_5 : decode cX5_in 5 = .ok (.iload_n 0, 1) := by decide +kernel
theorem dX5_in_6 : decode cX5_in 6 = .ok (.iload_n 2, 1) := by decide +kernel
theorem dX5_in_7 : decode cX5_in 7 = .ok (.if_icmp .gt 7, 3) := by decide +kernel
theorem dX5_in_10 : decode cX5_in 10 = .ok (.iconst 1, 1) := by decide +kernel
theorem dX5_in_11 : decode cX5_in 11 = .ok (.goto 4, 3) := by decide +kernel
theorem dX5_in_14 : decode cX5_in 14 = .ok (.iconst 0, 1) := by decide +kernel
theorem dX5_in_15 : decode cX5_in 15 = .ok (.ireturn, 1) := by decide +kernel
theorem dX5_isPoint_0 : decode cX5_isPoint 0 = .ok (.iload_n 1, 1) := by decide +kernel
theorem dX5_isPoint_1 : decode cX5_isPoint 1 = .ok (.iconst 0, 1) := by decide +kernel
theorem dX5_isPoint_2 : decode cX5_isPoint 2 = .ok (.aload_n 0, 1) := by decide +kernel
theorem dX5_isPoint_3 : decode cX5_isPoint 3 = .ok (.getfield 7, 3) := by decide +kernel
theorem dX5_isPoint_6 : decode cX5_isPoint 6 = .ok (.iconst 1, 1) := by decide +kernel
theorem dX5_isPoint_7 : decode cX5_isPoint 7 = .ok (.isub, 1) := by decide +kernel
theorem dX5_isPoint_8 : decode cX5_isPoint 8 = .ok (.invokestatic 36, 3) := by decide +kernel
theorem dX5_isPoint_11 : decode cX5_isPoint 11 = .ok (.ireturn, 1) := by decide +kernel
theorem dX5_begin_0 : decode cX5_begin 0 = .ok (.iconst 0, 1) := by decide +kernel
theorem dX5_begin_1 : decode cX5_begin 1 = .ok (.istore_n 1, 1) := by decide +kernel
theorem dX5_begin_2 : decode cX5_begin 2 = .ok (.iload_n 1, 1) := by decide +kernel
theorem dX5_begin_3 : decode cX5_begin 3 = .ok (.bipush 6, 2) := by decide +kernel
theorem dX5_begin_5 : decode cX5_begin 5 = .ok (.if_icmp .ge 44, 3) := by decide +kernel
theorem dX5_begin_8 : decode cX5_begin 8 = .ok (.iconst 0, 1) := by decide +kernel
theorem dX5_begin_9 : decode cX5_begin 9 = .ok (.istore_n 2, 1) := by decide +kernel
theorem dX5_begin_10 : decode cX5_begin 10 = .ok (.iload_n 2, 1) := by decide +kernel
theorem dX5_begin_11 : decode cX5_begin 11 = .ok (.bipush 6, 2) := by decide +kernel
theorem dX5_begin_13 : decode cX5_begin 13 = .ok (.if_icmp .ge 30, 3) := by decide +kernel
theorem dX5_begin_16 : decode cX5_begin 16 = .ok (.aload_n 0, 1) := by decide +kernel
theorem dX5_begin_17 : decode cX5_begin 17 = .ok (.getfield 13, 3) := by decide +kernel
theorem dX5_begin_20 : decode cX5_begin 20 = .ok (.bipush 6, 2) := by decide +kernel
theorem dX5_begin_22 : decode cX5_begin 22 = .ok (.iload_n 1, 1) := by decide +kernel
theorem dX5_begin_23 : decode cX5_begin 23 = .ok (.imul, 1) := by decide +kernel
theorem dX5_begin_24 : decode cX5_begin 24 = .ok (.iload_n 2, 1) := by decide +kernel
theorem dX5_begin_25 : decode cX5_begin 25 = .ok (.iadd, 1) := by decide +kernel
theorem dX5_begin_26 : decode cX5_begin 26 = .ok (.iload_n 1, 1) := by decide +kernel
theorem dX5_begin_27 : decode cX5_begin 27 = .ok (.iload_n 2, 1) := by decide +kernel
theorem dX5_begin_28 : decode cX5_begin 28 = .ok (.if_icmp .ne 7, 3) := by decide +kernel
theorem dX5_begin_31 : decode cX5_begin 31 = .ok (.iconst 0, 1) := by decide +kernel
theorem dX5_begin_32 : decode cX5_begin 32 = .ok (.goto 4, 3) := by decide +kernel
theorem dX5_begin_35 : decode cX5_begin 35 = .ok (.iconst 1, 1) := by decide +kernel
theorem dX5_begin_36 : decode cX5_begin 36 = .ok (.iastore, 1) := by decide +kernel
theorem dX5_begin_37 : decode cX5_begin 37 = .ok (.iinc 2 1, 3) := by decide +kernel
theorem dX5_begin_40 : decode cX5_begin 40 = .ok (.goto (-30), 3) := by decide +kernel
theorem dX5_begin_43 : decode cX5_begin 43 = .ok (.iinc 1 1, 3) := by decide +kernel
theorem dX5_begin_46 : decode cX5_begin 46 = .ok (.goto (-44), 3) := by decide +kernel
theorem dX5_begin_49 : decode cX5_begin 49 = .ok (.return_, 1) := by decide +kernel
theorem dX5_greater_0 : decode cX5_greater 0 = .ok (.iload_n 0, 1) := by decide +kernel
theorem dX5_greater_1 : decode cX5_greater 1 = .ok (.iload_n 1, 1) := by decide +kernel
theorem dX5_greater_2 : decode cX5_greater 2 = .ok (.if_icmp .le 7, 3) := by decide +kernel
theorem dX5_greater_5 : decode cX5_greater 5 = .ok (.iload_n 0, 1) := by decide +kernel
theorem dX5_greater_6 : decode cX5_greater 6 = .ok (.goto 4, 3) := by decide +kernel
theorem dX5_greater_9 : decode cX5_greater 9 = .ok (.iload_n 1, 1) := by decide +kernel
theorem dX5_greater_10 : decode cX5_greater 10 = .ok (.ireturn, 1) := by decide +kernel
theorem dX5_points_0 : decode cX5_points 0 = .ok (.iload_n 1, 1) := by decide +kernel
theorem dX5_points_1 : decode cX5_points 1 = .ok (.iconst 2, 1) := by decide +kernel
theorem dX5_points_2 : decode cX5_points 2 = .ok (.bipush 6, 2) := by decide +kernel
theorem dX5_points_4 : decode cX5_points 4 = .ok (.invokestatic 36, 3) := by decide +kernel
theorem dX5_points_7 : decode cX5_points 7 = .ok (.ifCond .ne 6, 3) := by decide +kernel
theorem dX5_points_10 : decode cX5_points 10 = .ok (.bipush (-102), 2) := by decide +kernel
theorem dX5_points_12 : decode cX5_points 12 = .ok (.ireturn, 1) := by decide +kernel
theorem dX5_points_13 : decode cX5_points 13 = .ok (.aload_n 0, 1) := by decide +kernel
theorem dX5_points_14 : decode cX5_points 14 = .ok (.iload_n 1, 1) := by decide +kernel
theorem dX5_points_15 : decode cX5_points 15 = .ok (.putfield 7, 3) := by decide +kernel
theorem dX5_points_18 : decode cX5_points 18 = .ok (.aload_n 0, 1) := by decide +kernel
theorem dX5_points_19 : decode cX5_points 19 = .ok (.invokevirtual 33, 3) := by decide +kernel
theorem dX5_points_22 : decode cX5_points 22 = .ok (.iload_n 1, 1) := by decide +kernel
theorem dX5_points_23 : decode cX5_points 23 = .ok (.ireturn, 1) := by decide +kernel
theorem dX5_set_0 : decode cX5_set 0 = .ok (.aload_n 0, 1) := by decide +kernel
theorem dX5_set_1 : decode cX5_set 1 = .ok (.iload_n 1, 1) := by decide +kernel
theorem dX5_set_2 : decode cX5_set 2 = .ok (.invokevirtual 40, 3) := by decide +kernel
theorem dX5_set_5 : decode cX5_set 5 = .ok (.ifCond .eq 16, 3) := by decide +kernel
theorem dX5_set_8 : decode cX5_set 8 = .ok (.aload_n 0, 1) := by decide +kernel
theorem dX5_set_9 : decode cX5_set 9 = .ok (.iload_n 2, 1) := by decide +kernel
theorem dX5_set_10 : decode cX5_set 10 = .ok (.invokevirtual 40, 3) := by decide +kernel
theorem dX5_set_13 : decode cX5_set 13 = .ok (.ifCond .eq 8, 3) := by decide +kernel
theorem dX5_set_16 : decode cX5_set 16 = .ok (.iload_n 1, 1) := by decide +kernel
theorem dX5_set_17 : decode cX5_set 17 = .ok (.iload_n 2, 1) := by decide +kernel
theorem dX5_set_18 : decode cX5_set 18 = .ok (.if_icmp .ne 6, 3) := by decide +kernel
theorem dX5_set_21 : decode cX5_set 21 = .ok (.bipush (-101), 2) := by decide +kernel
theorem dX5_set_23 : decode cX5_set 23 = .ok (.ireturn, 1) := by decide +kernel
theorem dX5_set_24 : decode cX5_set 24 = .ok (.iload_n 3, 1) := by decide +kernel
theorem dX5_set_25 : decode cX5_set 25 = .ok (.iconst 1, 1) := by decide +kernel
theorem dX5_set_26 : decode cX5_set 26 = .ok (.sipush 1000, 3) := by decide +kernel
theorem dX5_set_29 : decode cX5_set 29 = .ok (.invokestatic 36, 3) := by decide +kernel
theorem dX5_set_32 : decode cX5_set 32 = .ok (.ifCond .ne 6, 3) := by decide +kernel
theorem dX5_set_35 : decode cX5_set 35 = .ok (.bipush (-102), 2) := by decide +kernel
theorem dX5_set_37 : decode cX5_set 37 = .ok (.ireturn, 1) := by decide +kernel
theorem dX5_set_38 : decode cX5_set 38 = .ok (.aload_n 0, 1) := by decide +kernel
theorem dX5_set_39 : decode cX5_set 39 = .ok (.getfield 13, 3) := by decide +kernel
theorem dX5_set_42 : decode cX5_set 42 = .ok (.bipush 6, 2) := by decide +kernel
theorem dX5_set_44 : decode cX5_set 44 = .ok (.iload_n 1, 1) := by decide +kernel
theorem dX5_set_45 : decode cX5_set 45 = .ok (.imul, 1) := by decide +kernel
theorem dX5_set_46 : decode cX5_set 46 = .ok (.iload_n 2, 1) := by decide +kernel
theorem dX5_set_47 : decode cX5_set 47 = .ok (.iadd, 1) := by decide +kernel
theorem dX5_set_48 : decode cX5_set 48 = .ok (.iaload, 1) := by decide +kernel
theorem dX5_set_49 : decode cX5_set 49 = .ok (.istore 4, 2) := by decide +kernel
theorem dX5_set_51 : decode cX5_set 51 = .ok (.aload_n 0, 1) := by decide +kernel
theorem dX5_set_52 : decode cX5_set 52 = .ok (.getfield 13, 3) := by decide +kernel
theorem dX5_set_55 : decode cX5_set 55 = .ok (.bipush 6, 2) := by decide +kernel
theorem dX5_set_57 : decode cX5_set 57 = .ok (.iload_n 1, 1) := by decide +kernel
theorem dX5_set_58 : decode cX5_set 58 = .ok (.imul, 1) := by decide +kernel
theorem dX5_set_59 : decode cX5_set 59 = .ok (.iload_n 2, 1) := by decide +kernel
theorem dX5_set_60 : decode cX5_set 60 = .ok (.iadd, 1) := by decide +kernel
theorem dX5_set_61 : decode cX5_set 61 = .ok (.iload_n 3, 1) := by decide +kernel
theorem dX5_set_62 : decode cX5_set 62 = .ok (.iastore, 1) := by decide +kernel
theorem dX5_set_63 : decode cX5_set 63 = .ok (.aload_n 0, 1) := by decide +kernel
theorem dX5_set_64 : decode cX5_set 64 = .ok (.getfield 13, 3) := by decide +kernel
theorem dX5_set_67 : decode cX5_set 67 = .ok (.bipush 6, 2) := by decide +kernel
theorem dX5_set_69 : decode cX5_set 69 = .ok (.iload_n 2, 1) := by decide +kernel
theorem dX5_set_70 : decode cX5_set 70 = .ok (.imul, 1) := by decide +kernel
theorem dX5_set_71 : decode cX5_set 71 = .ok (.iload_n 1, 1) := by decide +kernel
theorem dX5_set_72 : decode cX5_set 72 = .ok (.iadd, 1) := by decide +kernel
theorem dX5_set_73 : decode cX5_set 73 = .ok (.iload_n 3, 1) := by decide +kernel
theorem dX5_set_74 : decode cX5_set 74 = .ok (.iastore, 1) := by decide +kernel
theorem dX5_set_75 : decode cX5_set 75 = .ok (.iload 4, 2) := by decide +kernel
theorem dX5_set_77 : decode cX5_set 77 = .ok (.ireturn, 1) := by decide +kernel
theorem dX5_d_0 : decode cX5_d 0 = .ok (.aload_n 0, 1) := by decide +kernel
theorem dX5_d_1 : decode cX5_d 1 = .ok (.getfield 13, 3) := by decide +kernel
theorem dX5_d_4 : decode cX5_d 4 = .ok (.bipush 6, 2) := by decide +kernel
theorem dX5_d_6 : decode cX5_d 6 = .ok (.iload_n 1, 1) := by decide +kernel
theorem dX5_d_7 : decode cX5_d 7 = .ok (.imul, 1) := by decide +kernel
theorem dX5_d_8 : decode cX5_d 8 = .ok (.iload_n 2, 1) := by decide +kernel
theorem dX5_d_9 : decode cX5_d 9 = .ok (.iadd, 1) := by decide +kernel
theorem dX5_d_10 : decode cX5_d 10 = .ok (.iaload, 1) := by decide +kernel
theorem dX5_d_11 : decode cX5_d 11 = .ok (.ireturn, 1) := by decide +kernel
theorem dX5_get_0 : decode cX5_get 0 = .ok (.aload_n 0, 1) := by decide +kernel
theorem dX5_get_1 : decode cX5_get 1 = .ok (.iload_n 1, 1) := by decide +kernel
theorem dX5_get_2 : decode cX5_get 2 = .ok (.invokevirtual 40, 3) := by decide +kernel
theorem dX5_get_5 : decode cX5_get 5 = .ok (.ifCond .eq 20, 3) := by decide +kernel
theorem dX5_get_8 : decode cX5_get 8 = .ok (.aload_n 0, 1) := by decide +kernel
theorem dX5_get_9 : decode cX5_get 9 = .ok (.iload_n 2, 1) := by decide +kernel
theorem dX5_get_10 : decode cX5_get 10 = .ok (.invokevirtual 40, 3) := by decide +kernel
theorem dX5_get_13 : decode cX5_get 13 = .ok (.ifCond .eq 12, 3) := by decide +kernel
theorem dX5_get_16 : decode cX5_get 16 = .ok (.aload_n 0, 1) := by decide +kernel
theorem dX5_get_17 : decode cX5_get 17 = .ok (.iload_n 1, 1) := by decide +kernel
theorem dX5_get_18 : decode cX5_get 18 = .ok (.iload_n 2, 1) := by decide +kernel
theorem dX5_get_19 : decode cX5_get 19 = .ok (.invokevirtual 44, 3) := by decide +kernel
theorem dX5_get_22 : decode cX5_get 22 = .ok (.goto 5, 3) := by decide +kernel
theorem dX5_get_25 : decode cX5_get 25 = .ok (.bipush (-101), 2) := by decide +kernel
theorem dX5_get_27 : decode cX5_get 27 = .ok (.ireturn, 1) := by decide +kernel
theorem dX5_areFour_0 : decode cX5_areFour 0 = .ok (.aload_n 0, 1) := by decide +kernel
theorem dX5_areFour_1 : decode cX5_areFour 1 = .ok (.iload_n 1, 1) := by decide +kernel
theorem dX5_areFour_2 : decode cX5_areFour 2 = .ok (.iload_n 2, 1) := by decide +kernel
theorem dX5_areFour_3 : decode cX5_areFour 3 = .ok (.invokevirtual 44, 3) := by decide +kernel
theorem dX5_areFour_6 : decode cX5_areFour 6 = .ok (.aload_n 0, 1) := by decide +kernel
theorem dX5_areFour_7 : decode cX5_areFour 7 = .ok (.iload_n 3, 1) := by decide +kernel
theorem dX5_areFour_8 : decode cX5_areFour 8 = .ok (.iload 4, 2) := by decide +kernel
theorem dX5_areFour_10 : decode cX5_areFour 10 = .ok (.invokevirtual 44, 3) := by decide +kernel
theorem dX5_areFour_13 : decode cX5_areFour 13 = .ok (.iadd, 1) := by decide +kernel
theorem dX5_areFour_14 : decode cX5_areFour 14 = .ok (.istore 5, 2) := by decide +kernel
theorem dX5_areFour_16 : decode cX5_areFour 16 = .ok (.aload_n 0, 1) := by decide +kernel
theorem dX5_areFour_17 : decode cX5_areFour 17 = .ok (.iload_n 1, 1) := by decide +kernel
theorem dX5_areFour_18 : decode cX5_areFour 18 = .ok (.iload_n 3, 1) := by decide +kernel
theorem dX5_areFour_19 : decode cX5_areFour 19 = .ok (.invokevirtual 44, 3) := by decide +kernel
theorem dX5_areFour_22 : decode cX5_areFour 22 = .ok (.aload_n 0, 1) := by decide +kernel
theorem dX5_areFour_23 : decode cX5_areFour 23 = .ok (.iload_n 2, 1) := by decide +kernel
theorem dX5_areFour_24 : decode cX5_areFour 24 = .ok (.iload 4, 2) := by decide +kernel
theorem dX5_areFour_26 : decode cX5_areFour 26 = .ok (.invokevirtual 44, 3) := by decide +kernel
theorem dX5_areFour_29 : decode cX5_areFour 29 = .ok (.iadd, 1) := by decide +kernel
theorem dX5_areFour_30 : decode cX5_areFour 30 = .ok (.istore 6, 2) := by decide +kernel
theorem dX5_areFour_32 : decode cX5_areFour 32 = .ok (.aload_n 0, 1) := by decide +kernel
theorem dX5_areFour_33 : decode cX5_areFour 33 = .ok (.iload_n 1, 1) := by decide +kernel
theorem dX5_areFour_34 : decode cX5_areFour 34 = .ok (.iload 4, 2) := by decide +kernel
theorem dX5_areFour_36 : decode cX5_areFour 36 = .ok (.invokevirtual 44, 3) := by decide +kernel
theorem dX5_areFour_39 : decode cX5_areFour 39 = .ok (.aload_n 0, 1) := by decide +kernel
theorem dX5_areFour_40 : decode cX5_areFour 40 = .ok (.iload_n 2, 1) := by decide +kernel
theorem dX5_areFour_41 : decode cX5_areFour 41 = .ok (.iload_n 3, 1) := by decide +kernel
theorem dX5_areFour_42 : decode cX5_areFour 42 = .ok (.invokevirtual 44, 3) := by decide +kernel
theorem dX5_areFour_45 : decode cX5_areFour 45 = .ok (.iadd, 1) := by decide +kernel
theorem dX5_areFour_46 : decode cX5_areFour 46 = .ok (.istore 7, 2) := by decide +kernel
theorem dX5_areFour_48 : decode cX5_areFour 48 = .ok (.iload 5, 2) := by decide +kernel
theorem dX5_areFour_50 : decode cX5_areFour 50 = .ok (.iload 6, 2) := by decide +kernel
theorem dX5_areFour_52 : decode cX5_areFour 52 = .ok (.iload 7, 2) := by decide +kernel
theorem dX5_areFour_54 : decode cX5_areFour 54 = .ok (.invokestatic 48, 3) := by decide +kernel
theorem dX5_areFour_57 : decode cX5_areFour 57 = .ok (.invokestatic 48, 3) := by decide +kernel
theorem dX5_areFour_60 : decode cX5_areFour 60 = .ok (.istore 8, 2) := by decide +kernel
theorem dX5_areFour_62 : decode cX5_areFour 62 = .ok (.iload 5, 2) := by decide +kernel
theorem dX5_areFour_64 : decode cX5_areFour 64 = .ok (.iload 8, 2) := by decide +kernel
theorem dX5_areFour_66 : decode cX5_areFour 66 = .ok (.if_icmp .ne 7, 3) := by decide +kernel
theorem dX5_areFour_69 : decode cX5_areFour 69 = .ok (.iconst 1, 1) := by decide +kernel
theorem dX5_areFour_70 : decode cX5_areFour 70 = .ok (.goto 4, 3) := by decide +kernel
theorem dX5_areFour_73 : decode cX5_areFour 73 = .ok (.iconst 0, 1) := by decide +kernel
theorem dX5_areFour_74 : decode cX5_areFour 74 = .ok (.iload 6, 2) := by decide +kernel
theorem dX5_areFour_76 : decode cX5_areFour 76 = .ok (.iload 8, 2) := by decide +kernel
theorem dX5_areFour_78 : decode cX5_areFour 78 = .ok (.if_icmp .ne 7, 3) := by decide +kernel
theorem dX5_areFour_81 : decode cX5_areFour 81 = .ok (.iconst 1, 1) := by decide +kernel
theorem dX5_areFour_82 : decode cX5_areFour 82 = .ok (.goto 4, 3) := by decide +kernel
theorem dX5_areFour_85 : decode cX5_areFour 85 = .ok (.iconst 0, 1) := by decide +kernel
theorem dX5_areFour_86 : decode cX5_areFour 86 = .ok (.iadd, 1) := by decide +kernel
theorem dX5_areFour_87 : decode cX5_areFour 87 = .ok (.iload 7, 2) := by decide +kernel
theorem dX5_areFour_89 : decode cX5_areFour 89 = .ok (.iload 8, 2) := by decide +kernel
theorem dX5_areFour_91 : decode cX5_areFour 91 = .ok (.if_icmp .ne 7, 3) := by decide +kernel
theorem dX5_areFour_94 : decode cX5_areFour 94 = .ok (.iconst 1, 1) := by decide +kernel
theorem dX5_areFour_95 : decode cX5_areFour 95 = .ok (.goto 4, 3) := by decide +kernel
theorem dX5_areFour_98 : decode cX5_areFour 98 = .ok (.iconst 0, 1) := by decide +kernel
theorem dX5_areFour_99 : decode cX5_areFour 99 = .ok (.iadd, 1) := by decide +kernel
theorem dX5_areFour_100 : decode cX5_areFour 100 = .ok (.iconst 1, 1) := by decide +kernel
theorem dX5_areFour_101 : decode cX5_areFour 101 = .ok (.if_icmp .le 7, 3) := by decide +kernel
theorem dX5_areFour_104 : decode cX5_areFour 104 = .ok (.iconst 1, 1) := by decide +kernel
theorem dX5_areFour_105 : decode cX5_areFour 105 = .ok (.goto 4, 3) := by decide +kernel
theorem dX5_areFour_108 : decode cX5_areFour 108 = .ok (.iconst 0, 1) := by decide +kernel
theorem dX5_areFour_109 : decode cX5_areFour 109 = .ok (.ireturn, 1) := by decide +kernel
theorem dX5_brokenOf_0 : decode cX5_brokenOf 0 = .ok (.iconst 0, 1) := by decide +kernel
theorem dX5_brokenOf_1 : decode cX5_brokenOf 1 = .ok (.istore_n 2, 1) := by decide +kernel
theorem dX5_brokenOf_2 : decode cX5_brokenOf 2 = .ok (.iconst 0, 1) := by decide +kernel
theorem dX5_brokenOf_3 : decode cX5_brokenOf 3 = .ok (.istore_n 3, 1) := by decide +kernel
theorem dX5_brokenOf_4 : decode cX5_brokenOf 4 = .ok (.iload_n 3, 1) := by decide +kernel
theorem dX5_brokenOf_5 : decode cX5_brokenOf 5 = .ok (.aload_n 0, 1) := by decide +kernel
theorem dX5_brokenOf_6 : decode cX5_brokenOf 6 = .ok (.getfield 7, 3) := by decide +kernel
theorem dX5_brokenOf_9 : decode cX5_brokenOf 9 = .ok (.if_icmp .ge 197, 3) := by decide +kernel
theorem dX5_brokenOf_12 : decode cX5_brokenOf 12 = .ok (.iload_n 3, 1) := by decide +kernel
theorem dX5_brokenOf_13 : decode cX5_brokenOf 13 = .ok (.iconst 1, 1) := by decide +kernel
theorem dX5_brokenOf_14 : decode cX5_brokenOf 14 = .ok (.iadd, 1) := by decide +kernel
theorem dX5_brokenOf_15 : decode cX5_brokenOf 15 = .ok (.istore 4, 2) := by decide +kernel
theorem dX5_brokenOf_17 : decode cX5_brokenOf 17 = .ok (.iload 4, 2) := by decide +kernel
theorem dX5_brokenOf_19 : decode cX5_brokenOf 19 = .ok (.aload_n 0, 1) := by decide +kernel
theorem dX5_brokenOf_20 : decode cX5_brokenOf 20 = .ok (.getfield 7, 3) := by decide +kernel
theorem dX5_brokenOf_23 : decode cX5_brokenOf 23 = .ok (.if_icmp .ge 177, 3) := by decide +kernel
theorem dX5_brokenOf_26 : decode cX5_brokenOf 26 = .ok (.iconst 0, 1) := by decide +kernel
theorem dX5_brokenOf_27 : decode cX5_brokenOf 27 = .ok (.istore 5, 2) := by decide +kernel
theorem dX5_brokenOf_29 : decode cX5_brokenOf 29 = .ok (.iload 5, 2) := by decide +kernel
theorem dX5_brokenOf_31 : decode cX5_brokenOf 31 = .ok (.aload_n 0, 1) := by decide +kernel
theorem dX5_brokenOf_32 : decode cX5_brokenOf 32 = .ok (.getfield 7, 3) := by decide +kernel
theorem dX5_brokenOf_35 : decode cX5_brokenOf 35 = .ok (.if_icmp .ge 90, 3) := by decide +kernel
theorem dX5_brokenOf_38 : decode cX5_brokenOf 38 = .ok (.iload_n 1, 1) := by decide +kernel
theorem dX5_brokenOf_39 : decode cX5_brokenOf 39 = .ok (.iconst 2, 1) := by decide +kernel
theorem dX5_brokenOf_40 : decode cX5_brokenOf 40 = .ok (.if_icmp .ge 85, 3) := by decide +kernel
theorem dX5_brokenOf_43 : decode cX5_brokenOf 43 = .ok (.iload_n 1, 1) := by decide +kernel
theorem dX5_brokenOf_44 : decode cX5_brokenOf 44 = .ok (.ifCond .ne 22, 3) := by decide +kernel
theorem dX5_brokenOf_47 : decode cX5_brokenOf 47 = .ok (.aload_n 0, 1) := by decide +kernel
theorem dX5_brokenOf_48 : decode cX5_brokenOf 48 = .ok (.iload_n 3, 1) := by decide +kernel
theorem dX5_brokenOf_49 : decode cX5_brokenOf 49 = .ok (.iload 5, 2) := by decide +kernel
theorem dX5_brokenOf_51 : decode cX5_brokenOf 51 = .ok (.invokevirtual 44, 3) := by decide +kernel
theorem dX5_brokenOf_54 : decode cX5_brokenOf 54 = .ok (.aload_n 0, 1) := by decide +kernel
theorem dX5_brokenOf_55 : decode cX5_brokenOf 55 = .ok (.iload 5, 2) := by decide +kernel
theorem dX5_brokenOf_57 : decode cX5_brokenOf 57 = .ok (.iload 4, 2) := by decide +kernel
theorem dX5_brokenOf_59 : decode cX5_brokenOf 59 = .ok (.invokevirtual 44, 3) := by decide +kernel
theorem dX5_brokenOf_62 : decode cX5_brokenOf 62 = .ok (.iadd, 1) := by decide +kernel
theorem dX5_brokenOf_63 : decode cX5_brokenOf 63 = .ok (.goto 21, 3) := by decide +kernel
theorem dX5_brokenOf_66 : decode cX5_brokenOf 66 = .ok (.aload_n 0, 1) := by decide +kernel
theorem dX5_brokenOf_67 : decode cX5_brokenOf 67 = .ok (.iload_n 3, 1) := by decide +kernel
theorem dX5_brokenOf_68 : decode cX5_brokenOf 68 = .ok (.iload 5, 2) := by decide +kernel
theorem dX5_brokenOf_70 : decode cX5_brokenOf 70 = .ok (.invokevirtual 44, 3) := by decide +kernel
theorem dX5_brokenOf_73 : decode cX5_brokenOf 73 = .ok (.aload_n 0, 1) := by decide +kernel
theorem dX5_brokenOf_74 : decode cX5_brokenOf 74 = .ok (.iload 5, 2) := by decide +kernel
theorem dX5_brokenOf_76 : decode cX5_brokenOf 76 = .ok (.iload 4, 2) := by decide +kernel
theorem dX5_brokenOf_78 : decode cX5_brokenOf 78 = .ok (.invokevirtual 44, 3) := by decide +kernel
theorem dX5_brokenOf_81 : decode cX5_brokenOf 81 = .ok (.invokestatic 48, 3) := by decide +kernel
theorem dX5_brokenOf_84 : decode cX5_brokenOf 84 = .ok (.istore 6, 2) := by decide +kernel
theorem dX5_brokenOf_86 : decode cX5_brokenOf 86 = .ok (.iload_n 2, 1) := by decide +kernel
theorem dX5_brokenOf_87 : decode cX5_brokenOf 87 = .ok (.iload 5, 2) := by decide +kernel
theorem dX5_brokenOf_89 : decode cX5_brokenOf 89 = .ok (.iload_n 3, 1) := by decide +kernel
theorem dX5_brokenOf_90 : decode cX5_brokenOf 90 = .ok (.if_icmp .eq 26, 3) := by decide +kernel
theorem dX5_brokenOf_93 : decode cX5_brokenOf 93 = .ok (.iload 5, 2) := by decide +kernel
theorem dX5_brokenOf_95 : decode cX5_brokenOf 95 = .ok (.iload 4, 2) := by decide +kernel
theorem dX5_brokenOf_97 : decode cX5_brokenOf 97 = .ok (.if_icmp .eq 19, 3) := by decide +kernel
theorem dX5_brokenOf_100 : decode cX5_brokenOf 100 = .ok (.aload_n 0, 1) := by decide +kernel
theorem dX5_brokenOf_101 : decode cX5_brokenOf 101 = .ok (.iload_n 3, 1) := by decide +kernel
theorem dX5_brokenOf_102 : decode cX5_brokenOf 102 = .ok (.iload 4, 2) := by decide +kernel
theorem dX5_brokenOf_104 : decode cX5_brokenOf 104 = .ok (.invokevirtual 44, 3) := by decide +kernel
theorem dX5_brokenOf_107 : decode cX5_brokenOf 107 = .ok (.iload 6, 2) := by decide +kernel
theorem dX5_brokenOf_109 : decode cX5_brokenOf 109 = .ok (.if_icmp .le 7, 3) := by decide +kernel
theorem dX5_brokenOf_112 : decode cX5_brokenOf 112 = .ok (.iconst 1, 1) := by decide +kernel
theorem dX5_brokenOf_113 : decode cX5_brokenOf 113 = .ok (.goto 4, 3) := by decide +kernel
theorem dX5_brokenOf_116 : decode cX5_brokenOf 116 = .ok (.iconst 0, 1) := by decide +kernel
theorem dX5_brokenOf_117 : decode cX5_brokenOf 117 = .ok (.iadd, 1) := by decide +kernel
theorem dX5_brokenOf_118 : decode cX5_brokenOf 118 = .ok (.istore_n 2, 1) := by decide +kernel
theorem dX5_brokenOf_119 : decode cX5_brokenOf 119 = .ok (.iinc 5 1, 3) := by decide +kernel
theorem dX5_brokenOf_122 : decode cX5_brokenOf 122 = .ok (.goto (-93), 3) := by decide +kernel
theorem dX5_brokenOf_125 : decode cX5_brokenOf 125 = .ok (.iload 4, 2) := by decide +kernel
theorem dX5_brokenOf_127 : decode cX5_brokenOf 127 = .ok (.iconst 1, 1) := by decide +kernel
theorem dX5_brokenOf_128 : decode cX5_brokenOf 128 = .ok (.iadd, 1) := by decide +kernel
theorem dX5_brokenOf_129 : decode cX5_brokenOf 129 = .ok (.istore 5, 2) := by decide +kernel
theorem dX5_brokenOf_131 : decode cX5_brokenOf 131 = .ok (.iload 5, 2) := by decide +kernel
theorem dX5_brokenOf_133 : decode cX5_brokenOf 133 = .ok (.aload_n 0, 1) := by decide +kernel
theorem dX5_brokenOf_134 : decode cX5_brokenOf 134 = .ok (.getfield 7, 3) := by decide +kernel
theorem dX5_brokenOf_137 : decode cX5_brokenOf 137 = .ok (.if_icmp .ge 57, 3) := by decide +kernel
theorem dX5_brokenOf_140 : decode cX5_brokenOf 140 = .ok (.iload_n 1, 1) := by decide +kernel
theorem dX5_brokenOf_141 : decode cX5_brokenOf 141 = .ok (.iconst 2, 1) := by decide +kernel
theorem dX5_brokenOf_142 : decode cX5_brokenOf 142 = .ok (.if_icmp .ne 52, 3) := by decide +kernel
theorem dX5_brokenOf_145 : decode cX5_brokenOf 145 = .ok (.iload 5, 2) := by decide +kernel
theorem dX5_brokenOf_147 : decode cX5_brokenOf 147 = .ok (.iconst 1, 1) := by decide +kernel
theorem dX5_brokenOf_148 : decode cX5_brokenOf 148 = .ok (.iadd, 1) := by decide +kernel
theorem dX5_brokenOf_149 : decode cX5_brokenOf 149 = .ok (.istore 6, 2) := by decide +kernel
theorem dX5_brokenOf_151 : decode cX5_brokenOf 151 = .ok (.iload 6, 2) := by decide +kernel
theorem dX5_brokenOf_153 : decode cX5_brokenOf 153 = .ok (.aload_n 0, 1) := by decide +kernel
theorem dX5_brokenOf_154 : decode cX5_brokenOf 154 = .ok (.getfield 7, 3) := by decide +kernel
theorem dX5_brokenOf_157 : decode cX5_brokenOf 157 = .ok (.if_icmp .ge 31, 3) := by decide +kernel
theorem dX5_brokenOf_160 : decode cX5_brokenOf 160 = .ok (.iload_n 2, 1) := by decide +kernel
theorem dX5_brokenOf_161 : decode cX5_brokenOf 161 = .ok (.aload_n 0, 1) := by decide +kernel
theorem dX5_brokenOf_162 : decode cX5_brokenOf 162 = .ok (.iload_n 3, 1) := by decide +kernel
theorem dX5_brokenOf_163 : decode cX5_brokenOf 163 = .ok (.iload 4, 2) := by decide +kernel
theorem dX5_brokenOf_165 : decode cX5_brokenOf 165 = .ok (.iload 5, 2) := by decide +kernel
theorem dX5_brokenOf_167 : decode cX5_brokenOf 167 = .ok (.iload 6, 2) := by decide +kernel
theorem dX5_brokenOf_169 : decode cX5_brokenOf 169 = .ok (.invokevirtual 51, 3) := by decide +kernel
theorem dX5_brokenOf_172 : decode cX5_brokenOf 172 = .ok (.ifCond .eq 7, 3) := by decide +kernel
theorem dX5_brokenOf_175 : decode cX5_brokenOf 175 = .ok (.iconst 0, 1) := by decide +kernel
theorem dX5_brokenOf_176 : decode cX5_brokenOf 176 = .ok (.goto 4, 3) := by decide +kernel
theorem dX5_brokenOf_179 : decode cX5_brokenOf 179 = .ok (.iconst 1, 1) := by decide +kernel
theorem dX5_brokenOf_180 : decode cX5_brokenOf 180 = .ok (.iadd, 1) := by decide +kernel
theorem dX5_brokenOf_181 : decode cX5_brokenOf 181 = .ok (.istore_n 2, 1) := by decide +kernel
theorem dX5_brokenOf_182 : decode cX5_brokenOf 182 = .ok (.iinc 6 1, 3) := by decide +kernel
theorem dX5_brokenOf_185 : decode cX5_brokenOf 185 = .ok (.goto (-34), 3) := by decide +kernel
theorem dX5_brokenOf_188 : decode cX5_brokenOf 188 = .ok (.iinc 5 1, 3) := by decide +kernel
theorem dX5_brokenOf_191 : decode cX5_brokenOf 191 = .ok (.goto (-60), 3) := by decide +kernel
theorem dX5_brokenOf_194 : decode cX5_brokenOf 194 = .ok (.iinc 4 1, 3) := by decide +kernel
theorem dX5_brokenOf_197 : decode cX5_brokenOf 197 = .ok (.goto (-180), 3) := by decide +kernel
theorem dX5_brokenOf_200 : decode cX5_brokenOf 200 = .ok (.iinc 3 1, 3) := by decide +kernel
theorem dX5_brokenOf_203 : decode cX5_brokenOf 203 = .ok (.goto (-199), 3) := by decide +kernel
theorem dX5_brokenOf_206 : decode cX5_brokenOf 206 = .ok (.iload_n 2, 1) := by decide +kernel
theorem dX5_brokenOf_207 : decode cX5_brokenOf 207 = .ok (.ireturn, 1) := by decide +kernel
theorem dX5_is_0 : decode cX5_is 0 = .ok (.iload_n 1, 1) := by decide +kernel
theorem dX5_is_1 : decode cX5_is 1 = .ok (.iconst 0, 1) := by decide +kernel
theorem dX5_is_2 : decode cX5_is 2 = .ok (.iconst 2, 1) := by decide +kernel
theorem dX5_is_3 : decode cX5_is 3 = .ok (.invokestatic 36, 3) := by decide +kernel
theorem dX5_is_6 : decode cX5_is 6 = .ok (.ifCond .ne 6, 3) := by decide +kernel
theorem dX5_is_9 : decode cX5_is 9 = .ok (.bipush (-102), 2) := by decide +kernel
theorem dX5_is_11 : decode cX5_is 11 = .ok (.ireturn, 1) := by decide +kernel
theorem dX5_is_12 : decode cX5_is 12 = .ok (.aload_n 0, 1) := by decide +kernel
theorem dX5_is_13 : decode cX5_is 13 = .ok (.iload_n 1, 1) := by decide +kernel
theorem dX5_is_14 : decode cX5_is 14 = .ok (.invokevirtual 55, 3) := by decide +kernel
theorem dX5_is_17 : decode cX5_is 17 = .ok (.ifCond .ne 20, 3) := by decide +kernel
theorem dX5_is_20 : decode cX5_is 20 = .ok (.iload_n 1, 1) := by decide +kernel
theorem dX5_is_21 : decode cX5_is 21 = .ok (.iconst 2, 1) := by decide +kernel
theorem dX5_is_22 : decode cX5_is 22 = .ok (.if_icmp .lt 11, 3) := by decide +kernel
theorem dX5_is_25 : decode cX5_is 25 = .ok (.aload_n 0, 1) := by decide +kernel
theorem dX5_is_26 : decode cX5_is 26 = .ok (.iconst 0, 1) := by decide +kernel
theorem dX5_is_27 : decode cX5_is 27 = .ok (.invokevirtual 55, 3) := by decide +kernel
theorem dX5_is_30 : decode cX5_is 30 = .ok (.ifCond .ne 7, 3) := by decide +kernel
theorem dX5_is_33 : decode cX5_is 33 = .ok (.iconst 1, 1) := by decide +kernel
theorem dX5_is_34 : decode cX5_is 34 = .ok (.goto 4, 3) := by decide +kernel
theorem dX5_is_37 : decode cX5_is 37 = .ok (.iconst 0, 1) := by decide +kernel
theorem dX5_is_38 : decode cX5_is 38 = .ok (.ireturn, 1) := by decide +kernel
theorem dX5_broken_0 : decode cX5_broken 0 = .ok (.iload_n 1, 1) := by decide +kernel
theorem dX5_broken_1 : decode cX5_broken 1 = .ok (.iconst 0, 1) := by decide +kernel
theorem dX5_broken_2 : decode cX5_broken 2 = .ok (.iconst 2, 1) := by decide +kernel
theorem dX5_broken_3 : decode cX5_broken 3 = .ok (.invokestatic 36, 3) := by decide +kernel
theorem dX5_broken_6 : decode cX5_broken 6 = .ok (.ifCond .eq 11, 3) := by decide +kernel
theorem dX5_broken_9 : decode cX5_broken 9 = .ok (.aload_n 0, 1) := by decide +kernel
theorem dX5_broken_10 : decode cX5_broken 10 = .ok (.iload_n 1, 1) := by decide +kernel
theorem dX5_broken_11 : decode cX5_broken 11 = .ok (.invokevirtual 55, 3) := by decide +kernel
theorem dX5_broken_14 : decode cX5_broken 14 = .ok (.goto 5, 3) := by decide +kernel
theorem dX5_broken_17 : decode cX5_broken 17 = .ok (.bipush (-102), 2) := by decide +kernel
theorem dX5_broken_19 : decode cX5_broken 19 = .ok (.ireturn, 1) := by decide +kernel
theorem dX5_become_0 : decode cX5_become 0 = .ok (.iconst 0, 1) := by decide +kernel
theorem dX5_become_1 : decode cX5_become 1 = .ok (.istore_n 1, 1) := by decide +kernel
theorem dX5_become_2 : decode cX5_become 2 = .ok (.iconst 0, 1) := by decide +kernel
theorem dX5_become_3 : decode cX5_become 3 = .ok (.istore_n 2, 1) := by decide +kernel
theorem dX5_become_4 : decode cX5_become 4 = .ok (.iload_n 2, 1) := by decide +kernel
theorem dX5_become_5 : decode cX5_become 5 = .ok (.aload_n 0, 1) := by decide +kernel
theorem dX5_become_6 : decode cX5_become 6 = .ok (.getfield 7, 3) := by decide +kernel
theorem dX5_become_9 : decode cX5_become 9 = .ok (.if_icmp .ge 99, 3) := by decide +kernel
theorem dX5_become_12 : decode cX5_become 12 = .ok (.iload_n 2, 1) := by decide +kernel
theorem dX5_become_13 : decode cX5_become 13 = .ok (.iconst 1, 1) := by decide +kernel
theorem dX5_become_14 : decode cX5_become 14 = .ok (.iadd, 1) := by decide +kernel
theorem dX5_become_15 : decode cX5_become 15 = .ok (.istore_n 3, 1) := by decide +kernel
theorem dX5_become_16 : decode cX5_become 16 = .ok (.iload_n 3, 1) := by decide +kernel
theorem dX5_become_17 : decode cX5_become 17 = .ok (.aload_n 0, 1) := by decide +kernel
theorem dX5_become_18 : decode cX5_become 18 = .ok (.getfield 7, 3) := by decide +kernel
theorem dX5_become_21 : decode cX5_become 21 = .ok (.if_icmp .ge 81, 3) := by decide +kernel
theorem dX5_become_24 : decode cX5_become 24 = .ok (.iload_n 1, 1) := by decide +kernel
theorem dX5_become_25 : decode cX5_become 25 = .ok (.aload_n 0, 1) := by decide +kernel
theorem dX5_become_26 : decode cX5_become 26 = .ok (.getfield 17, 3) := by decide +kernel
theorem dX5_become_29 : decode cX5_become 29 = .ok (.bipush 6, 2) := by decide +kernel
theorem dX5_become_31 : decode cX5_become 31 = .ok (.iload_n 2, 1) := by decide +kernel
theorem dX5_become_32 : decode cX5_become 32 = .ok (.imul, 1) := by decide +kernel
theorem dX5_become_33 : decode cX5_become 33 = .ok (.iload_n 3, 1) := by decide +kernel
theorem dX5_become_34 : decode cX5_become 34 = .ok (.iadd, 1) := by decide +kernel
theorem dX5_become_35 : decode cX5_become 35 = .ok (.iaload, 1) := by decide +kernel
theorem dX5_become_36 : decode cX5_become 36 = .ok (.aload_n 0, 1) := by decide +kernel
theorem dX5_become_37 : decode cX5_become 37 = .ok (.iload_n 2, 1) := by decide +kernel
theorem dX5_become_38 : decode cX5_become 38 = .ok (.iload_n 3, 1) := by decide +kernel
theorem dX5_become_39 : decode cX5_become 39 = .ok (.invokevirtual 44, 3) := by decide +kernel
theorem dX5_become_42 : decode cX5_become 42 = .ok (.if_icmp .ne 7, 3) := by decide +kernel
theorem dX5_become_45 : decode cX5_become 45 = .ok (.iconst 0, 1) := by decide +kernel
theorem dX5_become_46 : decode cX5_become 46 = .ok (.goto 4, 3) := by decide +kernel
theorem dX5_become_49 : decode cX5_become 49 = .ok (.iconst 1, 1) := by decide +kernel
theorem dX5_become_50 : decode cX5_become 50 = .ok (.iadd, 1) := by decide +kernel
theorem dX5_become_51 : decode cX5_become 51 = .ok (.istore_n 1, 1) := by decide +kernel
theorem dX5_become_52 : decode cX5_become 52 = .ok (.aload_n 0, 1) := by decide +kernel
theorem dX5_become_53 : decode cX5_become 53 = .ok (.getfield 13, 3) := by decide +kernel
theorem dX5_become_56 : decode cX5_become 56 = .ok (.bipush 6, 2) := by decide +kernel
theorem dX5_become_58 : decode cX5_become 58 = .ok (.iload_n 2, 1) := by decide +kernel
theorem dX5_become_59 : decode cX5_become 59 = .ok (.imul, 1) := by decide +kernel
theorem dX5_become_60 : decode cX5_become 60 = .ok (.iload_n 3, 1) := by decide +kernel
theorem dX5_become_61 : decode cX5_become 61 = .ok (.iadd, 1) := by decide +kernel
theorem dX5_become_62 : decode cX5_become 62 = .ok (.aload_n 0, 1) := by decide +kernel
theorem dX5_become_63 : decode cX5_become 63 = .ok (.getfield 17, 3) := by decide +kernel
theorem dX5_become_66 : decode cX5_become 66 = .ok (.bipush 6, 2) := by decide +kernel
theorem dX5_become_68 : decode cX5_become 68 = .ok (.iload_n 2, 1) := by decide +kernel
theorem dX5_become_69 : decode cX5_become 69 = .ok (.imul, 1) := by decide +kernel
theorem dX5_become_70 : decode cX5_become 70 = .ok (.iload_n 3, 1) := by decide +kernel
theorem dX5_become_71 : decode cX5_become 71 = .ok (.iadd, 1) := by decide +kernel
theorem dX5_become_72 : decode cX5_become 72 = .ok (.iaload, 1) := by decide +kernel
theorem dX5_become_73 : decode cX5_become 73 = .ok (.iastore, 1) := by decide +kernel
theorem dX5_become_74 : decode cX5_become 74 = .ok (.aload_n 0, 1) := by decide +kernel
theorem dX5_become_75 : decode cX5_become 75 = .ok (.getfield 13, 3) := by decide +kernel
theorem dX5_become_78 : decode cX5_become 78 = .ok (.bipush 6, 2) := by decide +kernel
theorem dX5_become_80 : decode cX5_become 80 = .ok (.iload_n 3, 1) := by decide +kernel
theorem dX5_become_81 : decode cX5_become 81 = .ok (.imul, 1) := by decide +kernel
theorem dX5_become_82 : decode cX5_become 82 = .ok (.iload_n 2, 1) := by decide +kernel
theorem dX5_become_83 : decode cX5_become 83 = .ok (.iadd, 1) := by decide +kernel
theorem dX5_become_84 : decode cX5_become 84 = .ok (.aload_n 0, 1) := by decide +kernel
theorem dX5_become_85 : decode cX5_become 85 = .ok (.getfield 17, 3) := by decide +kernel
theorem dX5_become_88 : decode cX5_become 88 = .ok (.bipush 6, 2) := by decide +kernel
theorem dX5_become_90 : decode cX5_become 90 = .ok (.iload_n 2, 1) := by decide +kernel
theorem dX5_become_91 : decode cX5_become 91 = .ok (.imul, 1) := by decide +kernel
theorem dX5_become_92 : decode cX5_become 92 = .ok (.iload_n 3, 1) := by decide +kernel
theorem dX5_become_93 : decode cX5_become 93 = .ok (.iadd, 1) := by decide +kernel
theorem dX5_become_94 : decode cX5_become 94 = .ok (.iaload, 1) := by decide +kernel
theorem dX5_become_95 : decode cX5_become 95 = .ok (.iastore, 1) := by decide +kernel
theorem dX5_become_96 : decode cX5_become 96 = .ok (.iinc 3 1, 3) := by decide +kernel
theorem dX5_become_99 : decode cX5_become 99 = .ok (.goto (-83), 3) := by decide +kernel
theorem dX5_become_102 : decode cX5_become 102 = .ok (.iinc 2 1, 3) := by decide +kernel
theorem dX5_become_105 : decode cX5_become 105 = .ok (.goto (-101), 3) := by decide +kernel
theorem dX5_become_108 : decode cX5_become 108 = .ok (.iload_n 1, 1) := by decide +kernel
theorem dX5_become_109 : decode cX5_become 109 = .ok (.ireturn, 1) := by decide +kernel
theorem dX5_make_0 : decode cX5_make 0 = .ok (.iconst 0, 1) := by decide +kernel
theorem dX5_make_1 : decode cX5_make 1 = .ok (.istore_n 2, 1) := by decide +kernel
theorem dX5_make_2 : decode cX5_make 2 = .ok (.iload_n 2, 1) := by decide +kernel
theorem dX5_make_3 : decode cX5_make 3 = .ok (.bipush 36, 2) := by decide +kernel
theorem dX5_make_5 : decode cX5_make 5 = .ok (.if_icmp .ge 21, 3) := by decide +kernel
theorem dX5_make_8 : decode cX5_make 8 = .ok (.aload_n 0, 1) := by decide +kernel
theorem dX5_make_9 : decode cX5_make 9 = .ok (.getfield 17, 3) := by decide +kernel
theorem dX5_make_12 : decode cX5_make 12 = .ok (.iload_n 2, 1) := by decide +kernel
theorem dX5_make_13 : decode cX5_make 13 = .ok (.aload_n 0, 1) := by decide +kernel
theorem dX5_make_14 : decode cX5_make 14 = .ok (.getfield 13, 3) := by decide +kernel
theorem dX5_make_17 : decode cX5_make 17 = .ok (.iload_n 2, 1) := by decide +kernel
theorem dX5_make_18 : decode cX5_make 18 = .ok (.iaload, 1) := by decide +kernel
theorem dX5_make_19 : decode cX5_make 19 = .ok (.iastore, 1) := by decide +kernel
theorem dX5_make_20 : decode cX5_make 20 = .ok (.iinc 2 1, 3) := by decide +kernel
theorem dX5_make_23 : decode cX5_make 23 = .ok (.goto (-21), 3) := by decide +kernel
theorem dX5_make_26 : decode cX5_make 26 = .ok (.iconst 0, 1) := by decide +kernel
theorem dX5_make_27 : decode cX5_make 27 = .ok (.istore_n 2, 1) := by decide +kernel
theorem dX5_make_28 : decode cX5_make 28 = .ok (.iload_n 2, 1) := by decide +kernel
theorem dX5_make_29 : decode cX5_make 29 = .ok (.aload_n 0, 1) := by decide +kernel
theorem dX5_make_30 : decode cX5_make 30 = .ok (.getfield 7, 3) := by decide +kernel
theorem dX5_make_33 : decode cX5_make 33 = .ok (.if_icmp .ge 148, 3) := by decide +kernel
theorem dX5_make_36 : decode cX5_make 36 = .ok (.iconst 0, 1) := by decide +kernel
theorem dX5_make_37 : decode cX5_make 37 = .ok (.istore_n 3, 1) := by decide +kernel
theorem dX5_make_38 : decode cX5_make 38 = .ok (.iload_n 3, 1) := by decide +kernel
theorem dX5_make_39 : decode cX5_make 39 = .ok (.aload_n 0, 1) := by decide +kernel
theorem dX5_make_40 : decode cX5_make 40 = .ok (.getfield 7, 3) := by decide +kernel
theorem dX5_make_43 : decode cX5_make 43 = .ok (.if_icmp .ge 132, 3) := by decide +kernel
theorem dX5_make_46 : decode cX5_make 46 = .ok (.iconst 0, 1) := by decide +kernel
theorem dX5_make_47 : decode cX5_make 47 = .ok (.istore 4, 2) := by decide +kernel
theorem dX5_make_49 : decode cX5_make 49 = .ok (.iload 4, 2) := by decide +kernel
theorem dX5_make_51 : decode cX5_make 51 = .ok (.aload_n 0, 1) := by decide +kernel
theorem dX5_make_52 : decode cX5_make 52 = .ok (.getfield 7, 3) := by decide +kernel
theorem dX5_make_55 : decode cX5_make 55 = .ok (.if_icmp .ge 114, 3) := by decide +kernel
theorem dX5_make_58 : decode cX5_make 58 = .ok (.iload_n 1, 1) := by decide +kernel
theorem dX5_make_59 : decode cX5_make 59 = .ok (.ifCond .eq 30, 3) := by decide +kernel
theorem dX5_make_62 : decode cX5_make 62 = .ok (.aload_n 0, 1) := by decide +kernel
theorem dX5_make_63 : decode cX5_make 63 = .ok (.getfield 17, 3) := by decide +kernel
theorem dX5_make_66 : decode cX5_make 66 = .ok (.bipush 6, 2) := by decide +kernel
theorem dX5_make_68 : decode cX5_make 68 = .ok (.iload_n 3, 1) := by decide +kernel
theorem dX5_make_69 : decode cX5_make 69 = .ok (.imul, 1) := by decide +kernel
theorem dX5_make_70 : decode cX5_make 70 = .ok (.iload_n 2, 1) := by decide +kernel
theorem dX5_make_71 : decode cX5_make 71 = .ok (.iadd, 1) := by decide +kernel
theorem dX5_make_72 : decode cX5_make 72 = .ok (.iaload, 1) := by decide +kernel
theorem dX5_make_73 : decode cX5_make 73 = .ok (.aload_n 0, 1) := by decide +kernel
theorem dX5_make_74 : decode cX5_make 74 = .ok (.getfield 17, 3) := by decide +kernel
theorem dX5_make_77 : decode cX5_make 77 = .ok (.bipush 6, 2) := by decide +kernel
theorem dX5_make_79 : decode cX5_make 79 = .ok (.iload_n 2, 1) := by decide +kernel
theorem dX5_make_80 : decode cX5_make 80 = .ok (.imul, 1) := by decide +kernel
theorem dX5_make_81 : decode cX5_make 81 = .ok (.iload 4, 2) := by decide +kernel
theorem dX5_make_83 : decode cX5_make 83 = .ok (.iadd, 1) := by decide +kernel
theorem dX5_make_84 : decode cX5_make 84 = .ok (.iaload, 1) := by decide +kernel
theorem dX5_make_85 : decode cX5_make 85 = .ok (.iadd, 1) := by decide +kernel
theorem dX5_make_86 : decode cX5_make 86 = .ok (.goto 29, 3) := by decide +kernel
theorem dX5_make_89 : decode cX5_make 89 = .ok (.aload_n 0, 1) := by decide +kernel
theorem dX5_make_90 : decode cX5_make 90 = .ok (.getfield 17, 3) := by decide +kernel
theorem dX5_make_93 : decode cX5_make 93 = .ok (.bipush 6, 2) := by decide +kernel
theorem dX5_make_95 : decode cX5_make 95 = .ok (.iload_n 3, 1) := by decide +kernel
theorem dX5_make_96 : decode cX5_make 96 = .ok (.imul, 1) := by decide +kernel
theorem dX5_make_97 : decode cX5_make 97 = .ok (.iload_n 2, 1) := by decide +kernel
theorem dX5_make_98 : decode cX5_make 98 = .ok (.iadd, 1) := by decide +kernel
theorem dX5_make_99 : decode cX5_make 99 = .ok (.iaload, 1) := by decide +kernel
theorem dX5_make_100 : decode cX5_make 100 = .ok (.aload_n 0, 1) := by decide +kernel
theorem dX5_make_101 : decode cX5_make 101 = .ok (.getfield 17, 3) := by decide +kernel
theorem dX5_make_104 : decode cX5_make 104 = .ok (.bipush 6, 2) := by decide +kernel
theorem dX5_make_106 : decode cX5_make 106 = .ok (.iload_n 2, 1) := by decide +kernel
theorem dX5_make_107 : decode cX5_make 107 = .ok (.imul, 1) := by decide +kernel
theorem dX5_make_108 : decode cX5_make 108 = .ok (.iload 4, 2) := by decide +kernel
theorem dX5_make_110 : decode cX5_make 110 = .ok (.iadd, 1) := by decide +kernel
theorem dX5_make_111 : decode cX5_make 111 = .ok (.iaload, 1) := by decide +kernel
theorem dX5_make_112 : decode cX5_make 112 = .ok (.invokestatic 48, 3) := by decide +kernel
theorem dX5_make_115 : decode cX5_make 115 = .ok (.istore 5, 2) := by decide +kernel
theorem dX5_make_117 : decode cX5_make 117 = .ok (.aload_n 0, 1) := by decide +kernel
theorem dX5_make_118 : decode cX5_make 118 = .ok (.getfield 17, 3) := by decide +kernel
theorem dX5_make_121 : decode cX5_make 121 = .ok (.bipush 6, 2) := by decide +kernel
theorem dX5_make_123 : decode cX5_make 123 = .ok (.iload_n 3, 1) := by decide +kernel
theorem dX5_make_124 : decode cX5_make 124 = .ok (.imul, 1) := by decide +kernel
theorem dX5_make_125 : decode cX5_make 125 = .ok (.iload 4, 2) := by decide +kernel
theorem dX5_make_127 : decode cX5_make 127 = .ok (.iadd, 1) := by decide +kernel
theorem dX5_make_128 : decode cX5_make 128 = .ok (.iload 5, 2) := by decide +kernel
theorem dX5_make_130 : decode cX5_make 130 = .ok (.aload_n 0, 1) := by decide +kernel
theorem dX5_make_131 : decode cX5_make 131 = .ok (.getfield 17, 3) := by decide +kernel
theorem dX5_make_134 : decode cX5_make 134 = .ok (.bipush 6, 2) := by decide +kernel
theorem dX5_make_136 : decode cX5_make 136 = .ok (.iload_n 3, 1) := by decide +kernel
theorem dX5_make_137 : decode cX5_make 137 = .ok (.imul, 1) := by decide +kernel
theorem dX5_make_138 : decode cX5_make 138 = .ok (.iload 4, 2) := by decide +kernel
theorem dX5_make_140 : decode cX5_make 140 = .ok (.iadd, 1) := by decide +kernel
theorem dX5_make_141 : decode cX5_make 141 = .ok (.iaload, 1) := by decide +kernel
theorem dX5_make_142 : decode cX5_make 142 = .ok (.if_icmp .ge 8, 3) := by decide +kernel
theorem dX5_make_145 : decode cX5_make 145 = .ok (.iload 5, 2) := by decide +kernel
theorem dX5_make_147 : decode cX5_make 147 = .ok (.goto 15, 3) := by decide +kernel
theorem dX5_make_150 : decode cX5_make 150 = .ok (.aload_n 0, 1) := by decide +kernel
theorem dX5_make_151 : decode cX5_make 151 = .ok (.getfield 17, 3) := by decide +kernel
theorem dX5_make_154 : decode cX5_make 154 = .ok (.bipush 6, 2) := by decide +kernel
theorem dX5_make_156 : decode cX5_make 156 = .ok (.iload_n 3, 1) := by decide +kernel
theorem dX5_make_157 : decode cX5_make 157 = .ok (.imul, 1) := by decide +kernel
theorem dX5_make_158 : decode cX5_make 158 = .ok (.iload 4, 2) := by decide +kernel
theorem dX5_make_160 : decode cX5_make 160 = .ok (.iadd, 1) := by decide +kernel
theorem dX5_make_161 : decode cX5_make 161 = .ok (.iaload, 1) := by decide +kernel
theorem dX5_make_162 : decode cX5_make 162 = .ok (.iastore, 1) := by decide +kernel
theorem dX5_make_163 : decode cX5_make 163 = .ok (.iinc 4 1, 3) := by decide +kernel
theorem dX5_make_166 : decode cX5_make 166 = .ok (.goto (-117), 3) := by decide +kernel
theorem dX5_make_169 : decode cX5_make 169 = .ok (.iinc 3 1, 3) := by decide +kernel
theorem dX5_make_172 : decode cX5_make 172 = .ok (.goto (-134), 3) := by decide +kernel
theorem dX5_make_175 : decode cX5_make 175 = .ok (.iinc 2 1, 3) := by decide +kernel
theorem dX5_make_178 : decode cX5_make 178 = .ok (.goto (-150), 3) := by decide +kernel
theorem dX5_make_181 : decode cX5_make 181 = .ok (.return_, 1) := by decide +kernel
theorem dX5_mend_0 : decode cX5_mend 0 = .ok (.aload_n 0, 1) := by decide +kernel
theorem dX5_mend_1 : decode cX5_mend 1 = .ok (.iconst 1, 1) := by decide +kernel
theorem dX5_mend_2 : decode cX5_mend 2 = .ok (.invokevirtual 59, 3) := by decide +kernel
theorem dX5_mend_5 : decode cX5_mend 5 = .ok (.aload_n 0, 1) := by decide +kernel
theorem dX5_mend_6 : decode cX5_mend 6 = .ok (.invokevirtual 63, 3) := by decide +kernel
theorem dX5_mend_9 : decode cX5_mend 9 = .ok (.ireturn, 1) := by decide +kernel
theorem dX5_low_0 : decode cX5_low 0 = .ok (.aload_n 0, 1) := by decide +kernel
theorem dX5_low_1 : decode cX5_low 1 = .ok (.iload_n 1, 1) := by decide +kernel
theorem dX5_low_2 : decode cX5_low 2 = .ok (.invokevirtual 40, 3) := by decide +kernel
theorem dX5_low_5 : decode cX5_low 5 = .ok (.ifCond .eq 11, 3) := by decide +kernel
theorem dX5_low_8 : decode cX5_low 8 = .ok (.aload_n 0, 1) := by decide +kernel
theorem dX5_low_9 : decode cX5_low 9 = .ok (.iload_n 2, 1) := by decide +kernel
theorem dX5_low_10 : decode cX5_low 10 = .ok (.invokevirtual 40, 3) := by decide +kernel
theorem dX5_low_13 : decode cX5_low 13 = .ok (.ifCond .ne 6, 3) := by decide +kernel
theorem dX5_low_16 : decode cX5_low 16 = .ok (.bipush (-101), 2) := by decide +kernel
theorem dX5_low_18 : decode cX5_low 18 = .ok (.ireturn, 1) := by decide +kernel
theorem dX5_low_19 : decode cX5_low 19 = .ok (.aload_n 0, 1) := by decide +kernel
theorem dX5_low_20 : decode cX5_low 20 = .ok (.iconst 0, 1) := by decide +kernel
theorem dX5_low_21 : decode cX5_low 21 = .ok (.invokevirtual 59, 3) := by decide +kernel
theorem dX5_low_24 : decode cX5_low 24 = .ok (.aload_n 0, 1) := by decide +kernel
theorem dX5_low_25 : decode cX5_low 25 = .ok (.getfield 17, 3) := by decide +kernel
theorem dX5_low_28 : decode cX5_low 28 = .ok (.bipush 6, 2) := by decide +kernel
theorem dX5_low_30 : decode cX5_low 30 = .ok (.iload_n 1, 1) := by decide +kernel
theorem dX5_low_31 : decode cX5_low 31 = .ok (.imul, 1) := by decide +kernel
theorem dX5_low_32 : decode cX5_low 32 = .ok (.iload_n 2, 1) := by decide +kernel
theorem dX5_low_33 : decode cX5_low 33 = .ok (.iadd, 1) := by decide +kernel
theorem dX5_low_34 : decode cX5_low 34 = .ok (.iaload, 1) := by decide +kernel
theorem dX5_low_35 : decode cX5_low 35 = .ok (.ireturn, 1) := by decide +kernel
theorem dX5_gap_0 : decode cX5_gap 0 = .ok (.aload_n 0, 1) := by decide +kernel
theorem dX5_gap_1 : decode cX5_gap 1 = .ok (.iconst 0, 1) := by decide +kernel
theorem dX5_gap_2 : decode cX5_gap 2 = .ok (.invokevirtual 59, 3) := by decide +kernel
theorem dX5_gap_5 : decode cX5_gap 5 = .ok (.iconst 0, 1) := by decide +kernel
theorem dX5_gap_6 : decode cX5_gap 6 = .ok (.istore_n 1, 1) := by decide +kernel
theorem dX5_gap_7 : decode cX5_gap 7 = .ok (.iconst 0, 1) := by decide +kernel
theorem dX5_gap_8 : decode cX5_gap 8 = .ok (.istore_n 2, 1) := by decide +kernel
theorem dX5_gap_9 : decode cX5_gap 9 = .ok (.iload_n 2, 1) := by decide +kernel
theorem dX5_gap_10 : decode cX5_gap 10 = .ok (.aload_n 0, 1) := by decide +kernel
theorem dX5_gap_11 : decode cX5_gap 11 = .ok (.getfield 7, 3) := by decide +kernel
theorem dX5_gap_14 : decode cX5_gap 14 = .ok (.if_icmp .ge 48, 3) := by decide +kernel
theorem dX5_gap_17 : decode cX5_gap 17 = .ok (.iconst 0, 1) := by decide +kernel
theorem dX5_gap_18 : decode cX5_gap 18 = .ok (.istore_n 3, 1) := by decide +kernel
theorem dX5_gap_19 : decode cX5_gap 19 = .ok (.iload_n 3, 1) := by decide +kernel
theorem dX5_gap_20 : decode cX5_gap 20 = .ok (.aload_n 0, 1) := by decide +kernel
theorem dX5_gap_21 : decode cX5_gap 21 = .ok (.getfield 7, 3) := by decide +kernel
theorem dX5_gap_24 : decode cX5_gap 24 = .ok (.if_icmp .ge 32, 3) := by decide +kernel
theorem dX5_gap_27 : decode cX5_gap 27 = .ok (.iload_n 1, 1) := by decide +kernel
theorem dX5_gap_28 : decode cX5_gap 28 = .ok (.aload_n 0, 1) := by decide +kernel
theorem dX5_gap_29 : decode cX5_gap 29 = .ok (.iload_n 2, 1) := by decide +kernel
theorem dX5_gap_30 : decode cX5_gap 30 = .ok (.iload_n 3, 1) := by decide +kernel
theorem dX5_gap_31 : decode cX5_gap 31 = .ok (.invokevirtual 44, 3) := by decide +kernel
theorem dX5_gap_34 : decode cX5_gap 34 = .ok (.aload_n 0, 1) := by decide +kernel
theorem dX5_gap_35 : decode cX5_gap 35 = .ok (.getfield 17, 3) := by decide +kernel
theorem dX5_gap_38 : decode cX5_gap 38 = .ok (.bipush 6, 2) := by decide +kernel
theorem dX5_gap_40 : decode cX5_gap 40 = .ok (.iload_n 2, 1) := by decide +kernel
theorem dX5_gap_41 : decode cX5_gap 41 = .ok (.imul, 1) := by decide +kernel
theorem dX5_gap_42 : decode cX5_gap 42 = .ok (.iload_n 3, 1) := by decide +kernel
theorem dX5_gap_43 : decode cX5_gap 43 = .ok (.iadd, 1) := by decide +kernel
theorem dX5_gap_44 : decode cX5_gap 44 = .ok (.iaload, 1) := by decide +kernel
theorem dX5_gap_45 : decode cX5_gap 45 = .ok (.isub, 1) := by decide +kernel
theorem dX5_gap_46 : decode cX5_gap 46 = .ok (.invokestatic 48, 3) := by decide +kernel
theorem dX5_gap_49 : decode cX5_gap 49 = .ok (.istore_n 1, 1) := by decide +kernel
theorem dX5_gap_50 : decode cX5_gap 50 = .ok (.iinc 3 1, 3) := by decide +kernel
theorem dX5_gap_53 : decode cX5_gap 53 = .ok (.goto (-34), 3) := by decide +kernel
theorem dX5_gap_56 : decode cX5_gap 56 = .ok (.iinc 2 1, 3) := by decide +kernel
theorem dX5_gap_59 : decode cX5_gap 59 = .ok (.goto (-50), 3) := by decide +kernel
theorem dX5_gap_62 : decode cX5_gap 62 = .ok (.iload_n 1, 1) := by decide +kernel
theorem dX5_gap_63 : decode cX5_gap 63 = .ok (.ireturn, 1) := by decide +kernel
theorem dX5_groups_0 : decode cX5_groups 0 = .ok (.iload_n 1, 1) := by decide +kernel
theorem dX5_groups_1 : decode cX5_groups 1 = .ok (.iconst 0, 1) := by decide +kernel
theorem dX5_groups_2 : decode cX5_groups 2 = .ok (.sipush 1000, 3) := by decide +kernel
theorem dX5_groups_5 : decode cX5_groups 5 = .ok (.invokestatic 36, 3) := by decide +kernel
theorem dX5_groups_8 : decode cX5_groups 8 = .ok (.ifCond .ne 6, 3) := by decide +kernel
theorem dX5_groups_11 : decode cX5_groups 11 = .ok (.bipush (-102), 2) := by decide +kernel
theorem dX5_groups_13 : decode cX5_groups 13 = .ok (.ireturn, 1) := by decide +kernel
theorem dX5_groups_14 : decode cX5_groups 14 = .ok (.aload_n 0, 1) := by decide +kernel
theorem dX5_groups_15 : decode cX5_groups 15 = .ok (.iconst 0, 1) := by decide +kernel
theorem dX5_groups_16 : decode cX5_groups 16 = .ok (.invokevirtual 59, 3) := by decide +kernel
theorem dX5_groups_19 : decode cX5_groups 19 = .ok (.iconst 0, 1) := by decide +kernel
theorem dX5_groups_20 : decode cX5_groups 20 = .ok (.istore_n 2, 1) := by decide +kernel
theorem dX5_groups_21 : decode cX5_groups 21 = .ok (.iconst 0, 1) := by decide +kernel
theorem dX5_groups_22 : decode cX5_groups 22 = .ok (.istore_n 3, 1) := by decide +kernel
theorem dX5_groups_23 : decode cX5_groups 23 = .ok (.iload_n 3, 1) := by decide +kernel
theorem dX5_groups_24 : decode cX5_groups 24 = .ok (.aload_n 0, 1) := by decide +kernel
theorem dX5_groups_25 : decode cX5_groups 25 = .ok (.getfield 7, 3) := by decide +kernel
theorem dX5_groups_28 : decode cX5_groups 28 = .ok (.if_icmp .ge 68, 3) := by decide +kernel
theorem dX5_groups_31 : decode cX5_groups 31 = .ok (.iconst 1, 1) := by decide +kernel
theorem dX5_groups_32 : decode cX5_groups 32 = .ok (.istore 4, 2) := by decide +kernel
theorem dX5_groups_34 : decode cX5_groups 34 = .ok (.iconst 0, 1) := by decide +kernel
theorem dX5_groups_35 : decode cX5_groups 35 = .ok (.istore 5, 2) := by decide +kernel
theorem dX5_groups_37 : decode cX5_groups 37 = .ok (.iload 5, 2) := by decide +kernel
theorem dX5_groups_39 : decode cX5_groups 39 = .ok (.iload_n 3, 1) := by decide +kernel
theorem dX5_groups_40 : decode cX5_groups 40 = .ok (.if_icmp .ge 37, 3) := by decide +kernel
theorem dX5_groups_43 : decode cX5_groups 43 = .ok (.iload 4, 2) := by decide +kernel
theorem dX5_groups_45 : decode cX5_groups 45 = .ok (.ifCond .eq 23, 3) := by decide +kernel
theorem dX5_groups_48 : decode cX5_groups 48 = .ok (.aload_n 0, 1) := by decide +kernel
theorem dX5_groups_49 : decode cX5_groups 49 = .ok (.getfield 17, 3) := by decide +kernel
theorem dX5_groups_52 : decode cX5_groups 52 = .ok (.bipush 6, 2) := by decide +kernel
theorem dX5_groups_54 : decode cX5_groups 54 = .ok (.iload_n 3, 1) := by decide +kernel
theorem dX5_groups_55 : decode cX5_groups 55 = .ok (.imul, 1) := by decide +kernel
theorem dX5_groups_56 : decode cX5_groups 56 = .ok (.iload 5, 2) := by decide +kernel
theorem dX5_groups_58 : decode cX5_groups 58 = .ok (.iadd, 1) := by decide +kernel
theorem dX5_groups_59 : decode cX5_groups 59 = .ok (.iaload, 1) := by decide +kernel
theorem dX5_groups_60 : decode cX5_groups 60 = .ok (.iload_n 1, 1) := by decide +kernel
theorem dX5_groups_61 : decode cX5_groups 61 = .ok (.if_icmp .le 7, 3) := by decide +kernel
theorem dX5_groups_64 : decode cX5_groups 64 = .ok (.iconst 1, 1) := by decide +kernel
theorem dX5_groups_65 : decode cX5_groups 65 = .ok (.goto 4, 3) := by decide +kernel
theorem dX5_groups_68 : decode cX5_groups 68 = .ok (.iconst 0, 1) := by decide +kernel
theorem dX5_groups_69 : decode cX5_groups 69 = .ok (.istore 4, 2) := by decide +kernel
theorem dX5_groups_71 : decode cX5_groups 71 = .ok (.iinc 5 1, 3) := by decide +kernel
theorem dX5_groups_74 : decode cX5_groups 74 = .ok (.goto (-37), 3) := by decide +kernel
theorem dX5_groups_77 : decode cX5_groups 77 = .ok (.iload_n 2, 1) := by decide +kernel
theorem dX5_groups_78 : decode cX5_groups 78 = .ok (.iload 4, 2) := by decide +kernel
theorem dX5_groups_80 : decode cX5_groups 80 = .ok (.ifCond .eq 7, 3) := by decide +kernel
theorem dX5_groups_83 : decode cX5_groups 83 = .ok (.iconst 1, 1) := by decide +kernel
theorem dX5_groups_84 : decode cX5_groups 84 = .ok (.goto 4, 3) := by decide +kernel
theorem dX5_groups_87 : decode cX5_groups 87 = .ok (.iconst 0, 1) := by decide +kernel
theorem dX5_groups_88 : decode cX5_groups 88 = .ok (.iadd, 1) := by decide +kernel
theorem dX5_groups_89 : decode cX5_groups 89 = .ok (.istore_n 2, 1) := by decide +kernel
theorem dX5_groups_90 : decode cX5_groups 90 = .ok (.iinc 3 1, 3) := by decide +kernel
theorem dX5_groups_93 : decode cX5_groups 93 = .ok (.goto (-70), 3) := by decide +kernel
theorem dX5_groups_96 : decode cX5_groups 96 = .ok (.iload_n 2, 1) := by decide +kernel
theorem dX5_groups_97 : decode cX5_groups 97 = .ok (.ireturn, 1) := by decide +kernel
theorem dX5_lower_0 : decode cX5_lower 0 = .ok (.aload_n 0, 1) := by decide +kernel
theorem dX5_lower_1 : decode cX5_lower 1 = .ok (.iconst 0, 1) := by decide +kernel
theorem dX5_lower_2 : decode cX5_lower 2 = .ok (.invokevirtual 59, 3) := by decide +kernel
theorem dX5_lower_5 : decode cX5_lower 5 = .ok (.aload_n 0, 1) := by decide +kernel
theorem dX5_lower_6 : decode cX5_lower 6 = .ok (.invokevirtual 63, 3) := by decide +kernel
theorem dX5_lower_9 : decode cX5_lower 9 = .ok (.ireturn, 1) := by decide +kernel
theorem dX5_codeMany_0 : decode cX5_codeMany 0 = .ok (.iconst 1, 1) := by decide +kernel
theorem dX5_codeMany_1 : decode cX5_codeMany 1 = .ok (.istore_n 1, 1) := by decide +kernel
theorem dX5_codeMany_2 : decode cX5_codeMany 2 = .ok (.iconst 2, 1) := by decide +kernel
theorem dX5_codeMany_3 : decode cX5_codeMany 3 = .ok (.istore_n 2, 1) := by decide +kernel
theorem dX5_codeMany_4 : decode cX5_codeMany 4 = .ok (.iload_n 2, 1) := by decide +kernel
theorem dX5_codeMany_5 : decode cX5_codeMany 5 = .ok (.aload_n 0, 1) := by decide +kernel
theorem dX5_codeMany_6 : decode cX5_codeMany 6 = .ok (.getfield 7, 3) := by decide +kernel
theorem dX5_codeMany_9 : decode cX5_codeMany 9 = .ok (.if_icmp .ge 16, 3) := by decide +kernel
theorem dX5_codeMany_12 : decode cX5_codeMany 12 = .ok (.iload_n 1, 1) := by decide +kernel
theorem dX5_codeMany_13 : decode cX5_codeMany 13 = .ok (.aload_n 0, 1) := by decide +kernel
theorem dX5_codeMany_14 : decode cX5_codeMany 14 = .ok (.getfield 7, 3) := by decide +kernel
theorem dX5_codeMany_17 : decode cX5_codeMany 17 = .ok (.imul, 1) := by decide +kernel
theorem dX5_codeMany_18 : decode cX5_codeMany 18 = .ok (.istore_n 1, 1) := by decide +kernel
theorem dX5_codeMany_19 : decode cX5_codeMany 19 = .ok (.iinc 2 1, 3) := by decide +kernel
theorem dX5_codeMany_22 : decode cX5_codeMany 22 = .ok (.goto (-18), 3) := by decide +kernel
theorem dX5_codeMany_25 : decode cX5_codeMany 25 = .ok (.iload_n 1, 1) := by decide +kernel
theorem dX5_codeMany_26 : decode cX5_codeMany 26 = .ok (.ireturn, 1) := by decide +kernel
theorem dX5_codes_0 : decode cX5_codes 0 = .ok (.aload_n 0, 1) := by decide +kernel
theorem dX5_codes_1 : decode cX5_codes 1 = .ok (.invokevirtual 67, 3) := by decide +kernel
theorem dX5_codes_4 : decode cX5_codes 4 = .ok (.ireturn, 1) := by decide +kernel
theorem dX5_isCode_0 : decode cX5_isCode 0 = .ok (.iload_n 1, 1) := by decide +kernel
theorem dX5_isCode_1 : decode cX5_isCode 1 = .ok (.iconst 0, 1) := by decide +kernel
theorem dX5_isCode_2 : decode cX5_isCode 2 = .ok (.aload_n 0, 1) := by decide +kernel
theorem dX5_isCode_3 : decode cX5_isCode 3 = .ok (.invokevirtual 67, 3) := by decide +kernel
theorem dX5_isCode_6 : decode cX5_isCode 6 = .ok (.iconst 1, 1) := by decide +kernel
theorem dX5_isCode_7 : decode cX5_isCode 7 = .ok (.isub, 1) := by decide +kernel
theorem dX5_isCode_8 : decode cX5_isCode 8 = .ok (.invokestatic 36, 3) := by decide +kernel
theorem dX5_isCode_11 : decode cX5_isCode 11 = .ok (.ireturn, 1) := by decide +kernel
theorem dX5_join_0 : decode cX5_join 0 = .ok (.aload_n 0, 1) := by decide +kernel
theorem dX5_join_1 : decode cX5_join 1 = .ok (.getfield 20, 3) := by decide +kernel
theorem dX5_join_4 : decode cX5_join 4 = .ok (.bipush 6, 2) := by decide +kernel
theorem dX5_join_6 : decode cX5_join 6 = .ok (.iload_n 1, 1) := by decide +kernel
theorem dX5_join_7 : decode cX5_join 7 = .ok (.imul, 1) := by decide +kernel
theorem dX5_join_8 : decode cX5_join 8 = .ok (.iload_n 2, 1) := by decide +kernel
theorem dX5_join_9 : decode cX5_join 9 = .ok (.iadd, 1) := by decide +kernel
theorem dX5_join_10 : decode cX5_join 10 = .ok (.iconst 1, 1) := by decide +kernel
theorem dX5_join_11 : decode cX5_join 11 = .ok (.bastore, 1) := by decide +kernel
theorem dX5_join_12 : decode cX5_join 12 = .ok (.aload_n 0, 1) := by decide +kernel
theorem dX5_join_13 : decode cX5_join 13 = .ok (.getfield 20, 3) := by decide +kernel
theorem dX5_join_16 : decode cX5_join 16 = .ok (.bipush 6, 2) := by decide +kernel
theorem dX5_join_18 : decode cX5_join 18 = .ok (.iload_n 2, 1) := by decide +kernel
theorem dX5_join_19 : decode cX5_join 19 = .ok (.imul, 1) := by decide +kernel
theorem dX5_join_20 : decode cX5_join 20 = .ok (.iload_n 1, 1) := by decide +kernel
theorem dX5_join_21 : decode cX5_join 21 = .ok (.iadd, 1) := by decide +kernel
theorem dX5_join_22 : decode cX5_join 22 = .ok (.iconst 1, 1) := by decide +kernel
theorem dX5_join_23 : decode cX5_join 23 = .ok (.bastore, 1) := by decide +kernel
theorem dX5_join_24 : decode cX5_join 24 = .ok (.aload_n 0, 1) := by decide +kernel
theorem dX5_join_25 : decode cX5_join 25 = .ok (.getfield 24, 3) := by decide +kernel
theorem dX5_join_28 : decode cX5_join 28 = .ok (.iload_n 1, 1) := by decide +kernel
theorem dX5_join_29 : decode cX5_join 29 = .ok (.dup2, 1) := by decide +kernel
theorem dX5_join_30 : decode cX5_join 30 = .ok (.iaload, 1) := by decide +kernel
theorem dX5_join_31 : decode cX5_join 31 = .ok (.iconst 1, 1) := by decide +kernel
theorem dX5_join_32 : decode cX5_join 32 = .ok (.isub, 1) := by decide +kernel
theorem dX5_join_33 : decode cX5_join 33 = .ok (.iastore, 1) := by decide +kernel
theorem dX5_join_34 : decode cX5_join 34 = .ok (.aload_n 0, 1) := by decide +kernel
theorem dX5_join_35 : decode cX5_join 35 = .ok (.getfield 24, 3) := by decide +kernel
theorem dX5_join_38 : decode cX5_join 38 = .ok (.iload_n 2, 1) := by decide +kernel
theorem dX5_join_39 : decode cX5_join 39 = .ok (.dup2, 1) := by decide +kernel
theorem dX5_join_40 : decode cX5_join 40 = .ok (.iaload, 1) := by decide +kernel
theorem dX5_join_41 : decode cX5_join 41 = .ok (.iconst 1, 1) := by decide +kernel
theorem dX5_join_42 : decode cX5_join 42 = .ok (.isub, 1) := by decide +kernel
theorem dX5_join_43 : decode cX5_join 43 = .ok (.iastore, 1) := by decide +kernel
theorem dX5_join_44 : decode cX5_join 44 = .ok (.return_, 1) := by decide +kernel
theorem dX5_leaf_0 : decode cX5_leaf 0 = .ok (.iconst 0, 1) := by decide +kernel
theorem dX5_leaf_1 : decode cX5_leaf 1 = .ok (.istore_n 1, 1) := by decide +kernel
theorem dX5_leaf_2 : decode cX5_leaf 2 = .ok (.aload_n 0, 1) := by decide +kernel
theorem dX5_leaf_3 : decode cX5_leaf 3 = .ok (.getfield 24, 3) := by decide +kernel
theorem dX5_leaf_6 : decode cX5_leaf 6 = .ok (.iload_n 1, 1) := by decide +kernel
theorem dX5_leaf_7 : decode cX5_leaf 7 = .ok (.iaload, 1) := by decide +kernel
theorem dX5_leaf_8 : decode cX5_leaf 8 = .ok (.iconst 1, 1) := by decide +kernel
theorem dX5_leaf_9 : decode cX5_leaf 9 = .ok (.if_icmp .eq 9, 3) := by decide +kernel
theorem dX5_leaf_12 : decode cX5_leaf 12 = .ok (.iinc 1 1, 3) := by decide +kernel
theorem dX5_leaf_15 : decode cX5_leaf 15 = .ok (.goto (-13), 3) := by decide +kernel
theorem dX5_leaf_18 : decode cX5_leaf 18 = .ok (.iload_n 1, 1) := by decide +kernel
theorem dX5_leaf_19 : decode cX5_leaf 19 = .ok (.ireturn, 1) := by decide +kernel
theorem dX5_lay_0 : decode cX5_lay 0 = .ok (.iconst 0, 1) := by decide +kernel
theorem dX5_lay_1 : decode cX5_lay 1 = .ok (.istore_n 2, 1) := by decide +kernel
theorem dX5_lay_2 : decode cX5_lay 2 = .ok (.iload_n 2, 1) := by decide +kernel
theorem dX5_lay_3 : decode cX5_lay 3 = .ok (.bipush 36, 2) := by decide +kernel
theorem dX5_lay_5 : decode cX5_lay 5 = .ok (.if_icmp .ge 16, 3) := by decide +kernel
theorem dX5_lay_8 : decode cX5_lay 8 = .ok (.aload_n 0, 1) := by decide +kernel
theorem dX5_lay_9 : decode cX5_lay 9 = .ok (.getfield 20, 3) := by decide +kernel
theorem dX5_lay_12 : decode cX5_lay 12 = .ok (.iload_n 2, 1) := by decide +kernel
theorem dX5_lay_13 : decode cX5_lay 13 = .ok (.iconst 0, 1) := by decide +kernel
theorem dX5_lay_14 : decode cX5_lay 14 = .ok (.bastore, 1) := by decide +kernel
theorem dX5_lay_15 : decode cX5_lay 15 = .ok (.iinc 2 1, 3) := by decide +kernel
theorem dX5_lay_18 : decode cX5_lay 18 = .ok (.goto (-16), 3) := by decide +kernel
theorem dX5_lay_21 : decode cX5_lay 21 = .ok (.iconst 0, 1) := by decide +kernel
theorem dX5_lay_22 : decode cX5_lay 22 = .ok (.istore_n 2, 1) := by decide +kernel
theorem dX5_lay_23 : decode cX5_lay 23 = .ok (.iload_n 2, 1) := by decide +kernel
theorem dX5_lay_24 : decode cX5_lay 24 = .ok (.aload_n 0, 1) := by decide +kernel
theorem dX5_lay_25 : decode cX5_lay 25 = .ok (.getfield 7, 3) := by decide +kernel
theorem dX5_lay_28 : decode cX5_lay 28 = .ok (.if_icmp .ge 16, 3) := by decide +kernel
theorem dX5_lay_31 : decode cX5_lay 31 = .ok (.aload_n 0, 1) := by decide +kernel
theorem dX5_lay_32 : decode cX5_lay 32 = .ok (.getfield 24, 3) := by decide +kernel
theorem dX5_lay_35 : decode cX5_lay 35 = .ok (.iload_n 2, 1) := by decide +kernel
theorem dX5_lay_36 : decode cX5_lay 36 = .ok (.iconst 1, 1) := by decide +kernel
theorem dX5_lay_37 : decode cX5_lay 37 = .ok (.iastore, 1) := by decide +kernel
theorem dX5_lay_38 : decode cX5_lay 38 = .ok (.iinc 2 1, 3) := by decide +kernel
theorem dX5_lay_41 : decode cX5_lay 41 = .ok (.goto (-18), 3) := by decide +kernel
theorem dX5_lay_44 : decode cX5_lay 44 = .ok (.iload_n 1, 1) := by decide +kernel
theorem dX5_lay_45 : decode cX5_lay 45 = .ok (.istore_n 2, 1) := by decide +kernel
theorem dX5_lay_46 : decode cX5_lay 46 = .ok (.iconst 2, 1) := by decide +kernel
theorem dX5_lay_47 : decode cX5_lay 47 = .ok (.istore_n 3, 1) := by decide +kernel
theorem dX5_lay_48 : decode cX5_lay 48 = .ok (.iload_n 3, 1) := by decide +kernel
theorem dX5_lay_49 : decode cX5_lay 49 = .ok (.aload_n 0, 1) := by decide +kernel
theorem dX5_lay_50 : decode cX5_lay 50 = .ok (.getfield 7, 3) := by decide +kernel
theorem dX5_lay_53 : decode cX5_lay 53 = .ok (.if_icmp .ge 31, 3) := by decide +kernel
theorem dX5_lay_56 : decode cX5_lay 56 = .ok (.aload_n 0, 1) := by decide +kernel
theorem dX5_lay_57 : decode cX5_lay 57 = .ok (.getfield 24, 3) := by decide +kernel
theorem dX5_lay_60 : decode cX5_lay 60 = .ok (.iload_n 2, 1) := by decide +kernel
theorem dX5_lay_61 : decode cX5_lay 61 = .ok (.aload_n 0, 1) := by decide +kernel
theorem dX5_lay_62 : decode cX5_lay 62 = .ok (.getfield 7, 3) := by decide +kernel
theorem dX5_lay_65 : decode cX5_lay 65 = .ok (.irem, 1) := by decide +kernel
theorem dX5_lay_66 : decode cX5_lay 66 = .ok (.dup2, 1) := by decide +kernel
theorem dX5_lay_67 : decode cX5_lay 67 = .ok (.iaload, 1) := by decide +kernel
theorem dX5_lay_68 : decode cX5_lay 68 = .ok (.iconst 1, 1) := by decide +kernel
theorem dX5_lay_69 : decode cX5_lay 69 = .ok (.iadd, 1) := by decide +kernel
theorem dX5_lay_70 : decode cX5_lay 70 = .ok (.iastore, 1) := by decide +kernel
theorem dX5_lay_71 : decode cX5_lay 71 = .ok (.iload_n 2, 1) := by decide +kernel
theorem dX5_lay_72 : decode cX5_lay 72 = .ok (.aload_n 0, 1) := by decide +kernel
theorem dX5_lay_73 : decode cX5_lay 73 = .ok (.getfield 7, 3) := by decide +kernel
theorem dX5_lay_76 : decode cX5_lay 76 = .ok (.idiv, 1) := by decide +kernel
theorem dX5_lay_77 : decode cX5_lay 77 = .ok (.istore_n 2, 1) := by decide +kernel
theorem dX5_lay_78 : decode cX5_lay 78 = .ok (.iinc 3 1, 3) := by decide +kernel
theorem dX5_lay_81 : decode cX5_lay 81 = .ok (.goto (-33), 3) := by decide +kernel
theorem dX5_lay_84 : decode cX5_lay 84 = .ok (.aload_n 0, 1) := by decide +kernel
theorem dX5_lay_85 : decode cX5_lay 85 = .ok (.invokevirtual 67, 3) := by decide +kernel
theorem dX5_lay_88 : decode cX5_lay 88 = .ok (.istore_n 3, 1) := by decide +kernel
theorem dX5_lay_89 : decode cX5_lay 89 = .ok (.iconst 2, 1) := by decide +kernel
theorem dX5_lay_90 : decode cX5_lay 90 = .ok (.istore 4, 2) := by decide +kernel
theorem dX5_lay_92 : decode cX5_lay 92 = .ok (.iload 4, 2) := by decide +kernel
theorem dX5_lay_94 : decode cX5_lay 94 = .ok (.aload_n 0, 1) := by decide +kernel
theorem dX5_lay_95 : decode cX5_lay 95 = .ok (.getfield 7, 3) := by decide +kernel
theorem dX5_lay_98 : decode cX5_lay 98 = .ok (.if_icmp .ge 32, 3) := by decide +kernel
theorem dX5_lay_101 : decode cX5_lay 101 = .ok (.iload_n 3, 1) := by decide +kernel
theorem dX5_lay_102 : decode cX5_lay 102 = .ok (.aload_n 0, 1) := by decide +kernel
theorem dX5_lay_103 : decode cX5_lay 103 = .ok (.getfield 7, 3) := by decide +kernel
theorem dX5_lay_106 : decode cX5_lay 106 = .ok (.idiv, 1) := by decide +kernel
theorem dX5_lay_107 : decode cX5_lay 107 = .ok (.istore_n 3, 1) := by decide +kernel
theorem dX5_lay_108 : decode cX5_lay 108 = .ok (.aload_n 0, 1) := by decide +kernel
theorem dX5_lay_109 : decode cX5_lay 109 = .ok (.aload_n 0, 1) := by decide +kernel
theorem dX5_lay_110 : decode cX5_lay 110 = .ok (.invokevirtual 70, 3) := by decide +kernel
theorem dX5_lay_113 : decode cX5_lay 113 = .ok (.iload_n 1, 1) := by decide +kernel
theorem dX5_lay_114 : decode cX5_lay 114 = .ok (.iload_n 3, 1) := by decide +kernel
theorem dX5_lay_115 : decode cX5_lay 115 = .ok (.idiv, 1) := by decide +kernel
theorem dX5_lay_116 : decode cX5_lay 116 = .ok (.aload_n 0, 1) := by decide +kernel
theorem dX5_lay_117 : decode cX5_lay 117 = .ok (.getfield 7, 3) := by decide +kernel
theorem dX5_lay_120 : decode cX5_lay 120 = .ok (.irem, 1) := by decide +kernel
theorem dX5_lay_121 : decode cX5_lay 121 = .ok (.invokevirtual 73, 3) := by decide +kernel
theorem dX5_lay_124 : decode cX5_lay 124 = .ok (.iinc 4 1, 3) := by decide +kernel
theorem dX5_lay_127 : decode cX5_lay 127 = .ok (.goto (-35), 3) := by decide +kernel
theorem dX5_lay_130 : decode cX5_lay 130 = .ok (.aload_n 0, 1) := by decide +kernel
theorem dX5_lay_131 : decode cX5_lay 131 = .ok (.invokevirtual 70, 3) := by decide +kernel
theorem dX5_lay_134 : decode cX5_lay 134 = .ok (.istore 4, 2) := by decide +kernel
theorem dX5_lay_136 : decode cX5_lay 136 = .ok (.aload_n 0, 1) := by decide +kernel
theorem dX5_lay_137 : decode cX5_lay 137 = .ok (.getfield 24, 3) := by decide +kernel
theorem dX5_lay_140 : decode cX5_lay 140 = .ok (.iload 4, 2) := by decide +kernel
theorem dX5_lay_142 : decode cX5_lay 142 = .ok (.iconst 0, 1) := by decide +kernel
theorem dX5_lay_143 : decode cX5_lay 143 = .ok (.iastore, 1) := by decide +kernel
theorem dX5_lay_144 : decode cX5_lay 144 = .ok (.aload_n 0, 1) := by decide +kernel
theorem dX5_lay_145 : decode cX5_lay 145 = .ok (.invokevirtual 70, 3) := by decide +kernel
theorem dX5_lay_148 : decode cX5_lay 148 = .ok (.istore 5, 2) := by decide +kernel
theorem dX5_lay_150 : decode cX5_lay 150 = .ok (.aload_n 0, 1) := by decide +kernel
theorem dX5_lay_151 : decode cX5_lay 151 = .ok (.getfield 24, 3) := by decide +kernel
theorem dX5_lay_154 : decode cX5_lay 154 = .ok (.iload 4, 2) := by decide +kernel
theorem dX5_lay_156 : decode cX5_lay 156 = .ok (.iconst 1, 1) := by decide +kernel
theorem dX5_lay_157 : decode cX5_lay 157 = .ok (.iastore, 1) := by decide +kernel
theorem dX5_lay_158 : decode cX5_lay 158 = .ok (.aload_n 0, 1) := by decide +kernel
theorem dX5_lay_159 : decode cX5_lay 159 = .ok (.iload 4, 2) := by decide +kernel
theorem dX5_lay_161 : decode cX5_lay 161 = .ok (.iload 5, 2) := by decide +kernel
theorem dX5_lay_163 : decode cX5_lay 163 = .ok (.invokevirtual 73, 3) := by decide +kernel
theorem dX5_lay_166 : decode cX5_lay 166 = .ok (.return_, 1) := by decide +kernel
theorem dX5_go_0 : decode cX5_go 0 = .ok (.aload_n 0, 1) := by decide +kernel
theorem dX5_go_1 : decode cX5_go 1 = .ok (.iload_n 1, 1) := by decide +kernel
theorem dX5_go_2 : decode cX5_go 2 = .ok (.invokevirtual 77, 3) := by decide +kernel
theorem dX5_go_5 : decode cX5_go 5 = .ok (.iconst 0, 1) := by decide +kernel
theorem dX5_go_6 : decode cX5_go 6 = .ok (.istore_n 2, 1) := by decide +kernel
theorem dX5_go_7 : decode cX5_go 7 = .ok (.iload_n 2, 1) := by decide +kernel
theorem dX5_go_8 : decode cX5_go 8 = .ok (.aload_n 0, 1) := by decide +kernel
theorem dX5_go_9 : decode cX5_go 9 = .ok (.getfield 7, 3) := by decide +kernel
theorem dX5_go_12 : decode cX5_go 12 = .ok (.if_icmp .ge 70, 3) := by decide +kernel
theorem dX5_go_15 : decode cX5_go 15 = .ok (.iconst 0, 1) := by decide +kernel
theorem dX5_go_16 : decode cX5_go 16 = .ok (.istore_n 3, 1) := by decide +kernel
theorem dX5_go_17 : decode cX5_go 17 = .ok (.iload_n 3, 1) := by decide +kernel
theorem dX5_go_18 : decode cX5_go 18 = .ok (.aload_n 0, 1) := by decide +kernel
theorem dX5_go_19 : decode cX5_go 19 = .ok (.getfield 7, 3) := by decide +kernel
theorem dX5_go_22 : decode cX5_go 22 = .ok (.if_icmp .ge 54, 3) := by decide +kernel
theorem dX5_go_25 : decode cX5_go 25 = .ok (.aload_n 0, 1) := by decide +kernel
theorem dX5_go_26 : decode cX5_go 26 = .ok (.getfield 27, 3) := by decide +kernel
theorem dX5_go_29 : decode cX5_go 29 = .ok (.bipush 6, 2) := by decide +kernel
theorem dX5_go_31 : decode cX5_go 31 = .ok (.iload_n 2, 1) := by decide +kernel
theorem dX5_go_32 : decode cX5_go 32 = .ok (.imul, 1) := by decide +kernel
theorem dX5_go_33 : decode cX5_go 33 = .ok (.iload_n 3, 1) := by decide +kernel
theorem dX5_go_34 : decode cX5_go 34 = .ok (.iadd, 1) := by decide +kernel
theorem dX5_go_35 : decode cX5_go 35 = .ok (.iload_n 2, 1) := by decide +kernel
theorem dX5_go_36 : decode cX5_go 36 = .ok (.iload_n 3, 1) := by decide +kernel
theorem dX5_go_37 : decode cX5_go 37 = .ok (.if_icmp .ne 7, 3) := by decide +kernel
theorem dX5_go_40 : decode cX5_go 40 = .ok (.iconst 0, 1) := by decide +kernel
theorem dX5_go_41 : decode cX5_go 41 = .ok (.goto 28, 3) := by decide +kernel
theorem dX5_go_44 : decode cX5_go 44 = .ok (.aload_n 0, 1) := by decide +kernel
theorem dX5_go_45 : decode cX5_go 45 = .ok (.getfield 20, 3) := by decide +kernel
theorem dX5_go_48 : decode cX5_go 48 = .ok (.bipush 6, 2) := by decide +kernel
theorem dX5_go_50 : decode cX5_go 50 = .ok (.iload_n 2, 1) := by decide +kernel
theorem dX5_go_51 : decode cX5_go 51 = .ok (.imul, 1) := by decide +kernel
theorem dX5_go_52 : decode cX5_go 52 = .ok (.iload_n 3, 1) := by decide +kernel
theorem dX5_go_53 : decode cX5_go 53 = .ok (.iadd, 1) := by decide +kernel
theorem dX5_go_54 : decode cX5_go 54 = .ok (.baload, 1) := by decide +kernel
theorem dX5_go_55 : decode cX5_go 55 = .ok (.ifCond .eq 12, 3) := by decide +kernel
theorem dX5_go_58 : decode cX5_go 58 = .ok (.aload_n 0, 1) := by decide +kernel
theorem dX5_go_59 : decode cX5_go 59 = .ok (.iload_n 2, 1) := by decide +kernel
theorem dX5_go_60 : decode cX5_go 60 = .ok (.iload_n 3, 1) := by decide +kernel
theorem dX5_go_61 : decode cX5_go 61 = .ok (.invokevirtual 44, 3) := by decide +kernel
theorem dX5_go_64 : decode cX5_go 64 = .ok (.goto 5, 3) := by decide +kernel
theorem dX5_go_67 : decode cX5_go 67 = .ok (.ldc 81, 2) := by decide +kernel
theorem dX5_go_69 : decode cX5_go 69 = .ok (.iastore, 1) := by decide +kernel
theorem dX5_go_70 : decode cX5_go 70 = .ok (.iinc 3 1, 3) := by decide +kernel
theorem dX5_go_73 : decode cX5_go 73 = .ok (.goto (-56), 3) := by decide +kernel
theorem dX5_go_76 : decode cX5_go 76 = .ok (.iinc 2 1, 3) := by decide +kernel
theorem dX5_go_79 : decode cX5_go 79 = .ok (.goto (-72), 3) := by decide +kernel
theorem dX5_go_82 : decode cX5_go 82 = .ok (.iconst 0, 1) := by decide +kernel
theorem dX5_go_83 : decode cX5_go 83 = .ok (.istore_n 2, 1) := by decide +kernel
theorem dX5_go_84 : decode cX5_go 84 = .ok (.iload_n 2, 1) := by decide +kernel
theorem dX5_go_85 : decode cX5_go 85 = .ok (.aload_n 0, 1) := by decide +kernel
theorem dX5_go_86 : decode cX5_go 86 = .ok (.getfield 7, 3) := by decide +kernel
theorem dX5_go_89 : decode cX5_go 89 = .ok (.if_icmp .ge 115, 3) := by decide +kernel
theorem dX5_go_92 : decode cX5_go 92 = .ok (.iconst 0, 1) := by decide +kernel
theorem dX5_go_93 : decode cX5_go 93 = .ok (.istore_n 3, 1) := by decide +kernel
theorem dX5_go_94 : decode cX5_go 94 = .ok (.iload_n 3, 1) := by decide +kernel
theorem dX5_go_95 : decode cX5_go 95 = .ok (.aload_n 0, 1) := by decide +kernel
theorem dX5_go_96 : decode cX5_go 96 = .ok (.getfield 7, 3) := by decide +kernel
theorem dX5_go_99 : decode cX5_go 99 = .ok (.if_icmp .ge 99, 3) := by decide +kernel
theorem dX5_go_102 : decode cX5_go 102 = .ok (.iconst 0, 1) := by decide +kernel
theorem dX5_go_103 : decode cX5_go 103 = .ok (.istore 4, 2) := by decide +kernel
theorem dX5_go_105 : decode cX5_go 105 = .ok (.iload 4, 2) := by decide +kernel
theorem dX5_go_107 : decode cX5_go 107 = .ok (.aload_n 0, 1) := by decide +kernel
theorem dX5_go_108 : decode cX5_go 108 = .ok (.getfield 7, 3) := by decide +kernel
theorem dX5_go_111 : decode cX5_go 111 = .ok (.if_icmp .ge 81, 3) := by decide +kernel
theorem dX5_go_114 : decode cX5_go 114 = .ok (.aload_n 0, 1) := by decide +kernel
theorem dX5_go_115 : decode cX5_go 115 = .ok (.getfield 27, 3) := by decide +kernel
theorem dX5_go_118 : decode cX5_go 118 = .ok (.bipush 6, 2) := by decide +kernel
theorem dX5_go_120 : decode cX5_go 120 = .ok (.iload_n 3, 1) := by decide +kernel
theorem dX5_go_121 : decode cX5_go 121 = .ok (.imul, 1) := by decide +kernel
theorem dX5_go_122 : decode cX5_go 122 = .ok (.iload_n 2, 1) := by decide +kernel
theorem dX5_go_123 : decode cX5_go 123 = .ok (.iadd, 1) := by decide +kernel
theorem dX5_go_124 : decode cX5_go 124 = .ok (.iaload, 1) := by decide +kernel
theorem dX5_go_125 : decode cX5_go 125 = .ok (.aload_n 0, 1) := by decide +kernel
theorem dX5_go_126 : decode cX5_go 126 = .ok (.getfield 27, 3) := by decide +kernel
theorem dX5_go_129 : decode cX5_go 129 = .ok (.bipush 6, 2) := by decide +kernel
theorem dX5_go_131 : decode cX5_go 131 = .ok (.iload_n 2, 1) := by decide +kernel
theorem dX5_go_132 : decode cX5_go 132 = .ok (.imul, 1) := by decide +kernel
theorem dX5_go_133 : decode cX5_go 133 = .ok (.iload 4, 2) := by decide +kernel
theorem dX5_go_135 : decode cX5_go 135 = .ok (.iadd, 1) := by decide +kernel
theorem dX5_go_136 : decode cX5_go 136 = .ok (.iaload, 1) := by decide +kernel
theorem dX5_go_137 : decode cX5_go 137 = .ok (.iadd, 1) := by decide +kernel
theorem dX5_go_138 : decode cX5_go 138 = .ok (.istore 5, 2) := by decide +kernel
theorem dX5_go_140 : decode cX5_go 140 = .ok (.aload_n 0, 1) := by decide +kernel
theorem dX5_go_141 : decode cX5_go 141 = .ok (.getfield 27, 3) := by decide +kernel
theorem dX5_go_144 : decode cX5_go 144 = .ok (.bipush 6, 2) := by decide +kernel
theorem dX5_go_146 : decode cX5_go 146 = .ok (.iload_n 3, 1) := by decide +kernel
theorem dX5_go_147 : decode cX5_go 147 = .ok (.imul, 1) := by decide +kernel
theorem dX5_go_148 : decode cX5_go 148 = .ok (.iload 4, 2) := by decide +kernel
theorem dX5_go_150 : decode cX5_go 150 = .ok (.iadd, 1) := by decide +kernel
theorem dX5_go_151 : decode cX5_go 151 = .ok (.iload 5, 2) := by decide +kernel
theorem dX5_go_153 : decode cX5_go 153 = .ok (.aload_n 0, 1) := by decide +kernel
theorem dX5_go_154 : decode cX5_go 154 = .ok (.getfield 27, 3) := by decide +kernel
theorem dX5_go_157 : decode cX5_go 157 = .ok (.bipush 6, 2) := by decide +kernel
theorem dX5_go_159 : decode cX5_go 159 = .ok (.iload_n 3, 1) := by decide +kernel
theorem dX5_go_160 : decode cX5_go 160 = .ok (.imul, 1) := by decide +kernel
theorem dX5_go_161 : decode cX5_go 161 = .ok (.iload 4, 2) := by decide +kernel
theorem dX5_go_163 : decode cX5_go 163 = .ok (.iadd, 1) := by decide +kernel
theorem dX5_go_164 : decode cX5_go 164 = .ok (.iaload, 1) := by decide +kernel
theorem dX5_go_165 : decode cX5_go 165 = .ok (.if_icmp .ge 8, 3) := by decide +kernel
theorem dX5_go_168 : decode cX5_go 168 = .ok (.iload 5, 2) := by decide +kernel
theorem dX5_go_170 : decode cX5_go 170 = .ok (.goto 15, 3) := by decide +kernel
theorem dX5_go_173 : decode cX5_go 173 = .ok (.aload_n 0, 1) := by decide +kernel
theorem dX5_go_174 : decode cX5_go 174 = .ok (.getfield 27, 3) := by decide +kernel
theorem dX5_go_177 : decode cX5_go 177 = .ok (.bipush 6, 2) := by decide +kernel
theorem dX5_go_179 : decode cX5_go 179 = .ok (.iload_n 3, 1) := by decide +kernel
theorem dX5_go_180 : decode cX5_go 180 = .ok (.imul, 1) := by decide +kernel
theorem dX5_go_181 : decode cX5_go 181 = .ok (.iload 4, 2) := by decide +kernel
theorem dX5_go_183 : decode cX5_go 183 = .ok (.iadd, 1) := by decide +kernel
theorem dX5_go_184 : decode cX5_go 184 = .ok (.iaload, 1) := by decide +kernel
theorem dX5_go_185 : decode cX5_go 185 = .ok (.iastore, 1) := by decide +kernel
theorem dX5_go_186 : decode cX5_go 186 = .ok (.iinc 4 1, 3) := by decide +kernel
theorem dX5_go_189 : decode cX5_go 189 = .ok (.goto (-84), 3) := by decide +kernel
theorem dX5_go_192 : decode cX5_go 192 = .ok (.iinc 3 1, 3) := by decide +kernel
theorem dX5_go_195 : decode cX5_go 195 = .ok (.goto (-101), 3) := by decide +kernel
theorem dX5_go_198 : decode cX5_go 198 = .ok (.iinc 2 1, 3) := by decide +kernel
theorem dX5_go_201 : decode cX5_go 201 = .ok (.goto (-117), 3) := by decide +kernel
theorem dX5_go_204 : decode cX5_go 204 = .ok (.return_, 1) := by decide +kernel
theorem dX5_joined_0 : decode cX5_joined 0 = .ok (.aload_n 0, 1) := by decide +kernel
theorem dX5_joined_1 : decode cX5_joined 1 = .ok (.iload_n 1, 1) := by decide +kernel
theorem dX5_joined_2 : decode cX5_joined 2 = .ok (.invokevirtual 82, 3) := by decide +kernel
theorem dX5_joined_5 : decode cX5_joined 5 = .ok (.ifCond .ne 6, 3) := by decide +kernel
theorem dX5_joined_8 : decode cX5_joined 8 = .ok (.bipush (-102), 2) := by decide +kernel
theorem dX5_joined_10 : decode cX5_joined 10 = .ok (.ireturn, 1) := by decide +kernel
theorem dX5_joined_11 : decode cX5_joined 11 = .ok (.aload_n 0, 1) := by decide +kernel
theorem dX5_joined_12 : decode cX5_joined 12 = .ok (.iload_n 2, 1) := by decide +kernel
theorem dX5_joined_13 : decode cX5_joined 13 = .ok (.invokevirtual 40, 3) := by decide +kernel
theorem dX5_joined_16 : decode cX5_joined 16 = .ok (.ifCond .eq 11, 3) := by decide +kernel
theorem dX5_joined_19 : decode cX5_joined 19 = .ok (.aload_n 0, 1) := by decide +kernel
theorem dX5_joined_20 : decode cX5_joined 20 = .ok (.iload_n 3, 1) := by decide +kernel
theorem dX5_joined_21 : decode cX5_joined 21 = .ok (.invokevirtual 40, 3) := by decide +kernel
theorem dX5_joined_24 : decode cX5_joined 24 = .ok (.ifCond .ne 6, 3) := by decide +kernel
theorem dX5_joined_27 : decode cX5_joined 27 = .ok (.bipush (-101), 2) := by decide +kernel
theorem dX5_joined_29 : decode cX5_joined 29 = .ok (.ireturn, 1) := by decide +kernel
theorem dX5_joined_30 : decode cX5_joined 30 = .ok (.aload_n 0, 1) := by decide +kernel
theorem dX5_joined_31 : decode cX5_joined 31 = .ok (.iload_n 1, 1) := by decide +kernel
theorem dX5_joined_32 : decode cX5_joined 32 = .ok (.invokevirtual 77, 3) := by decide +kernel
theorem dX5_joined_35 : decode cX5_joined 35 = .ok (.aload_n 0, 1) := by decide +kernel
theorem dX5_joined_36 : decode cX5_joined 36 = .ok (.getfield 20, 3) := by decide +kernel
theorem dX5_joined_39 : decode cX5_joined 39 = .ok (.bipush 6, 2) := by decide +kernel
theorem dX5_joined_41 : decode cX5_joined 41 = .ok (.iload_n 2, 1) := by decide +kernel
theorem dX5_joined_42 : decode cX5_joined 42 = .ok (.imul, 1) := by decide +kernel
theorem dX5_joined_43 : decode cX5_joined 43 = .ok (.iload_n 3, 1) := by decide +kernel
theorem dX5_joined_44 : decode cX5_joined 44 = .ok (.iadd, 1) := by decide +kernel
theorem dX5_joined_45 : decode cX5_joined 45 = .ok (.baload, 1) := by decide +kernel
theorem dX5_joined_46 : decode cX5_joined 46 = .ok (.ifCond .eq 7, 3) := by decide +kernel
theorem dX5_joined_49 : decode cX5_joined 49 = .ok (.iconst 1, 1) := by decide +kernel
theorem dX5_joined_50 : decode cX5_joined 50 = .ok (.goto 4, 3) := by decide +kernel
theorem dX5_joined_53 : decode cX5_joined 53 = .ok (.iconst 0, 1) := by decide +kernel
theorem dX5_joined_54 : decode cX5_joined 54 = .ok (.ireturn, 1) := by decide +kernel
theorem dX5_way_0 : decode cX5_way 0 = .ok (.aload_n 0, 1) := by decide +kernel
theorem dX5_way_1 : decode cX5_way 1 = .ok (.iload_n 1, 1) := by decide +kernel
theorem dX5_way_2 : decode cX5_way 2 = .ok (.invokevirtual 82, 3) := by decide +kernel
theorem dX5_way_5 : decode cX5_way 5 = .ok (.ifCond .ne 6, 3) := by decide +kernel
theorem dX5_way_8 : decode cX5_way 8 = .ok (.bipush (-102), 2) := by decide +kernel
theorem dX5_way_10 : decode cX5_way 10 = .ok (.ireturn, 1) := by decide +kernel
theorem dX5_way_11 : decode cX5_way 11 = .ok (.aload_n 0, 1) := by decide +kernel
theorem dX5_way_12 : decode cX5_way 12 = .ok (.iload_n 2, 1) := by decide +kernel
theorem dX5_way_13 : decode cX5_way 13 = .ok (.invokevirtual 40, 3) := by decide +kernel
theorem dX5_way_16 : decode cX5_way 16 = .ok (.ifCond .eq 11, 3) := by decide +kernel
theorem dX5_way_19 : decode cX5_way 19 = .ok (.aload_n 0, 1) := by decide +kernel
theorem dX5_way_20 : decode cX5_way 20 = .ok (.iload_n 3, 1) := by decide +kernel
theorem dX5_way_21 : decode cX5_way 21 = .ok (.invokevirtual 40, 3) := by decide +kernel
theorem dX5_way_24 : decode cX5_way 24 = .ok (.ifCond .ne 6, 3) := by decide +kernel
theorem dX5_way_27 : decode cX5_way 27 = .ok (.bipush (-101), 2) := by decide +kernel
theorem dX5_way_29 : decode cX5_way 29 = .ok (.ireturn, 1) := by decide +kernel
theorem dX5_way_30 : decode cX5_way 30 = .ok (.aload_n 0, 1) := by decide +kernel
theorem dX5_way_31 : decode cX5_way 31 = .ok (.iload_n 1, 1) := by decide +kernel
theorem dX5_way_32 : decode cX5_way 32 = .ok (.invokevirtual 85, 3) := by decide +kernel
theorem dX5_way_35 : decode cX5_way 35 = .ok (.aload_n 0, 1) := by decide +kernel
theorem dX5_way_36 : decode cX5_way 36 = .ok (.getfield 27, 3) := by decide +kernel
theorem dX5_way_39 : decode cX5_way 39 = .ok (.bipush 6, 2) := by decide +kernel
theorem dX5_way_41 : decode cX5_way 41 = .ok (.iload_n 2, 1) := by decide +kernel
theorem dX5_way_42 : decode cX5_way 42 = .ok (.imul, 1) := by decide +kernel
theorem dX5_way_43 : decode cX5_way 43 = .ok (.iload_n 3, 1) := by decide +kernel
theorem dX5_way_44 : decode cX5_way 44 = .ok (.iadd, 1) := by decide +kernel
theorem dX5_way_45 : decode cX5_way 45 = .ok (.iaload, 1) := by decide +kernel
theorem dX5_way_46 : decode cX5_way 46 = .ok (.ireturn, 1) := by decide +kernel
theorem dX5_stretchNow_0 : decode cX5_stretchNow 0 = .ok (.aload_n 0, 1) := by decide +kernel
theorem dX5_stretchNow_1 : decode cX5_stretchNow 1 = .ok (.lconst 0, 1) := by decide +kernel
theorem dX5_stretchNow_2 : decode cX5_stretchNow 2 = .ok (.putfield 88, 3) := by decide +kernel
theorem dX5_stretchNow_5 : decode cX5_stretchNow 5 = .ok (.aload_n 0, 1) := by decide +kernel
theorem dX5_stretchNow_6 : decode cX5_stretchNow 6 = .ok (.lconst 1, 1) := by decide +kernel
theorem dX5_stretchNow_7 : decode cX5_stretchNow 7 = .ok (.putfield 92, 3) := by decide +kernel
theorem dX5_stretchNow_10 : decode cX5_stretchNow 10 = .ok (.iconst 0, 1) := by decide +kernel
theorem dX5_stretchNow_11 : decode cX5_stretchNow 11 = .ok (.istore_n 1, 1) := by decide +kernel
theorem dX5_stretchNow_12 : decode cX5_stretchNow 12 = .ok (.iload_n 1, 1) := by decide +kernel
theorem dX5_stretchNow_13 : decode cX5_stretchNow 13 = .ok (.aload_n 0, 1) := by decide +kernel
theorem dX5_stretchNow_14 : decode cX5_stretchNow 14 = .ok (.getfield 7, 3) := by decide +kernel
theorem dX5_stretchNow_17 : decode cX5_stretchNow 17 = .ok (.if_icmp .ge 87, 3) := by decide +kernel
theorem dX5_stretchNow_20 : decode cX5_stretchNow 20 = .ok (.iload_n 1, 1) := by decide +kernel
theorem dX5_stretchNow_21 : decode cX5_stretchNow 21 = .ok (.iconst 1, 1) := by decide +kernel
theorem dX5_stretchNow_22 : decode cX5_stretchNow 22 = .ok (.iadd, 1) := by decide +kernel
theorem dX5_stretchNow_23 : decode cX5_stretchNow 23 = .ok (.istore_n 2, 1) := by decide +kernel
theorem dX5_stretchNow_24 : decode cX5_stretchNow 24 = .ok (.iload_n 2, 1) := by decide +kernel
theorem dX5_stretchNow_25 : decode cX5_stretchNow 25 = .ok (.aload_n 0, 1) := by decide +kernel
theorem dX5_stretchNow_26 : decode cX5_stretchNow 26 = .ok (.getfield 7, 3) := by decide +kernel
theorem dX5_stretchNow_29 : decode cX5_stretchNow 29 = .ok (.if_icmp .ge 69, 3) := by decide +kernel
theorem dX5_stretchNow_32 : decode cX5_stretchNow 32 = .ok (.aload_n 0, 1) := by decide +kernel
theorem dX5_stretchNow_33 : decode cX5_stretchNow 33 = .ok (.getfield 27, 3) := by decide +kernel
theorem dX5_stretchNow_36 : decode cX5_stretchNow 36 = .ok (.bipush 6, 2) := by decide +kernel
theorem dX5_stretchNow_38 : decode cX5_stretchNow 38 = .ok (.iload_n 1, 1) := by decide +kernel
theorem dX5_stretchNow_39 : decode cX5_stretchNow 39 = .ok (.imul, 1) := by decide +kernel
theorem dX5_stretchNow_40 : decode cX5_stretchNow 40 = .ok (.iload_n 2, 1) := by decide +kernel
theorem dX5_stretchNow_41 : decode cX5_stretchNow 41 = .ok (.iadd, 1) := by decide +kernel
theorem dX5_stretchNow_42 : decode cX5_stretchNow 42 = .ok (.iaload, 1) := by decide +kernel
theorem dX5_stretchNow_43 : decode cX5_stretchNow 43 = .ok (.i2l, 1) := by decide +kernel
theorem dX5_stretchNow_44 : decode cX5_stretchNow 44 = .ok (.aload_n 0, 1) := by decide +kernel
theorem dX5_stretchNow_45 : decode cX5_stretchNow 45 = .ok (.getfield 92, 3) := by decide +kernel
theorem dX5_stretchNow_48 : decode cX5_stretchNow 48 = .ok (.lmul, 1) := by decide +kernel
theorem dX5_stretchNow_49 : decode cX5_stretchNow 49 = .ok (.aload_n 0, 1) := by decide +kernel
theorem dX5_stretchNow_50 : decode cX5_stretchNow 50 = .ok (.getfield 88, 3) := by decide +kernel
theorem dX5_stretchNow_53 : decode cX5_stretchNow 53 = .ok (.aload_n 0, 1) := by decide +kernel
theorem dX5_stretchNow_54 : decode cX5_stretchNow 54 = .ok (.iload_n 1, 1) := by decide +kernel
theorem dX5_stretchNow_55 : decode cX5_stretchNow 55 = .ok (.iload_n 2, 1) := by decide +kernel
theorem dX5_stretchNow_56 : decode cX5_stretchNow 56 = .ok (.invokevirtual 44, 3) := by decide +kernel
theorem dX5_stretchNow_59 : decode cX5_stretchNow 59 = .ok (.i2l, 1) := by decide +kernel
theorem dX5_stretchNow_60 : decode cX5_stretchNow 60 = .ok (.lmul, 1) := by decide +kernel
theorem dX5_stretchNow_61 : decode cX5_stretchNow 61 = .ok (.lcmp, 1) := by decide +kernel
theorem dX5_stretchNow_62 : decode cX5_stretchNow 62 = .ok (.ifCond .le 30, 3) := by decide +kernel
theorem dX5_stretchNow_65 : decode cX5_stretchNow 65 = .ok (.aload_n 0, 1) := by decide +kernel
theorem dX5_stretchNow_66 : decode cX5_stretchNow 66 = .ok (.aload_n 0, 1) := by decide +kernel
theorem dX5_stretchNow_67 : decode cX5_stretchNow 67 = .ok (.getfield 27, 3) := by decide +kernel
theorem dX5_stretchNow_70 : decode cX5_stretchNow 70 = .ok (.bipush 6, 2) := by decide +kernel
theorem dX5_stretchNow_72 : decode cX5_stretchNow 72 = .ok (.iload_n 1, 1) := by decide +kernel
theorem dX5_stretchNow_73 : decode cX5_stretchNow 73 = .ok (.imul, 1) := by decide +kernel
theorem dX5_stretchNow_74 : decode cX5_stretchNow 74 = .ok (.iload_n 2, 1) := by decide +kernel
theorem dX5_stretchNow_75 : decode cX5_stretchNow 75 = .ok (.iadd, 1) := by decide +kernel
theorem dX5_stretchNow_76 : decode cX5_stretchNow 76 = .ok (.iaload, 1) := by decide +kernel
theorem dX5_stretchNow_77 : decode cX5_stretchNow 77 = .ok (.i2l, 1) := by decide +kernel
theorem dX5_stretchNow_78 : decode cX5_stretchNow 78 = .ok (.putfield 88, 3) := by decide +kernel
theorem dX5_stretchNow_81 : decode cX5_stretchNow 81 = .ok (.aload_n 0, 1) := by decide +kernel
theorem dX5_stretchNow_82 : decode cX5_stretchNow 82 = .ok (.aload_n 0, 1) := by decide +kernel
theorem dX5_stretchNow_83 : decode cX5_stretchNow 83 = .ok (.iload_n 1, 1) := by decide +kernel
theorem dX5_stretchNow_84 : decode cX5_stretchNow 84 = .ok (.iload_n 2, 1) := by decide +kernel
theorem dX5_stretchNow_85 : decode cX5_stretchNow 85 = .ok (.invokevirtual 44, 3) := by decide +kernel
theorem dX5_stretchNow_88 : decode cX5_stretchNow 88 = .ok (.i2l, 1) := by decide +kernel
theorem dX5_stretchNow_89 : decode cX5_stretchNow 89 = .ok (.putfield 92, 3) := by decide +kernel
theorem dX5_stretchNow_92 : decode cX5_stretchNow 92 = .ok (.iinc 2 1, 3) := by decide +kernel
theorem dX5_stretchNow_95 : decode cX5_stretchNow 95 = .ok (.goto (-71), 3) := by decide +kernel
theorem dX5_stretchNow_98 : decode cX5_stretchNow 98 = .ok (.iinc 1 1, 3) := by decide +kernel
theorem dX5_stretchNow_101 : decode cX5_stretchNow 101 = .ok (.goto (-89), 3) := by decide +kernel
theorem dX5_stretchNow_104 : decode cX5_stretchNow 104 = .ok (.return_, 1) := by decide +kernel
theorem dX5_spreadNow_0 : decode cX5_spreadNow 0 = .ok (.iconst 0, 1) := by decide +kernel
theorem dX5_spreadNow_1 : decode cX5_spreadNow 1 = .ok (.istore_n 1, 1) := by decide +kernel
theorem dX5_spreadNow_2 : decode cX5_spreadNow 2 = .ok (.iconst 0, 1) := by decide +kernel
theorem dX5_spreadNow_3 : decode cX5_spreadNow 3 = .ok (.istore_n 2, 1) := by decide +kernel
theorem dX5_spreadNow_4 : decode cX5_spreadNow 4 = .ok (.iload_n 2, 1) := by decide +kernel
theorem dX5_spreadNow_5 : decode cX5_spreadNow 5 = .ok (.aload_n 0, 1) := by decide +kernel
theorem dX5_spreadNow_6 : decode cX5_spreadNow 6 = .ok (.getfield 7, 3) := by decide +kernel
theorem dX5_spreadNow_9 : decode cX5_spreadNow 9 = .ok (.if_icmp .ge 41, 3) := by decide +kernel
theorem dX5_spreadNow_12 : decode cX5_spreadNow 12 = .ok (.iload_n 2, 1) := by decide +kernel
theorem dX5_spreadNow_13 : decode cX5_spreadNow 13 = .ok (.iconst 1, 1) := by decide +kernel
theorem dX5_spreadNow_14 : decode cX5_spreadNow 14 = .ok (.iadd, 1) := by decide +kernel
theorem dX5_spreadNow_15 : decode cX5_spreadNow 15 = .ok (.istore_n 3, 1) := by decide +kernel
theorem dX5_spreadNow_16 : decode cX5_spreadNow 16 = .ok (.iload_n 3, 1) := by decide +kernel
theorem dX5_spreadNow_17 : decode cX5_spreadNow 17 = .ok (.aload_n 0, 1) := by decide +kernel
theorem dX5_spreadNow_18 : decode cX5_spreadNow 18 = .ok (.getfield 7, 3) := by decide +kernel
theorem dX5_spreadNow_21 : decode cX5_spreadNow 21 = .ok (.if_icmp .ge 23, 3) := by decide +kernel
theorem dX5_spreadNow_24 : decode cX5_spreadNow 24 = .ok (.iload_n 1, 1) := by decide +kernel
theorem dX5_spreadNow_25 : decode cX5_spreadNow 25 = .ok (.aload_n 0, 1) := by decide +kernel
theorem dX5_spreadNow_26 : decode cX5_spreadNow 26 = .ok (.getfield 27, 3) := by decide +kernel
theorem dX5_spreadNow_29 : decode cX5_spreadNow 29 = .ok (.bipush 6, 2) := by decide +kernel
theorem dX5_spreadNow_31 : decode cX5_spreadNow 31 = .ok (.iload_n 2, 1) := by decide +kernel
theorem dX5_spreadNow_32 : decode cX5_spreadNow 32 = .ok (.imul, 1) := by decide +kernel
theorem dX5_spreadNow_33 : decode cX5_spreadNow 33 = .ok (.iload_n 3, 1) := by decide +kernel
theorem dX5_spreadNow_34 : decode cX5_spreadNow 34 = .ok (.iadd, 1) := by decide +kernel
theorem dX5_spreadNow_35 : decode cX5_spreadNow 35 = .ok (.iaload, 1) := by decide +kernel
theorem dX5_spreadNow_36 : decode cX5_spreadNow 36 = .ok (.iadd, 1) := by decide +kernel
theorem dX5_spreadNow_37 : decode cX5_spreadNow 37 = .ok (.istore_n 1, 1) := by decide +kernel
theorem dX5_spreadNow_38 : decode cX5_spreadNow 38 = .ok (.iinc 3 1, 3) := by decide +kernel
theorem dX5_spreadNow_41 : decode cX5_spreadNow 41 = .ok (.goto (-25), 3) := by decide +kernel
theorem dX5_spreadNow_44 : decode cX5_spreadNow 44 = .ok (.iinc 2 1, 3) := by decide +kernel
theorem dX5_spreadNow_47 : decode cX5_spreadNow 47 = .ok (.goto (-43), 3) := by decide +kernel
theorem dX5_spreadNow_50 : decode cX5_spreadNow 50 = .ok (.iload_n 1, 1) := by decide +kernel
theorem dX5_spreadNow_51 : decode cX5_spreadNow 51 = .ok (.ireturn, 1) := by decide +kernel
theorem dX5_stretch_0 : decode cX5_stretch 0 = .ok (.aload_n 0, 1) := by decide +kernel
theorem dX5_stretch_1 : decode cX5_stretch 1 = .ok (.iload_n 1, 1) := by decide +kernel
theorem dX5_stretch_2 : decode cX5_stretch 2 = .ok (.invokevirtual 82, 3) := by decide +kernel
theorem dX5_stretch_5 : decode cX5_stretch 5 = .ok (.ifCond .eq 12, 3) := by decide +kernel
theorem dX5_stretch_8 : decode cX5_stretch 8 = .ok (.iload_n 2, 1) := by decide +kernel
theorem dX5_stretch_9 : decode cX5_stretch 9 = .ok (.iconst 0, 1) := by decide +kernel
theorem dX5_stretch_10 : decode cX5_stretch 10 = .ok (.iconst 1, 1) := by decide +kernel
theorem dX5_stretch_11 : decode cX5_stretch 11 = .ok (.invokestatic 36, 3) := by decide +kernel
theorem dX5_stretch_14 : decode cX5_stretch 14 = .ok (.ifCond .ne 7, 3) := by decide +kernel
theorem dX5_stretch_17 : decode cX5_stretch 17 = .ok (.ldc2_w 95, 3) := by decide +kernel
theorem dX5_stretch_20 : decode cX5_stretch 20 = .ok (.lreturn, 1) := by decide +kernel
theorem dX5_stretch_21 : decode cX5_stretch 21 = .ok (.aload_n 0, 1) := by decide +kernel
theorem dX5_stretch_22 : decode cX5_stretch 22 = .ok (.iload_n 1, 1) := by decide +kernel
theorem dX5_stretch_23 : decode cX5_stretch 23 = .ok (.invokevirtual 85, 3) := by decide +kernel
theorem dX5_stretch_26 : decode cX5_stretch 26 = .ok (.aload_n 0, 1) := by decide +kernel
theorem dX5_stretch_27 : decode cX5_stretch 27 = .ok (.invokevirtual 97, 3) := by decide +kernel
theorem dX5_stretch_30 : decode cX5_stretch 30 = .ok (.aload_n 0, 1) := by decide +kernel
theorem dX5_stretch_31 : decode cX5_stretch 31 = .ok (.getfield 88, 3) := by decide +kernel
theorem dX5_stretch_34 : decode cX5_stretch 34 = .ok (.lstore_n 3, 1) := by decide +kernel
theorem dX5_stretch_35 : decode cX5_stretch 35 = .ok (.aload_n 0, 1) := by decide +kernel
theorem dX5_stretch_36 : decode cX5_stretch 36 = .ok (.getfield 92, 3) := by decide +kernel
theorem dX5_stretch_39 : decode cX5_stretch 39 = .ok (.lstore 5, 2) := by decide +kernel
theorem dX5_stretch_41 : decode cX5_stretch 41 = .ok (.lload 5, 2) := by decide +kernel
theorem dX5_stretch_43 : decode cX5_stretch 43 = .ok (.lconst 0, 1) := by decide +kernel
theorem dX5_stretch_44 : decode cX5_stretch 44 = .ok (.lcmp, 1) := by decide +kernel
theorem dX5_stretch_45 : decode cX5_stretch 45 = .ok (.ifCond .eq 19, 3) := by decide +kernel
theorem dX5_stretch_48 : decode cX5_stretch 48 = .ok (.lload_n 3, 1) := by decide +kernel
theorem dX5_stretch_49 : decode cX5_stretch 49 = .ok (.lload 5, 2) := by decide +kernel
theorem dX5_stretch_51 : decode cX5_stretch 51 = .ok (.lrem, 1) := by decide +kernel
theorem dX5_stretch_52 : decode cX5_stretch 52 = .ok (.lstore 7, 2) := by decide +kernel
theorem dX5_stretch_54 : decode cX5_stretch 54 = .ok (.lload 5, 2) := by decide +kernel
theorem dX5_stretch_56 : decode cX5_stretch 56 = .ok (.lstore_n 3, 1) := by decide +kernel
theorem dX5_stretch_57 : decode cX5_stretch 57 = .ok (.lload 7, 2) := by decide +kernel
theorem dX5_stretch_59 : decode cX5_stretch 59 = .ok (.lstore 5, 2) := by decide +kernel
theorem dX5_stretch_61 : decode cX5_stretch 61 = .ok (.goto (-20), 3) := by decide +kernel
theorem dX5_stretch_64 : decode cX5_stretch 64 = .ok (.iload_n 2, 1) := by decide +kernel
theorem dX5_stretch_65 : decode cX5_stretch 65 = .ok (.ifCond .ne 12, 3) := by decide +kernel
theorem dX5_stretch_68 : decode cX5_stretch 68 = .ok (.aload_n 0, 1) := by decide +kernel
theorem dX5_stretch_69 : decode cX5_stretch 69 = .ok (.getfield 88, 3) := by decide +kernel
theorem dX5_stretch_72 : decode cX5_stretch 72 = .ok (.lload_n 3, 1) := by decide +kernel
theorem dX5_stretch_73 : decode cX5_stretch 73 = .ok (.ldiv, 1) := by decide +kernel
theorem dX5_stretch_74 : decode cX5_stretch 74 = .ok (.goto 9, 3) := by decide +kernel
theorem dX5_stretch_77 : decode cX5_stretch 77 = .ok (.aload_n 0, 1) := by decide +kernel
theorem dX5_stretch_78 : decode cX5_stretch 78 = .ok (.getfield 92, 3) := by decide +kernel
theorem dX5_stretch_81 : decode cX5_stretch 81 = .ok (.lload_n 3, 1) := by decide +kernel
theorem dX5_stretch_82 : decode cX5_stretch 82 = .ok (.ldiv, 1) := by decide +kernel
theorem dX5_stretch_83 : decode cX5_stretch 83 = .ok (.lreturn, 1) := by decide +kernel
theorem dX5_spread_0 : decode cX5_spread 0 = .ok (.aload_n 0, 1) := by decide +kernel
theorem dX5_spread_1 : decode cX5_spread 1 = .ok (.iload_n 1, 1) := by decide +kernel
theorem dX5_spread_2 : decode cX5_spread 2 = .ok (.invokevirtual 82, 3) := by decide +kernel
theorem dX5_spread_5 : decode cX5_spread 5 = .ok (.ifCond .ne 6, 3) := by decide +kernel
theorem dX5_spread_8 : decode cX5_spread 8 = .ok (.bipush (-102), 2) := by decide +kernel
theorem dX5_spread_10 : decode cX5_spread 10 = .ok (.ireturn, 1) := by decide +kernel
theorem dX5_spread_11 : decode cX5_spread 11 = .ok (.aload_n 0, 1) := by decide +kernel
theorem dX5_spread_12 : decode cX5_spread 12 = .ok (.iload_n 1, 1) := by decide +kernel
theorem dX5_spread_13 : decode cX5_spread 13 = .ok (.invokevirtual 85, 3) := by decide +kernel
theorem dX5_spread_16 : decode cX5_spread 16 = .ok (.aload_n 0, 1) := by decide +kernel
theorem dX5_spread_17 : decode cX5_spread 17 = .ok (.invokevirtual 100, 3) := by decide +kernel
theorem dX5_spread_20 : decode cX5_spread 20 = .ok (.ireturn, 1) := by decide +kernel
theorem dX5_best_0 : decode cX5_best 0 = .ok (.iload_n 1, 1) := by decide +kernel
theorem dX5_best_1 : decode cX5_best 1 = .ok (.iconst 0, 1) := by decide +kernel
theorem dX5_best_2 : decode cX5_best 2 = .ok (.iconst 1, 1) := by decide +kernel
theorem dX5_best_3 : decode cX5_best 3 = .ok (.invokestatic 36, 3) := by decide +kernel
theorem dX5_best_6 : decode cX5_best 6 = .ok (.ifCond .ne 6, 3) := by decide +kernel
theorem dX5_best_9 : decode cX5_best 9 = .ok (.bipush (-102), 2) := by decide +kernel
theorem dX5_best_11 : decode cX5_best 11 = .ok (.ireturn, 1) := by decide +kernel
theorem dX5_best_12 : decode cX5_best 12 = .ok (.aload_n 0, 1) := by decide +kernel
theorem dX5_best_13 : decode cX5_best 13 = .ok (.getfield 103, 3) := by decide +kernel
theorem dX5_best_16 : decode cX5_best 16 = .ok (.bipush 60, 2) := by decide +kernel
theorem dX5_best_18 : decode cX5_best 18 = .ok (.if_icmp .ne 6, 3) := by decide +kernel
theorem dX5_best_21 : decode cX5_best 21 = .ok (.bipush (-104), 2) := by decide +kernel
theorem dX5_best_23 : decode cX5_best 23 = .ok (.ireturn, 1) := by decide +kernel
theorem dX5_best_24 : decode cX5_best 24 = .ok (.aload_n 0, 1) := by decide +kernel
theorem dX5_best_25 : decode cX5_best 25 = .ok (.dup, 1) := by decide +kernel
theorem dX5_best_26 : decode cX5_best 26 = .ok (.getfield 103, 3) := by decide +kernel
theorem dX5_best_29 : decode cX5_best 29 = .ok (.iconst 1, 1) := by decide +kernel
theorem dX5_best_30 : decode cX5_best 30 = .ok (.iadd, 1) := by decide +kernel
theorem dX5_best_31 : decode cX5_best 31 = .ok (.putfield 103, 3) := by decide +kernel
theorem dX5_best_34 : decode cX5_best 34 = .ok (.iconst (-1), 1) := by decide +kernel
theorem dX5_best_35 : decode cX5_best 35 = .ok (.istore_n 2, 1) := by decide +kernel
theorem dX5_best_36 : decode cX5_best 36 = .ok (.lconst 0, 1) := by decide +kernel
theorem dX5_best_37 : decode cX5_best 37 = .ok (.lstore_n 3, 1) := by decide +kernel
theorem dX5_best_38 : decode cX5_best 38 = .ok (.lconst 1, 1) := by decide +kernel
theorem dX5_best_39 : decode cX5_best 39 = .ok (.lstore 5, 2) := by decide +kernel
theorem dX5_best_41 : decode cX5_best 41 = .ok (.iconst 0, 1) := by decide +kernel
theorem dX5_best_42 : decode cX5_best 42 = .ok (.istore 7, 2) := by decide +kernel
theorem dX5_best_44 : decode cX5_best 44 = .ok (.iload 7, 2) := by decide +kernel
theorem dX5_best_46 : decode cX5_best 46 = .ok (.aload_n 0, 1) := by decide +kernel
theorem dX5_best_47 : decode cX5_best 47 = .ok (.invokevirtual 67, 3) := by decide +kernel
theorem dX5_best_50 : decode cX5_best 50 = .ok (.if_icmp .ge 79, 3) := by decide +kernel
theorem dX5_best_53 : decode cX5_best 53 = .ok (.aload_n 0, 1) := by decide +kernel
theorem dX5_best_54 : decode cX5_best 54 = .ok (.iload 7, 2) := by decide +kernel
theorem dX5_best_56 : decode cX5_best 56 = .ok (.invokevirtual 85, 3) := by decide +kernel
theorem dX5_best_59 : decode cX5_best 59 = .ok (.aload_n 0, 1) := by decide +kernel
theorem dX5_best_60 : decode cX5_best 60 = .ok (.invokevirtual 97, 3) := by decide +kernel
theorem dX5_best_63 : decode cX5_best 63 = .ok (.iload_n 1, 1) := by decide +kernel
theorem dX5_best_64 : decode cX5_best 64 = .ok (.ifCond .ne 10, 3) := by decide +kernel
theorem dX5_best_67 : decode cX5_best 67 = .ok (.aload_n 0, 1) := by decide +kernel
theorem dX5_best_68 : decode cX5_best 68 = .ok (.getfield 88, 3) := by decide +kernel
theorem dX5_best_71 : decode cX5_best 71 = .ok (.goto 8, 3) := by decide +kernel
theorem dX5_best_74 : decode cX5_best 74 = .ok (.aload_n 0, 1) := by decide +kernel
theorem dX5_best_75 : decode cX5_best 75 = .ok (.invokevirtual 100, 3) := by decide +kernel
theorem dX5_best_78 : decode cX5_best 78 = .ok (.i2l, 1) := by decide +kernel
theorem dX5_best_79 : decode cX5_best 79 = .ok (.lstore 8, 2) := by decide +kernel
theorem dX5_best_81 : decode cX5_best 81 = .ok (.iload_n 1, 1) := by decide +kernel
theorem dX5_best_82 : decode cX5_best 82 = .ok (.ifCond .ne 10, 3) := by decide +kernel
theorem dX5_best_85 : decode cX5_best 85 = .ok (.aload_n 0, 1) := by decide +kernel
theorem dX5_best_86 : decode cX5_best 86 = .ok (.getfield 92, 3) := by decide +kernel
theorem dX5_best_89 : decode cX5_best 89 = .ok (.goto 4, 3) := by decide +kernel
theorem dX5_best_92 : decode cX5_best 92 = .ok (.lconst 1, 1) := by decide +kernel
theorem dX5_best_93 : decode cX5_best 93 = .ok (.lstore 10, 2) := by decide +kernel
theorem dX5_best_95 : decode cX5_best 95 = .ok (.iload_n 2, 1) := by decide +kernel
theorem dX5_best_96 : decode cX5_best 96 = .ok (.iconst (-1), 1) := by decide +kernel
theorem dX5_best_97 : decode cX5_best 97 = .ok (.if_icmp .eq 16, 3) := by decide +kernel
theorem dX5_best_100 : decode cX5_best 100 = .ok (.lload 8, 2) := by decide +kernel
theorem dX5_best_102 : decode cX5_best 102 = .ok (.lload 5, 2) := by decide +kernel
theorem dX5_best_104 : decode cX5_best 104 = .ok (.lmul, 1) := by decide +kernel
theorem dX5_best_105 : decode cX5_best 105 = .ok (.lload_n 3, 1) := by decide +kernel
theorem dX5_best_106 : decode cX5_best 106 = .ok (.lload 10, 2) := by decide +kernel
theorem dX5_best_108 : decode cX5_best 108 = .ok (.lmul, 1) := by decide +kernel
theorem dX5_best_109 : decode cX5_best 109 = .ok (.lcmp, 1) := by decide +kernel
theorem dX5_best_110 : decode cX5_best 110 = .ok (.ifCond .ge 13, 3) := by decide +kernel
theorem dX5_best_113 : decode cX5_best 113 = .ok (.iload 7, 2) := by decide +kernel
theorem dX5_best_115 : decode cX5_best 115 = .ok (.istore_n 2, 1) := by decide +kernel
theorem dX5_best_116 : decode cX5_best 116 = .ok (.lload 8, 2) := by decide +kernel
theorem dX5_best_118 : decode cX5_best 118 = .ok (.lstore_n 3, 1) := by decide +kernel
theorem dX5_best_119 : decode cX5_best 119 = .ok (.lload 10, 2) := by decide +kernel
theorem dX5_best_121 : decode cX5_best 121 = .ok (.lstore 5, 2) := by decide +kernel
theorem dX5_best_123 : decode cX5_best 123 = .ok (.iinc 7 1, 3) := by decide +kernel
theorem dX5_best_126 : decode cX5_best 126 = .ok (.goto (-82), 3) := by decide +kernel
theorem dX5_best_129 : decode cX5_best 129 = .ok (.iload_n 2, 1) := by decide +kernel
theorem dX5_best_130 : decode cX5_best 130 = .ok (.ireturn, 1) := by decide +kernel
theorem dX5_grow_0 : decode cX5_grow 0 = .ok (.aload_n 0, 1) := by decide +kernel
theorem dX5_grow_1 : decode cX5_grow 1 = .ok (.iload_n 1, 1) := by decide +kernel
theorem dX5_grow_2 : decode cX5_grow 2 = .ok (.invokevirtual 82, 3) := by decide +kernel
theorem dX5_grow_5 : decode cX5_grow 5 = .ok (.ifCond .ne 6, 3) := by decide +kernel
theorem dX5_grow_8 : decode cX5_grow 8 = .ok (.bipush (-102), 2) := by decide +kernel
theorem dX5_grow_10 : decode cX5_grow 10 = .ok (.ireturn, 1) := by decide +kernel
theorem dX5_grow_11 : decode cX5_grow 11 = .ok (.aload_n 0, 1) := by decide +kernel
theorem dX5_grow_12 : decode cX5_grow 12 = .ok (.iload_n 1, 1) := by decide +kernel
theorem dX5_grow_13 : decode cX5_grow 13 = .ok (.invokevirtual 85, 3) := by decide +kernel
theorem dX5_grow_16 : decode cX5_grow 16 = .ok (.iconst 1, 1) := by decide +kernel
theorem dX5_grow_17 : decode cX5_grow 17 = .ok (.istore_n 2, 1) := by decide +kernel
theorem dX5_grow_18 : decode cX5_grow 18 = .ok (.iconst 0, 1) := by decide +kernel
theorem dX5_grow_19 : decode cX5_grow 19 = .ok (.istore_n 3, 1) := by decide +kernel
theorem dX5_grow_20 : decode cX5_grow 20 = .ok (.iload_n 3, 1) := by decide +kernel
theorem dX5_grow_21 : decode cX5_grow 21 = .ok (.aload_n 0, 1) := by decide +kernel
theorem dX5_grow_22 : decode cX5_grow 22 = .ok (.getfield 7, 3) := by decide +kernel
theorem dX5_grow_25 : decode cX5_grow 25 = .ok (.if_icmp .ge 79, 3) := by decide +kernel
theorem dX5_grow_28 : decode cX5_grow 28 = .ok (.iconst 0, 1) := by decide +kernel
theorem dX5_grow_29 : decode cX5_grow 29 = .ok (.istore 4, 2) := by decide +kernel
theorem dX5_grow_31 : decode cX5_grow 31 = .ok (.iload 4, 2) := by decide +kernel
theorem dX5_grow_33 : decode cX5_grow 33 = .ok (.aload_n 0, 1) := by decide +kernel
theorem dX5_grow_34 : decode cX5_grow 34 = .ok (.getfield 7, 3) := by decide +kernel
theorem dX5_grow_37 : decode cX5_grow 37 = .ok (.if_icmp .ge 61, 3) := by decide +kernel
theorem dX5_grow_40 : decode cX5_grow 40 = .ok (.iload_n 2, 1) := by decide +kernel
theorem dX5_grow_41 : decode cX5_grow 41 = .ok (.ifCond .eq 25, 3) := by decide +kernel
theorem dX5_grow_44 : decode cX5_grow 44 = .ok (.aload_n 0, 1) := by decide +kernel
theorem dX5_grow_45 : decode cX5_grow 45 = .ok (.getfield 27, 3) := by decide +kernel
theorem dX5_grow_48 : decode cX5_grow 48 = .ok (.bipush 6, 2) := by decide +kernel
theorem dX5_grow_50 : decode cX5_grow 50 = .ok (.iload_n 3, 1) := by decide +kernel
theorem dX5_grow_51 : decode cX5_grow 51 = .ok (.imul, 1) := by decide +kernel
theorem dX5_grow_52 : decode cX5_grow 52 = .ok (.iload 4, 2) := by decide +kernel
theorem dX5_grow_54 : decode cX5_grow 54 = .ok (.iadd, 1) := by decide +kernel
theorem dX5_grow_55 : decode cX5_grow 55 = .ok (.iaload, 1) := by decide +kernel
theorem dX5_grow_56 : decode cX5_grow 56 = .ok (.sipush 1000, 3) := by decide +kernel
theorem dX5_grow_59 : decode cX5_grow 59 = .ok (.if_icmp .gt 7, 3) := by decide +kernel
theorem dX5_grow_62 : decode cX5_grow 62 = .ok (.iconst 1, 1) := by decide +kernel
theorem dX5_grow_63 : decode cX5_grow 63 = .ok (.goto 4, 3) := by decide +kernel
theorem dX5_grow_66 : decode cX5_grow 66 = .ok (.iconst 0, 1) := by decide +kernel
theorem dX5_grow_67 : decode cX5_grow 67 = .ok (.istore_n 2, 1) := by decide +kernel
theorem dX5_grow_68 : decode cX5_grow 68 = .ok (.aload_n 0, 1) := by decide +kernel
theorem dX5_grow_69 : decode cX5_grow 69 = .ok (.getfield 17, 3) := by decide +kernel
theorem dX5_grow_72 : decode cX5_grow 72 = .ok (.bipush 6, 2) := by decide +kernel
theorem dX5_grow_74 : decode cX5_grow 74 = .ok (.iload_n 3, 1) := by decide +kernel
theorem dX5_grow_75 : decode cX5_grow 75 = .ok (.imul, 1) := by decide +kernel
theorem dX5_grow_76 : decode cX5_grow 76 = .ok (.iload 4, 2) := by decide +kernel
theorem dX5_grow_78 : decode cX5_grow 78 = .ok (.iadd, 1) := by decide +kernel
theorem dX5_grow_79 : decode cX5_grow 79 = .ok (.aload_n 0, 1) := by decide +kernel
theorem dX5_grow_80 : decode cX5_grow 80 = .ok (.getfield 27, 3) := by decide +kernel
theorem dX5_grow_83 : decode cX5_grow 83 = .ok (.bipush 6, 2) := by decide +kernel
theorem dX5_grow_85 : decode cX5_grow 85 = .ok (.iload_n 3, 1) := by decide +kernel
theorem dX5_grow_86 : decode cX5_grow 86 = .ok (.imul, 1) := by decide +kernel
theorem dX5_grow_87 : decode cX5_grow 87 = .ok (.iload 4, 2) := by decide +kernel
theorem dX5_grow_89 : decode cX5_grow 89 = .ok (.iadd, 1) := by decide +kernel
theorem dX5_grow_90 : decode cX5_grow 90 = .ok (.iaload, 1) := by decide +kernel
theorem dX5_grow_91 : decode cX5_grow 91 = .ok (.iastore, 1) := by decide +kernel
theorem dX5_grow_92 : decode cX5_grow 92 = .ok (.iinc 4 1, 3) := by decide +kernel
theorem dX5_grow_95 : decode cX5_grow 95 = .ok (.goto (-64), 3) := by decide +kernel
theorem dX5_grow_98 : decode cX5_grow 98 = .ok (.iinc 3 1, 3) := by decide +kernel
theorem dX5_grow_101 : decode cX5_grow 101 = .ok (.goto (-81), 3) := by decide +kernel
theorem dX5_grow_104 : decode cX5_grow 104 = .ok (.iload_n 2, 1) := by decide +kernel
theorem dX5_grow_105 : decode cX5_grow 105 = .ok (.ifCond .eq 10, 3) := by decide +kernel
theorem dX5_grow_108 : decode cX5_grow 108 = .ok (.aload_n 0, 1) := by decide +kernel
theorem dX5_grow_109 : decode cX5_grow 109 = .ok (.invokevirtual 63, 3) := by decide +kernel
theorem dX5_grow_112 : decode cX5_grow 112 = .ok (.goto 5, 3) := by decide +kernel
theorem dX5_grow_115 : decode cX5_grow 115 = .ok (.bipush (-103), 2) := by decide +kernel
theorem dX5_grow_117 : decode cX5_grow 117 = .ok (.ireturn, 1) := by decide +kernel
theorem dX5_isPart_0 : decode cX5_isPart 0 = .ok (.iload_n 1, 1) := by decide +kernel
theorem dX5_isPart_1 : decode cX5_isPart 1 = .ok (.iconst 1, 1) := by decide +kernel
theorem dX5_isPart_2 : decode cX5_isPart 2 = .ok (.iconst 1, 1) := by decide +kernel
theorem dX5_isPart_3 : decode cX5_isPart 3 = .ok (.aload_n 0, 1) := by decide +kernel
theorem dX5_isPart_4 : decode cX5_isPart 4 = .ok (.getfield 7, 3) := by decide +kernel
theorem dX5_isPart_7 : decode cX5_isPart 7 = .ok (.ishl, 1) := by decide +kernel
theorem dX5_isPart_8 : decode cX5_isPart 8 = .ok (.iconst 2, 1) := by decide +kernel
theorem dX5_isPart_9 : decode cX5_isPart 9 = .ok (.isub, 1) := by decide +kernel
theorem dX5_isPart_10 : decode cX5_isPart 10 = .ok (.invokestatic 36, 3) := by decide +kernel
theorem dX5_isPart_13 : decode cX5_isPart 13 = .ok (.ifCond .eq 14, 3) := by decide +kernel
theorem dX5_isPart_16 : decode cX5_isPart 16 = .ok (.iload_n 1, 1) := by decide +kernel
theorem dX5_isPart_17 : decode cX5_isPart 17 = .ok (.iconst 1, 1) := by decide +kernel
theorem dX5_isPart_18 : decode cX5_isPart 18 = .ok (.iand, 1) := by decide +kernel
theorem dX5_isPart_19 : decode cX5_isPart 19 = .ok (.iconst 1, 1) := by decide +kernel
theorem dX5_isPart_20 : decode cX5_isPart 20 = .ok (.if_icmp .ne 7, 3) := by decide +kernel
theorem dX5_isPart_23 : decode cX5_isPart 23 = .ok (.iconst 1, 1) := by decide +kernel
theorem dX5_isPart_24 : decode cX5_isPart 24 = .ok (.goto 4, 3) := by decide +kernel
theorem dX5_isPart_27 : decode cX5_isPart 27 = .ok (.iconst 0, 1) := by decide +kernel
theorem dX5_isPart_28 : decode cX5_isPart 28 = .ok (.ireturn, 1) := by decide +kernel
theorem dX5_weightOf_0 : decode cX5_weightOf 0 = .ok (.ldc 81, 2) := by decide +kernel
theorem dX5_weightOf_2 : decode cX5_weightOf 2 = .ok (.istore_n 2, 1) := by decide +kernel
theorem dX5_weightOf_3 : decode cX5_weightOf 3 = .ok (.iconst 0, 1) := by decide +kernel
theorem dX5_weightOf_4 : decode cX5_weightOf 4 = .ok (.istore_n 3, 1) := by decide +kernel
theorem dX5_weightOf_5 : decode cX5_weightOf 5 = .ok (.iload_n 3, 1) := by decide +kernel
theorem dX5_weightOf_6 : decode cX5_weightOf 6 = .ok (.aload_n 0, 1) := by decide +kernel
theorem dX5_weightOf_7 : decode cX5_weightOf 7 = .ok (.getfield 7, 3) := by decide +kernel
theorem dX5_weightOf_10 : decode cX5_weightOf 10 = .ok (.if_icmp .ge 194, 3) := by decide +kernel
theorem dX5_weightOf_13 : decode cX5_weightOf 13 = .ok (.iload_n 3, 1) := by decide +kernel
theorem dX5_weightOf_14 : decode cX5_weightOf 14 = .ok (.istore 4, 2) := by decide +kernel
theorem dX5_weightOf_16 : decode cX5_weightOf 16 = .ok (.iload 4, 2) := by decide +kernel
theorem dX5_weightOf_18 : decode cX5_weightOf 18 = .ok (.aload_n 0, 1) := by decide +kernel
theorem dX5_weightOf_19 : decode cX5_weightOf 19 = .ok (.getfield 7, 3) := by decide +kernel
theorem dX5_weightOf_22 : decode cX5_weightOf 22 = .ok (.if_icmp .ge 176, 3) := by decide +kernel
theorem dX5_weightOf_25 : decode cX5_weightOf 25 = .ok (.iconst 0, 1) := by decide +kernel
theorem dX5_weightOf_26 : decode cX5_weightOf 26 = .ok (.istore 5, 2) := by decide +kernel
theorem dX5_weightOf_28 : decode cX5_weightOf 28 = .ok (.iload 5, 2) := by decide +kernel
theorem dX5_weightOf_30 : decode cX5_weightOf 30 = .ok (.aload_n 0, 1) := by decide +kernel
theorem dX5_weightOf_31 : decode cX5_weightOf 31 = .ok (.getfield 7, 3) := by decide +kernel
theorem dX5_weightOf_34 : decode cX5_weightOf 34 = .ok (.if_icmp .ge 158, 3) := by decide +kernel
theorem dX5_weightOf_37 : decode cX5_weightOf 37 = .ok (.iload 5, 2) := by decide +kernel
theorem dX5_weightOf_39 : decode cX5_weightOf 39 = .ok (.istore 6, 2) := by decide +kernel
theorem dX5_weightOf_41 : decode cX5_weightOf 41 = .ok (.iload 6, 2) := by decide +kernel
theorem dX5_weightOf_43 : decode cX5_weightOf 43 = .ok (.aload_n 0, 1) := by decide +kernel
theorem dX5_weightOf_44 : decode cX5_weightOf 44 = .ok (.getfield 7, 3) := by decide +kernel
theorem dX5_weightOf_47 : decode cX5_weightOf 47 = .ok (.if_icmp .ge 139, 3) := by decide +kernel
theorem dX5_weightOf_50 : decode cX5_weightOf 50 = .ok (.iload_n 1, 1) := by decide +kernel
theorem dX5_weightOf_51 : decode cX5_weightOf 51 = .ok (.iload_n 3, 1) := by decide +kernel
theorem dX5_weightOf_52 : decode cX5_weightOf 52 = .ok (.ishr, 1) := by decide +kernel
theorem dX5_weightOf_53 : decode cX5_weightOf 53 = .ok (.iload_n 1, 1) := by decide +kernel
theorem dX5_weightOf_54 : decode cX5_weightOf 54 = .ok (.iload 4, 2) := by decide +kernel
theorem dX5_weightOf_56 : decode cX5_weightOf 56 = .ok (.ishr, 1) := by decide +kernel
theorem dX5_weightOf_57 : decode cX5_weightOf 57 = .ok (.iand, 1) := by decide +kernel
theorem dX5_weightOf_58 : decode cX5_weightOf 58 = .ok (.iconst 1, 1) := by decide +kernel
theorem dX5_weightOf_59 : decode cX5_weightOf 59 = .ok (.iand, 1) := by decide +kernel
theorem dX5_weightOf_60 : decode cX5_weightOf 60 = .ok (.iconst 1, 1) := by decide +kernel
theorem dX5_weightOf_61 : decode cX5_weightOf 61 = .ok (.if_icmp .ne 21, 3) := by decide +kernel
theorem dX5_weightOf_64 : decode cX5_weightOf 64 = .ok (.iload_n 1, 1) := by decide +kernel
theorem dX5_weightOf_65 : decode cX5_weightOf 65 = .ok (.iload 5, 2) := by decide +kernel
theorem dX5_weightOf_67 : decode cX5_weightOf 67 = .ok (.ishr, 1) := by decide +kernel
theorem dX5_weightOf_68 : decode cX5_weightOf 68 = .ok (.iload_n 1, 1) := by decide +kernel
theorem dX5_weightOf_69 : decode cX5_weightOf 69 = .ok (.iload 6, 2) := by decide +kernel
theorem dX5_weightOf_71 : decode cX5_weightOf 71 = .ok (.ishr, 1) := by decide +kernel
theorem dX5_weightOf_72 : decode cX5_weightOf 72 = .ok (.ior, 1) := by decide +kernel
theorem dX5_weightOf_73 : decode cX5_weightOf 73 = .ok (.iconst 1, 1) := by decide +kernel
theorem dX5_weightOf_74 : decode cX5_weightOf 74 = .ok (.iand, 1) := by decide +kernel
theorem dX5_weightOf_75 : decode cX5_weightOf 75 = .ok (.ifCond .ne 7, 3) := by decide +kernel
theorem dX5_weightOf_78 : decode cX5_weightOf 78 = .ok (.iconst 1, 1) := by decide +kernel
theorem dX5_weightOf_79 : decode cX5_weightOf 79 = .ok (.goto 4, 3) := by decide +kernel
theorem dX5_weightOf_82 : decode cX5_weightOf 82 = .ok (.iconst 0, 1) := by decide +kernel
theorem dX5_weightOf_83 : decode cX5_weightOf 83 = .ok (.istore 7, 2) := by decide +kernel
theorem dX5_weightOf_85 : decode cX5_weightOf 85 = .ok (.iload 7, 2) := by decide +kernel
theorem dX5_weightOf_87 : decode cX5_weightOf 87 = .ok (.ifCond .eq 93, 3) := by decide +kernel
theorem dX5_weightOf_90 : decode cX5_weightOf 90 = .ok (.aload_n 0, 1) := by decide +kernel
theorem dX5_weightOf_91 : decode cX5_weightOf 91 = .ok (.iload_n 3, 1) := by decide +kernel
theorem dX5_weightOf_92 : decode cX5_weightOf 92 = .ok (.iload 4, 2) := by decide +kernel
theorem dX5_weightOf_94 : decode cX5_weightOf 94 = .ok (.invokevirtual 44, 3) := by decide +kernel
theorem dX5_weightOf_97 : decode cX5_weightOf 97 = .ok (.aload_n 0, 1) := by decide +kernel
theorem dX5_weightOf_98 : decode cX5_weightOf 98 = .ok (.iload 5, 2) := by decide +kernel
theorem dX5_weightOf_100 : decode cX5_weightOf 100 = .ok (.iload 6, 2) := by decide +kernel
theorem dX5_weightOf_102 : decode cX5_weightOf 102 = .ok (.invokevirtual 44, 3) := by decide +kernel
theorem dX5_weightOf_105 : decode cX5_weightOf 105 = .ok (.iadd, 1) := by decide +kernel
theorem dX5_weightOf_106 : decode cX5_weightOf 106 = .ok (.aload_n 0, 1) := by decide +kernel
theorem dX5_weightOf_107 : decode cX5_weightOf 107 = .ok (.iload_n 3, 1) := by decide +kernel
theorem dX5_weightOf_108 : decode cX5_weightOf 108 = .ok (.iload 5, 2) := by decide +kernel
theorem dX5_weightOf_110 : decode cX5_weightOf 110 = .ok (.invokevirtual 44, 3) := by decide +kernel
theorem dX5_weightOf_113 : decode cX5_weightOf 113 = .ok (.aload_n 0, 1) := by decide +kernel
theorem dX5_weightOf_114 : decode cX5_weightOf 114 = .ok (.iload 4, 2) := by decide +kernel
theorem dX5_weightOf_116 : decode cX5_weightOf 116 = .ok (.iload 6, 2) := by decide +kernel
theorem dX5_weightOf_118 : decode cX5_weightOf 118 = .ok (.invokevirtual 44, 3) := by decide +kernel
theorem dX5_weightOf_121 : decode cX5_weightOf 121 = .ok (.iadd, 1) := by decide +kernel
theorem dX5_weightOf_122 : decode cX5_weightOf 122 = .ok (.aload_n 0, 1) := by decide +kernel
theorem dX5_weightOf_123 : decode cX5_weightOf 123 = .ok (.iload_n 3, 1) := by decide +kernel
theorem dX5_weightOf_124 : decode cX5_weightOf 124 = .ok (.iload 6, 2) := by decide +kernel
theorem dX5_weightOf_126 : decode cX5_weightOf 126 = .ok (.invokevirtual 44, 3) := by decide +kernel
theorem dX5_weightOf_129 : decode cX5_weightOf 129 = .ok (.aload_n 0, 1) := by decide +kernel
theorem dX5_weightOf_130 : decode cX5_weightOf 130 = .ok (.iload 4, 2) := by decide +kernel
theorem dX5_weightOf_132 : decode cX5_weightOf 132 = .ok (.iload 5, 2) := by decide +kernel
theorem dX5_weightOf_134 : decode cX5_weightOf 134 = .ok (.invokevirtual 44, 3) := by decide +kernel
theorem dX5_weightOf_137 : decode cX5_weightOf 137 = .ok (.iadd, 1) := by decide +kernel
theorem dX5_weightOf_138 : decode cX5_weightOf 138 = .ok (.invokestatic 48, 3) := by decide +kernel
theorem dX5_weightOf_141 : decode cX5_weightOf 141 = .ok (.invokestatic 48, 3) := by decide +kernel
theorem dX5_weightOf_144 : decode cX5_weightOf 144 = .ok (.istore 8, 2) := by decide +kernel
theorem dX5_weightOf_146 : decode cX5_weightOf 146 = .ok (.iload 8, 2) := by decide +kernel
theorem dX5_weightOf_148 : decode cX5_weightOf 148 = .ok (.aload_n 0, 1) := by decide +kernel
theorem dX5_weightOf_149 : decode cX5_weightOf 149 = .ok (.iload_n 3, 1) := by decide +kernel
theorem dX5_weightOf_150 : decode cX5_weightOf 150 = .ok (.iload 4, 2) := by decide +kernel
theorem dX5_weightOf_152 : decode cX5_weightOf 152 = .ok (.invokevirtual 44, 3) := by decide +kernel
theorem dX5_weightOf_155 : decode cX5_weightOf 155 = .ok (.isub, 1) := by decide +kernel
theorem dX5_weightOf_156 : decode cX5_weightOf 156 = .ok (.aload_n 0, 1) := by decide +kernel
theorem dX5_weightOf_157 : decode cX5_weightOf 157 = .ok (.iload 5, 2) := by decide +kernel
theorem dX5_weightOf_159 : decode cX5_weightOf 159 = .ok (.iload 6, 2) := by decide +kernel
theorem dX5_weightOf_161 : decode cX5_weightOf 161 = .ok (.invokevirtual 44, 3) := by decide +kernel
theorem dX5_weightOf_164 : decode cX5_weightOf 164 = .ok (.isub, 1) := by decide +kernel
theorem dX5_weightOf_165 : decode cX5_weightOf 165 = .ok (.istore 9, 2) := by decide +kernel
theorem dX5_weightOf_167 : decode cX5_weightOf 167 = .ok (.iload 9, 2) := by decide +kernel
theorem dX5_weightOf_169 : decode cX5_weightOf 169 = .ok (.iload_n 2, 1) := by decide +kernel
theorem dX5_weightOf_170 : decode cX5_weightOf 170 = .ok (.if_icmp .ge 8, 3) := by decide +kernel
theorem dX5_weightOf_173 : decode cX5_weightOf 173 = .ok (.iload 9, 2) := by decide +kernel
theorem dX5_weightOf_175 : decode cX5_weightOf 175 = .ok (.goto 4, 3) := by decide +kernel
theorem dX5_weightOf_178 : decode cX5_weightOf 178 = .ok (.iload_n 2, 1) := by decide +kernel
theorem dX5_weightOf_179 : decode cX5_weightOf 179 = .ok (.istore_n 2, 1) := by decide +kernel
theorem dX5_weightOf_180 : decode cX5_weightOf 180 = .ok (.iinc 6 1, 3) := by decide +kernel
theorem dX5_weightOf_183 : decode cX5_weightOf 183 = .ok (.goto (-142), 3) := by decide +kernel
theorem dX5_weightOf_186 : decode cX5_weightOf 186 = .ok (.iinc 5 1, 3) := by decide +kernel
theorem dX5_weightOf_189 : decode cX5_weightOf 189 = .ok (.goto (-161), 3) := by decide +kernel
theorem dX5_weightOf_192 : decode cX5_weightOf 192 = .ok (.iinc 4 1, 3) := by decide +kernel
theorem dX5_weightOf_195 : decode cX5_weightOf 195 = .ok (.goto (-179), 3) := by decide +kernel
theorem dX5_weightOf_198 : decode cX5_weightOf 198 = .ok (.iinc 3 1, 3) := by decide +kernel
theorem dX5_weightOf_201 : decode cX5_weightOf 201 = .ok (.goto (-196), 3) := by decide +kernel
theorem dX5_weightOf_204 : decode cX5_weightOf 204 = .ok (.iload_n 2, 1) := by decide +kernel
theorem dX5_weightOf_205 : decode cX5_weightOf 205 = .ok (.ireturn, 1) := by decide +kernel
theorem dX5_weight_0 : decode cX5_weight 0 = .ok (.aload_n 0, 1) := by decide +kernel
theorem dX5_weight_1 : decode cX5_weight 1 = .ok (.iload_n 1, 1) := by decide +kernel
theorem dX5_weight_2 : decode cX5_weight 2 = .ok (.invokevirtual 106, 3) := by decide +kernel
theorem dX5_weight_5 : decode cX5_weight 5 = .ok (.ifCond .ne 6, 3) := by decide +kernel
theorem dX5_weight_8 : decode cX5_weight 8 = .ok (.bipush (-102), 2) := by decide +kernel
theorem dX5_weight_10 : decode cX5_weight 10 = .ok (.ireturn, 1) := by decide +kernel
theorem dX5_weight_11 : decode cX5_weight 11 = .ok (.aload_n 0, 1) := by decide +kernel
theorem dX5_weight_12 : decode cX5_weight 12 = .ok (.iconst 0, 1) := by decide +kernel
theorem dX5_weight_13 : decode cX5_weight 13 = .ok (.invokevirtual 55, 3) := by decide +kernel
theorem dX5_weight_16 : decode cX5_weight 16 = .ok (.ifCond .le 8, 3) := by decide +kernel
theorem dX5_weight_19 : decode cX5_weight 19 = .ok (.bipush (-103), 2) := by decide +kernel
theorem dX5_weight_21 : decode cX5_weight 21 = .ok (.goto 8, 3) := by decide +kernel
theorem dX5_weight_24 : decode cX5_weight 24 = .ok (.aload_n 0, 1) := by decide +kernel
theorem dX5_weight_25 : decode cX5_weight 25 = .ok (.iload_n 1, 1) := by decide +kernel
theorem dX5_weight_26 : decode cX5_weight 26 = .ok (.invokevirtual 109, 3) := by decide +kernel
theorem dX5_weight_29 : decode cX5_weight 29 = .ok (.ireturn, 1) := by decide +kernel
theorem dX5_parts_0 : decode cX5_parts 0 = .ok (.aload_n 0, 1) := by decide +kernel
theorem dX5_parts_1 : decode cX5_parts 1 = .ok (.iconst 0, 1) := by decide +kernel
theorem dX5_parts_2 : decode cX5_parts 2 = .ok (.invokevirtual 55, 3) := by decide +kernel
theorem dX5_parts_5 : decode cX5_parts 5 = .ok (.ifCond .le 6, 3) := by decide +kernel
theorem dX5_parts_8 : decode cX5_parts 8 = .ok (.bipush (-103), 2) := by decide +kernel
theorem dX5_parts_10 : decode cX5_parts 10 = .ok (.ireturn, 1) := by decide +kernel
theorem dX5_parts_11 : decode cX5_parts 11 = .ok (.iconst 0, 1) := by decide +kernel
theorem dX5_parts_12 : decode cX5_parts 12 = .ok (.istore_n 1, 1) := by decide +kernel
theorem dX5_parts_13 : decode cX5_parts 13 = .ok (.iconst 1, 1) := by decide +kernel
theorem dX5_parts_14 : decode cX5_parts 14 = .ok (.istore_n 2, 1) := by decide +kernel
theorem dX5_parts_15 : decode cX5_parts 15 = .ok (.iload_n 2, 1) := by decide +kernel
theorem dX5_parts_16 : decode cX5_parts 16 = .ok (.iconst 1, 1) := by decide +kernel
theorem dX5_parts_17 : decode cX5_parts 17 = .ok (.aload_n 0, 1) := by decide +kernel
theorem dX5_parts_18 : decode cX5_parts 18 = .ok (.getfield 7, 3) := by decide +kernel
theorem dX5_parts_21 : decode cX5_parts 21 = .ok (.ishl, 1) := by decide +kernel
theorem dX5_parts_22 : decode cX5_parts 22 = .ok (.iconst 1, 1) := by decide +kernel
theorem dX5_parts_23 : decode cX5_parts 23 = .ok (.isub, 1) := by decide +kernel
theorem dX5_parts_24 : decode cX5_parts 24 = .ok (.if_icmp .ge 25, 3) := by decide +kernel
theorem dX5_parts_27 : decode cX5_parts 27 = .ok (.iload_n 1, 1) := by decide +kernel
theorem dX5_parts_28 : decode cX5_parts 28 = .ok (.aload_n 0, 1) := by decide +kernel
theorem dX5_parts_29 : decode cX5_parts 29 = .ok (.iload_n 2, 1) := by decide +kernel
theorem dX5_parts_30 : decode cX5_parts 30 = .ok (.invokevirtual 109, 3) := by decide +kernel
theorem dX5_parts_33 : decode cX5_parts 33 = .ok (.ifCond .le 7, 3) := by decide +kernel
theorem dX5_parts_36 : decode cX5_parts 36 = .ok (.iconst 1, 1) := by decide +kernel
theorem dX5_parts_37 : decode cX5_parts 37 = .ok (.goto 4, 3) := by decide +kernel
theorem dX5_parts_40 : decode cX5_parts 40 = .ok (.iconst 0, 1) := by decide +kernel
theorem dX5_parts_41 : decode cX5_parts 41 = .ok (.iadd, 1) := by decide +kernel
theorem dX5_parts_42 : decode cX5_parts 42 = .ok (.istore_n 1, 1) := by decide +kernel
theorem dX5_parts_43 : decode cX5_parts 43 = .ok (.iinc 2 2, 3) := by decide +kernel
theorem dX5_parts_46 : decode cX5_parts 46 = .ok (.goto (-31), 3) := by decide +kernel
theorem dX5_parts_49 : decode cX5_parts 49 = .ok (.iload_n 1, 1) := by decide +kernel
theorem dX5_parts_50 : decode cX5_parts 50 = .ok (.ireturn, 1) := by decide +kernel
theorem dX5_rest_0 : decode cX5_rest 0 = .ok (.aload_n 0, 1) := by decide +kernel
theorem dX5_rest_1 : decode cX5_rest 1 = .ok (.iload_n 1, 1) := by decide +kernel
theorem dX5_rest_2 : decode cX5_rest 2 = .ok (.invokevirtual 40, 3) := by decide +kernel
theorem dX5_rest_5 : decode cX5_rest 5 = .ok (.ifCond .eq 11, 3) := by decide +kernel
theorem dX5_rest_8 : decode cX5_rest 8 = .ok (.aload_n 0, 1) := by decide +kernel
theorem dX5_rest_9 : decode cX5_rest 9 = .ok (.iload_n 2, 1) := by decide +kernel
theorem dX5_rest_10 : decode cX5_rest 10 = .ok (.invokevirtual 40, 3) := by decide +kernel
theorem dX5_rest_13 : decode cX5_rest 13 = .ok (.ifCond .ne 7, 3) := by decide +kernel
theorem dX5_rest_16 : decode cX5_rest 16 = .ok (.sipush (-10101), 3) := by decide +kernel
theorem dX5_rest_19 : decode cX5_rest 19 = .ok (.ireturn, 1) := by decide +kernel
theorem dX5_rest_20 : decode cX5_rest 20 = .ok (.aload_n 0, 1) := by decide +kernel
theorem dX5_rest_21 : decode cX5_rest 21 = .ok (.iconst 0, 1) := by decide +kernel
theorem dX5_rest_22 : decode cX5_rest 22 = .ok (.invokevirtual 55, 3) := by decide +kernel
theorem dX5_rest_25 : decode cX5_rest 25 = .ok (.ifCond .le 7, 3) := by decide +kernel
theorem dX5_rest_28 : decode cX5_rest 28 = .ok (.sipush (-10103), 3) := by decide +kernel
theorem dX5_rest_31 : decode cX5_rest 31 = .ok (.ireturn, 1) := by decide +kernel
theorem dX5_rest_32 : decode cX5_rest 32 = .ok (.iconst 2, 1) := by decide +kernel
theorem dX5_rest_33 : decode cX5_rest 33 = .ok (.aload_n 0, 1) := by decide +kernel
theorem dX5_rest_34 : decode cX5_rest 34 = .ok (.iload_n 1, 1) := by decide +kernel
theorem dX5_rest_35 : decode cX5_rest 35 = .ok (.iload_n 2, 1) := by decide +kernel
theorem dX5_rest_36 : decode cX5_rest 36 = .ok (.invokevirtual 44, 3) := by decide +kernel
theorem dX5_rest_39 : decode cX5_rest 39 = .ok (.imul, 1) := by decide +kernel
theorem dX5_rest_40 : decode cX5_rest 40 = .ok (.istore_n 3, 1) := by decide +kernel
theorem dX5_rest_41 : decode cX5_rest 41 = .ok (.iconst 1, 1) := by decide +kernel
theorem dX5_rest_42 : decode cX5_rest 42 = .ok (.istore 4, 2) := by decide +kernel
theorem dX5_rest_44 : decode cX5_rest 44 = .ok (.iload 4, 2) := by decide +kernel
theorem dX5_rest_46 : decode cX5_rest 46 = .ok (.iconst 1, 1) := by decide +kernel
theorem dX5_rest_47 : decode cX5_rest 47 = .ok (.aload_n 0, 1) := by decide +kernel
theorem dX5_rest_48 : decode cX5_rest 48 = .ok (.getfield 7, 3) := by decide +kernel
theorem dX5_rest_51 : decode cX5_rest 51 = .ok (.ishl, 1) := by decide +kernel
theorem dX5_rest_52 : decode cX5_rest 52 = .ok (.iconst 1, 1) := by decide +kernel
theorem dX5_rest_53 : decode cX5_rest 53 = .ok (.isub, 1) := by decide +kernel
theorem dX5_rest_54 : decode cX5_rest 54 = .ok (.if_icmp .ge 37, 3) := by decide +kernel
theorem dX5_rest_57 : decode cX5_rest 57 = .ok (.iload_n 3, 1) := by decide +kernel
theorem dX5_rest_58 : decode cX5_rest 58 = .ok (.iload 4, 2) := by decide +kernel
theorem dX5_rest_60 : decode cX5_rest 60 = .ok (.iload_n 1, 1) := by decide +kernel
theorem dX5_rest_61 : decode cX5_rest 61 = .ok (.ishr, 1) := by decide +kernel
theorem dX5_rest_62 : decode cX5_rest 62 = .ok (.iload 4, 2) := by decide +kernel
theorem dX5_rest_64 : decode cX5_rest 64 = .ok (.iload_n 2, 1) := by decide +kernel
theorem dX5_rest_65 : decode cX5_rest 65 = .ok (.ishr, 1) := by decide +kernel
theorem dX5_rest_66 : decode cX5_rest 66 = .ok (.ixor, 1) := by decide +kernel
theorem dX5_rest_67 : decode cX5_rest 67 = .ok (.iconst 1, 1) := by decide +kernel
theorem dX5_rest_68 : decode cX5_rest 68 = .ok (.iand, 1) := by decide +kernel
theorem dX5_rest_69 : decode cX5_rest 69 = .ok (.iconst 1, 1) := by decide +kernel
theorem dX5_rest_70 : decode cX5_rest 70 = .ok (.if_icmp .ne 12, 3) := by decide +kernel
theorem dX5_rest_73 : decode cX5_rest 73 = .ok (.aload_n 0, 1) := by decide +kernel
theorem dX5_rest_74 : decode cX5_rest 74 = .ok (.iload 4, 2) := by decide +kernel
theorem dX5_rest_76 : decode cX5_rest 76 = .ok (.invokevirtual 109, 3) := by decide +kernel
theorem dX5_rest_79 : decode cX5_rest 79 = .ok (.goto 4, 3) := by decide +kernel
theorem dX5_rest_82 : decode cX5_rest 82 = .ok (.iconst 0, 1) := by decide +kernel
theorem dX5_rest_83 : decode cX5_rest 83 = .ok (.isub, 1) := by decide +kernel
theorem dX5_rest_84 : decode cX5_rest 84 = .ok (.istore_n 3, 1) := by decide +kernel
theorem dX5_rest_85 : decode cX5_rest 85 = .ok (.iinc 4 2, 3) := by decide +kernel
theorem dX5_rest_88 : decode cX5_rest 88 = .ok (.goto (-44), 3) := by decide +kernel
theorem dX5_rest_91 : decode cX5_rest 91 = .ok (.iload_n 3, 1) := by decide +kernel
theorem dX5_rest_92 : decode cX5_rest 92 = .ok (.ireturn, 1) := by decide +kernel
theorem dX5_orders_0 : decode cX5_orders 0 = .ok (.iconst 1, 1) := by decide +kernel
theorem dX5_orders_1 : decode cX5_orders 1 = .ok (.istore_n 1, 1) := by decide +kernel
theorem dX5_orders_2 : decode cX5_orders 2 = .ok (.iconst 2, 1) := by decide +kernel
theorem dX5_orders_3 : decode cX5_orders 3 = .ok (.istore_n 2, 1) := by decide +kernel
theorem dX5_orders_4 : decode cX5_orders 4 = .ok (.iload_n 2, 1) := by decide +kernel
theorem dX5_orders_5 : decode cX5_orders 5 = .ok (.aload_n 0, 1) := by decide +kernel
theorem dX5_orders_6 : decode cX5_orders 6 = .ok (.getfield 7, 3) := by decide +kernel
theorem dX5_orders_9 : decode cX5_orders 9 = .ok (.if_icmp .gt 13, 3) := by decide +kernel
theorem dX5_orders_12 : decode cX5_orders 12 = .ok (.iload_n 1, 1) := by decide +kernel
theorem dX5_orders_13 : decode cX5_orders 13 = .ok (.iload_n 2, 1) := by decide +kernel
theorem dX5_orders_14 : decode cX5_orders 14 = .ok (.imul, 1) := by decide +kernel
theorem dX5_orders_15 : decode cX5_orders 15 = .ok (.istore_n 1, 1) := by decide +kernel
theorem dX5_orders_16 : decode cX5_orders 16 = .ok (.iinc 2 1, 3) := by decide +kernel
theorem dX5_orders_19 : decode cX5_orders 19 = .ok (.goto (-15), 3) := by decide +kernel
theorem dX5_orders_22 : decode cX5_orders 22 = .ok (.iload_n 1, 1) := by decide +kernel
theorem dX5_orders_23 : decode cX5_orders 23 = .ok (.ireturn, 1) := by decide +kernel
theorem dX5_draw_0 : decode cX5_draw 0 = .ok (.iload_n 1, 1) := by decide +kernel
theorem dX5_draw_1 : decode cX5_draw 1 = .ok (.istore_n 2, 1) := by decide +kernel
theorem dX5_draw_2 : decode cX5_draw 2 = .ok (.aload_n 0, 1) := by decide +kernel
theorem dX5_draw_3 : decode cX5_draw 3 = .ok (.invokevirtual 112, 3) := by decide +kernel
theorem dX5_draw_6 : decode cX5_draw 6 = .ok (.istore_n 3, 1) := by decide +kernel
theorem dX5_draw_7 : decode cX5_draw 7 = .ok (.iconst 0, 1) := by decide +kernel
theorem dX5_draw_8 : decode cX5_draw 8 = .ok (.istore 4, 2) := by decide +kernel
theorem dX5_draw_10 : decode cX5_draw 10 = .ok (.iconst 0, 1) := by decide +kernel
theorem dX5_draw_11 : decode cX5_draw 11 = .ok (.istore 5, 2) := by decide +kernel
theorem dX5_draw_13 : decode cX5_draw 13 = .ok (.iload 5, 2) := by decide +kernel
theorem dX5_draw_15 : decode cX5_draw 15 = .ok (.aload_n 0, 1) := by decide +kernel
theorem dX5_draw_16 : decode cX5_draw 16 = .ok (.getfield 7, 3) := by decide +kernel
theorem dX5_draw_19 : decode cX5_draw 19 = .ok (.if_icmp .ge 92, 3) := by decide +kernel
theorem dX5_draw_22 : decode cX5_draw 22 = .ok (.iload_n 3, 1) := by decide +kernel
theorem dX5_draw_23 : decode cX5_draw 23 = .ok (.aload_n 0, 1) := by decide +kernel
theorem dX5_draw_24 : decode cX5_draw 24 = .ok (.getfield 7, 3) := by decide +kernel
theorem dX5_draw_27 : decode cX5_draw 27 = .ok (.iload 5, 2) := by decide +kernel
theorem dX5_draw_29 : decode cX5_draw 29 = .ok (.isub, 1) := by decide +kernel
theorem dX5_draw_30 : decode cX5_draw 30 = .ok (.idiv, 1) := by decide +kernel
theorem dX5_draw_31 : decode cX5_draw 31 = .ok (.istore_n 3, 1) := by decide +kernel
theorem dX5_draw_32 : decode cX5_draw 32 = .ok (.iload_n 2, 1) := by decide +kernel
theorem dX5_draw_33 : decode cX5_draw 33 = .ok (.iload_n 3, 1) := by decide +kernel
theorem dX5_draw_34 : decode cX5_draw 34 = .ok (.idiv, 1) := by decide +kernel
theorem dX5_draw_35 : decode cX5_draw 35 = .ok (.istore 6, 2) := by decide +kernel
theorem dX5_draw_37 : decode cX5_draw 37 = .ok (.iload_n 2, 1) := by decide +kernel
theorem dX5_draw_38 : decode cX5_draw 38 = .ok (.iload_n 3, 1) := by decide +kernel
theorem dX5_draw_39 : decode cX5_draw 39 = .ok (.irem, 1) := by decide +kernel
theorem dX5_draw_40 : decode cX5_draw 40 = .ok (.istore_n 2, 1) := by decide +kernel
theorem dX5_draw_41 : decode cX5_draw 41 = .ok (.iconst 0, 1) := by decide +kernel
theorem dX5_draw_42 : decode cX5_draw 42 = .ok (.istore 7, 2) := by decide +kernel
theorem dX5_draw_44 : decode cX5_draw 44 = .ok (.iload 4, 2) := by decide +kernel
theorem dX5_draw_46 : decode cX5_draw 46 = .ok (.iload 7, 2) := by decide +kernel
theorem dX5_draw_48 : decode cX5_draw 48 = .ok (.ishr, 1) := by decide +kernel
theorem dX5_draw_49 : decode cX5_draw 49 = .ok (.iconst 1, 1) := by decide +kernel
theorem dX5_draw_50 : decode cX5_draw 50 = .ok (.iand, 1) := by decide +kernel
theorem dX5_draw_51 : decode cX5_draw 51 = .ok (.iconst 1, 1) := by decide +kernel
theorem dX5_draw_52 : decode cX5_draw 52 = .ok (.if_icmp .eq 8, 3) := by decide +kernel
theorem dX5_draw_55 : decode cX5_draw 55 = .ok (.iload 6, 2) := by decide +kernel
theorem dX5_draw_57 : decode cX5_draw 57 = .ok (.ifCond .le 30, 3) := by decide +kernel
theorem dX5_draw_60 : decode cX5_draw 60 = .ok (.iload 6, 2) := by decide +kernel
theorem dX5_draw_62 : decode cX5_draw 62 = .ok (.iload 4, 2) := by decide +kernel
theorem dX5_draw_64 : decode cX5_draw 64 = .ok (.iload 7, 2) := by decide +kernel
theorem dX5_draw_66 : decode cX5_draw 66 = .ok (.ishr, 1) := by decide +kernel
theorem dX5_draw_67 : decode cX5_draw 67 = .ok (.iconst 1, 1) := by decide +kernel
theorem dX5_draw_68 : decode cX5_draw 68 = .ok (.iand, 1) := by decide +kernel
theorem dX5_draw_69 : decode cX5_draw 69 = .ok (.iconst 1, 1) := by decide +kernel
theorem dX5_draw_70 : decode cX5_draw 70 = .ok (.if_icmp .ne 7, 3) := by decide +kernel
theorem dX5_draw_73 : decode cX5_draw 73 = .ok (.iconst 0, 1) := by decide +kernel
theorem dX5_draw_74 : decode cX5_draw 74 = .ok (.goto 4, 3) := by decide +kernel
theorem dX5_draw_77 : decode cX5_draw 77 = .ok (.iconst 1, 1) := by decide +kernel
theorem dX5_draw_78 : decode cX5_draw 78 = .ok (.isub, 1) := by decide +kernel
theorem dX5_draw_79 : decode cX5_draw 79 = .ok (.istore 6, 2) := by decide +kernel
theorem dX5_draw_81 : decode cX5_draw 81 = .ok (.iinc 7 1, 3) := by decide +kernel
theorem dX5_draw_84 : decode cX5_draw 84 = .ok (.goto (-40), 3) := by decide +kernel
theorem dX5_draw_87 : decode cX5_draw 87 = .ok (.iload 4, 2) := by decide +kernel
theorem dX5_draw_89 : decode cX5_draw 89 = .ok (.iconst 1, 1) := by decide +kernel
theorem dX5_draw_90 : decode cX5_draw 90 = .ok (.iload 7, 2) := by decide +kernel
theorem dX5_draw_92 : decode cX5_draw 92 = .ok (.ishl, 1) := by decide +kernel
theorem dX5_draw_93 : decode cX5_draw 93 = .ok (.ior, 1) := by decide +kernel
theorem dX5_draw_94 : decode cX5_draw 94 = .ok (.istore 4, 2) := by decide +kernel
theorem dX5_draw_96 : decode cX5_draw 96 = .ok (.aload_n 0, 1) := by decide +kernel
theorem dX5_draw_97 : decode cX5_draw 97 = .ok (.getfield 30, 3) := by decide +kernel
theorem dX5_draw_100 : decode cX5_draw 100 = .ok (.iload 5, 2) := by decide +kernel
theorem dX5_draw_102 : decode cX5_draw 102 = .ok (.iload 7, 2) := by decide +kernel
theorem dX5_draw_104 : decode cX5_draw 104 = .ok (.iastore, 1) := by decide +kernel
theorem dX5_draw_105 : decode cX5_draw 105 = .ok (.iinc 5 1, 3) := by decide +kernel
theorem dX5_draw_108 : decode cX5_draw 108 = .ok (.goto (-95), 3) := by decide +kernel
theorem dX5_draw_111 : decode cX5_draw 111 = .ok (.return_, 1) := by decide +kernel
theorem dX5_goalOf_0 : decode cX5_goalOf 0 = .ok (.iconst 0, 1) := by decide +kernel
theorem dX5_goalOf_1 : decode cX5_goalOf 1 = .ok (.istore_n 3, 1) := by decide +kernel
theorem dX5_goalOf_2 : decode cX5_goalOf 2 = .ok (.aload_n 0, 1) := by decide +kernel
theorem dX5_goalOf_3 : decode cX5_goalOf 3 = .ok (.iload_n 1, 1) := by decide +kernel
theorem dX5_goalOf_4 : decode cX5_goalOf 4 = .ok (.aload_n 0, 1) := by decide +kernel
theorem dX5_goalOf_5 : decode cX5_goalOf 5 = .ok (.getfield 30, 3) := by decide +kernel
theorem dX5_goalOf_8 : decode cX5_goalOf 8 = .ok (.iload_n 3, 1) := by decide +kernel
theorem dX5_goalOf_9 : decode cX5_goalOf 9 = .ok (.iaload, 1) := by decide +kernel
theorem dX5_goalOf_10 : decode cX5_goalOf 10 = .ok (.invokevirtual 44, 3) := by decide +kernel
theorem dX5_goalOf_13 : decode cX5_goalOf 13 = .ok (.iload_n 2, 1) := by decide +kernel
theorem dX5_goalOf_14 : decode cX5_goalOf 14 = .ok (.if_icmp .le 9, 3) := by decide +kernel
theorem dX5_goalOf_17 : decode cX5_goalOf 17 = .ok (.iinc 3 1, 3) := by decide +kernel
theorem dX5_goalOf_20 : decode cX5_goalOf 20 = .ok (.goto (-18), 3) := by decide +kernel
theorem dX5_goalOf_23 : decode cX5_goalOf 23 = .ok (.aload_n 0, 1) := by decide +kernel
theorem dX5_goalOf_24 : decode cX5_goalOf 24 = .ok (.getfield 30, 3) := by decide +kernel
theorem dX5_goalOf_27 : decode cX5_goalOf 27 = .ok (.iload_n 3, 1) := by decide +kernel
theorem dX5_goalOf_28 : decode cX5_goalOf 28 = .ok (.iaload, 1) := by decide +kernel
theorem dX5_goalOf_29 : decode cX5_goalOf 29 = .ok (.ireturn, 1) := by decide +kernel
theorem dX5_drawn_0 : decode cX5_drawn 0 = .ok (.aload_n 0, 1) := by decide +kernel
theorem dX5_drawn_1 : decode cX5_drawn 1 = .ok (.iload_n 1, 1) := by decide +kernel
theorem dX5_drawn_2 : decode cX5_drawn 2 = .ok (.invokevirtual 40, 3) := by decide +kernel
theorem dX5_drawn_5 : decode cX5_drawn 5 = .ok (.ifCond .eq 11, 3) := by decide +kernel
theorem dX5_drawn_8 : decode cX5_drawn 8 = .ok (.aload_n 0, 1) := by decide +kernel
theorem dX5_drawn_9 : decode cX5_drawn 9 = .ok (.iload_n 2, 1) := by decide +kernel
theorem dX5_drawn_10 : decode cX5_drawn 10 = .ok (.invokevirtual 40, 3) := by decide +kernel
theorem dX5_drawn_13 : decode cX5_drawn 13 = .ok (.ifCond .ne 6, 3) := by decide +kernel
theorem dX5_drawn_16 : decode cX5_drawn 16 = .ok (.bipush (-101), 2) := by decide +kernel
theorem dX5_drawn_18 : decode cX5_drawn 18 = .ok (.ireturn, 1) := by decide +kernel
theorem dX5_drawn_19 : decode cX5_drawn 19 = .ok (.iload_n 3, 1) := by decide +kernel
theorem dX5_drawn_20 : decode cX5_drawn 20 = .ok (.iconst 0, 1) := by decide +kernel
theorem dX5_drawn_21 : decode cX5_drawn 21 = .ok (.sipush 1000, 3) := by decide +kernel
theorem dX5_drawn_24 : decode cX5_drawn 24 = .ok (.invokestatic 36, 3) := by decide +kernel
theorem dX5_drawn_27 : decode cX5_drawn 27 = .ok (.ifCond .ne 6, 3) := by decide +kernel
theorem dX5_drawn_30 : decode cX5_drawn 30 = .ok (.bipush (-102), 2) := by decide +kernel
theorem dX5_drawn_32 : decode cX5_drawn 32 = .ok (.ireturn, 1) := by decide +kernel
theorem dX5_drawn_33 : decode cX5_drawn 33 = .ok (.iconst 0, 1) := by decide +kernel
theorem dX5_drawn_34 : decode cX5_drawn 34 = .ok (.istore 4, 2) := by decide +kernel
theorem dX5_drawn_36 : decode cX5_drawn 36 = .ok (.iconst 0, 1) := by decide +kernel
theorem dX5_drawn_37 : decode cX5_drawn 37 = .ok (.istore 5, 2) := by decide +kernel
theorem dX5_drawn_39 : decode cX5_drawn 39 = .ok (.iload 5, 2) := by decide +kernel
theorem dX5_drawn_41 : decode cX5_drawn 41 = .ok (.aload_n 0, 1) := by decide +kernel
theorem dX5_drawn_42 : decode cX5_drawn 42 = .ok (.invokevirtual 112, 3) := by decide +kernel
theorem dX5_drawn_45 : decode cX5_drawn 45 = .ok (.if_icmp .ge 40, 3) := by decide +kernel
theorem dX5_drawn_48 : decode cX5_drawn 48 = .ok (.aload_n 0, 1) := by decide +kernel
theorem dX5_drawn_49 : decode cX5_drawn 49 = .ok (.iload 5, 2) := by decide +kernel
theorem dX5_drawn_51 : decode cX5_drawn 51 = .ok (.invokevirtual 115, 3) := by decide +kernel
theorem dX5_drawn_54 : decode cX5_drawn 54 = .ok (.iload 4, 2) := by decide +kernel
theorem dX5_drawn_56 : decode cX5_drawn 56 = .ok (.aload_n 0, 1) := by decide +kernel
theorem dX5_drawn_57 : decode cX5_drawn 57 = .ok (.iload_n 1, 1) := by decide +kernel
theorem dX5_drawn_58 : decode cX5_drawn 58 = .ok (.iload_n 3, 1) := by decide +kernel
theorem dX5_drawn_59 : decode cX5_drawn 59 = .ok (.invokevirtual 118, 3) := by decide +kernel
theorem dX5_drawn_62 : decode cX5_drawn 62 = .ok (.aload_n 0, 1) := by decide +kernel
theorem dX5_drawn_63 : decode cX5_drawn 63 = .ok (.iload_n 2, 1) := by decide +kernel
theorem dX5_drawn_64 : decode cX5_drawn 64 = .ok (.iload_n 3, 1) := by decide +kernel
theorem dX5_drawn_65 : decode cX5_drawn 65 = .ok (.invokevirtual 118, 3) := by decide +kernel
theorem dX5_drawn_68 : decode cX5_drawn 68 = .ok (.if_icmp .ne 7, 3) := by decide +kernel
theorem dX5_drawn_71 : decode cX5_drawn 71 = .ok (.iconst 0, 1) := by decide +kernel
theorem dX5_drawn_72 : decode cX5_drawn 72 = .ok (.goto 4, 3) := by decide +kernel
theorem dX5_drawn_75 : decode cX5_drawn 75 = .ok (.iconst 1, 1) := by decide +kernel
theorem dX5_drawn_76 : decode cX5_drawn 76 = .ok (.iadd, 1) := by decide +kernel
theorem dX5_drawn_77 : decode cX5_drawn 77 = .ok (.istore 4, 2) := by decide +kernel
theorem dX5_drawn_79 : decode cX5_drawn 79 = .ok (.iinc 5 1, 3) := by decide +kernel
theorem dX5_drawn_82 : decode cX5_drawn 82 = .ok (.goto (-43), 3) := by decide +kernel
theorem dX5_drawn_85 : decode cX5_drawn 85 = .ok (.iload 4, 2) := by decide +kernel
theorem dX5_drawn_87 : decode cX5_drawn 87 = .ok (.ireturn, 1) := by decide +kernel
theorem dX5_goes_0 : decode cX5_goes 0 = .ok (.aload_n 0, 1) := by decide +kernel
theorem dX5_goes_1 : decode cX5_goes 1 = .ok (.iload_n 1, 1) := by decide +kernel
theorem dX5_goes_2 : decode cX5_goes 2 = .ok (.invokevirtual 40, 3) := by decide +kernel
theorem dX5_goes_5 : decode cX5_goes 5 = .ok (.ifCond .ne 6, 3) := by decide +kernel
theorem dX5_goes_8 : decode cX5_goes 8 = .ok (.bipush (-101), 2) := by decide +kernel
theorem dX5_goes_10 : decode cX5_goes 10 = .ok (.ireturn, 1) := by decide +kernel
theorem dX5_goes_11 : decode cX5_goes 11 = .ok (.iload_n 2, 1) := by decide +kernel
theorem dX5_goes_12 : decode cX5_goes 12 = .ok (.iconst 0, 1) := by decide +kernel
theorem dX5_goes_13 : decode cX5_goes 13 = .ok (.aload_n 0, 1) := by decide +kernel
theorem dX5_goes_14 : decode cX5_goes 14 = .ok (.invokevirtual 112, 3) := by decide +kernel
theorem dX5_goes_17 : decode cX5_goes 17 = .ok (.iconst 1, 1) := by decide +kernel
theorem dX5_goes_18 : decode cX5_goes 18 = .ok (.isub, 1) := by decide +kernel
theorem dX5_goes_19 : decode cX5_goes 19 = .ok (.invokestatic 36, 3) := by decide +kernel
theorem dX5_goes_22 : decode cX5_goes 22 = .ok (.ifCond .eq 14, 3) := by decide +kernel
theorem dX5_goes_25 : decode cX5_goes 25 = .ok (.iload_n 3, 1) := by decide +kernel
theorem dX5_goes_26 : decode cX5_goes 26 = .ok (.iconst 0, 1) := by decide +kernel
theorem dX5_goes_27 : decode cX5_goes 27 = .ok (.sipush 1000, 3) := by decide +kernel
theorem dX5_goes_30 : decode cX5_goes 30 = .ok (.invokestatic 36, 3) := by decide +kernel
theorem dX5_goes_33 : decode cX5_goes 33 = .ok (.ifCond .ne 6, 3) := by decide +kernel
theorem dX5_goes_36 : decode cX5_goes 36 = .ok (.bipush (-102), 2) := by decide +kernel
theorem dX5_goes_38 : decode cX5_goes 38 = .ok (.ireturn, 1) := by decide +kernel
theorem dX5_goes_39 : decode cX5_goes 39 = .ok (.aload_n 0, 1) := by decide +kernel
theorem dX5_goes_40 : decode cX5_goes 40 = .ok (.iload_n 2, 1) := by decide +kernel
theorem dX5_goes_41 : decode cX5_goes 41 = .ok (.invokevirtual 115, 3) := by decide +kernel
theorem dX5_goes_44 : decode cX5_goes 44 = .ok (.aload_n 0, 1) := by decide +kernel
theorem dX5_goes_45 : decode cX5_goes 45 = .ok (.iload_n 1, 1) := by decide +kernel
theorem dX5_goes_46 : decode cX5_goes 46 = .ok (.iload_n 3, 1) := by decide +kernel
theorem dX5_goes_47 : decode cX5_goes 47 = .ok (.invokevirtual 118, 3) := by decide +kernel
theorem dX5_goes_50 : decode cX5_goes 50 = .ok (.ireturn, 1) := by decide +kernel
theorem dX5_count_0 : decode cX5_count 0 = .ok (.iconst 0, 1) := by decide +kernel
theorem dX5_count_1 : decode cX5_count 1 = .ok (.istore_n 2, 1) := by decide +kernel
theorem dX5_count_2 : decode cX5_count 2 = .ok (.iconst 0, 1) := by decide +kernel
theorem dX5_count_3 : decode cX5_count 3 = .ok (.istore_n 3, 1) := by decide +kernel
theorem dX5_count_4 : decode cX5_count 4 = .ok (.iconst 0, 1) := by decide +kernel
theorem dX5_count_5 : decode cX5_count 5 = .ok (.istore 4, 2) := by decide +kernel
theorem dX5_count_7 : decode cX5_count 7 = .ok (.iload 4, 2) := by decide +kernel
theorem dX5_count_9 : decode cX5_count 9 = .ok (.aload_n 0, 1) := by decide +kernel
theorem dX5_count_10 : decode cX5_count 10 = .ok (.getfield 7, 3) := by decide +kernel
theorem dX5_count_13 : decode cX5_count 13 = .ok (.if_icmp .ge 54, 3) := by decide +kernel
theorem dX5_count_16 : decode cX5_count 16 = .ok (.iload 4, 2) := by decide +kernel
theorem dX5_count_18 : decode cX5_count 18 = .ok (.iconst 1, 1) := by decide +kernel
theorem dX5_count_19 : decode cX5_count 19 = .ok (.iadd, 1) := by decide +kernel
theorem dX5_count_20 : decode cX5_count 20 = .ok (.istore 5, 2) := by decide +kernel
theorem dX5_count_22 : decode cX5_count 22 = .ok (.iload 5, 2) := by decide +kernel
theorem dX5_count_24 : decode cX5_count 24 = .ok (.aload_n 0, 1) := by decide +kernel
theorem dX5_count_25 : decode cX5_count 25 = .ok (.getfield 7, 3) := by decide +kernel
theorem dX5_count_28 : decode cX5_count 28 = .ok (.if_icmp .ge 33, 3) := by decide +kernel
theorem dX5_count_31 : decode cX5_count 31 = .ok (.iload_n 2, 1) := by decide +kernel
theorem dX5_count_32 : decode cX5_count 32 = .ok (.aload_n 0, 1) := by decide +kernel
theorem dX5_count_33 : decode cX5_count 33 = .ok (.iload 4, 2) := by decide +kernel
theorem dX5_count_35 : decode cX5_count 35 = .ok (.iload 5, 2) := by decide +kernel
theorem dX5_count_37 : decode cX5_count 37 = .ok (.invokevirtual 44, 3) := by decide +kernel
theorem dX5_count_40 : decode cX5_count 40 = .ok (.iadd, 1) := by decide +kernel
theorem dX5_count_41 : decode cX5_count 41 = .ok (.istore_n 2, 1) := by decide +kernel
theorem dX5_count_42 : decode cX5_count 42 = .ok (.iload_n 3, 1) := by decide +kernel
theorem dX5_count_43 : decode cX5_count 43 = .ok (.aload_n 0, 1) := by decide +kernel
theorem dX5_count_44 : decode cX5_count 44 = .ok (.iload 4, 2) := by decide +kernel
theorem dX5_count_46 : decode cX5_count 46 = .ok (.iload 5, 2) := by decide +kernel
theorem dX5_count_48 : decode cX5_count 48 = .ok (.invokevirtual 44, 3) := by decide +kernel
theorem dX5_count_51 : decode cX5_count 51 = .ok (.invokestatic 48, 3) := by decide +kernel
theorem dX5_count_54 : decode cX5_count 54 = .ok (.istore_n 3, 1) := by decide +kernel
theorem dX5_count_55 : decode cX5_count 55 = .ok (.iinc 5 1, 3) := by decide +kernel
theorem dX5_count_58 : decode cX5_count 58 = .ok (.goto (-36), 3) := by decide +kernel
theorem dX5_count_61 : decode cX5_count 61 = .ok (.iinc 4 1, 3) := by decide +kernel
theorem dX5_count_64 : decode cX5_count 64 = .ok (.goto (-57), 3) := by decide +kernel
theorem dX5_count_67 : decode cX5_count 67 = .ok (.iload_n 1, 1) := by decide +kernel
theorem dX5_count_68 : decode cX5_count 68 = .ok (.ifCond .ne 10, 3) := by decide +kernel
theorem dX5_count_71 : decode cX5_count 71 = .ok (.aload_n 0, 1) := by decide +kernel
theorem dX5_count_72 : decode cX5_count 72 = .ok (.getfield 7, 3) := by decide +kernel
theorem dX5_count_75 : decode cX5_count 75 = .ok (.goto 35, 3) := by decide +kernel
theorem dX5_count_78 : decode cX5_count 78 = .ok (.iload_n 1, 1) := by decide +kernel
theorem dX5_count_79 : decode cX5_count 79 = .ok (.iconst 1, 1) := by decide +kernel
theorem dX5_count_80 : decode cX5_count 80 = .ok (.if_icmp .ne 7, 3) := by decide +kernel
theorem dX5_count_83 : decode cX5_count 83 = .ok (.iload_n 2, 1) := by decide +kernel
theorem dX5_count_84 : decode cX5_count 84 = .ok (.goto 26, 3) := by decide +kernel
theorem dX5_count_87 : decode cX5_count 87 = .ok (.iload_n 1, 1) := by decide +kernel
theorem dX5_count_88 : decode cX5_count 88 = .ok (.iconst 2, 1) := by decide +kernel
theorem dX5_count_89 : decode cX5_count 89 = .ok (.if_icmp .ne 7, 3) := by decide +kernel
theorem dX5_count_92 : decode cX5_count 92 = .ok (.iload_n 3, 1) := by decide +kernel
theorem dX5_count_93 : decode cX5_count 93 = .ok (.goto 17, 3) := by decide +kernel
theorem dX5_count_96 : decode cX5_count 96 = .ok (.iload_n 1, 1) := by decide +kernel
theorem dX5_count_97 : decode cX5_count 97 = .ok (.iconst 3, 1) := by decide +kernel
theorem dX5_count_98 : decode cX5_count 98 = .ok (.if_icmp .ne 10, 3) := by decide +kernel
theorem dX5_count_101 : decode cX5_count 101 = .ok (.aload_n 0, 1) := by decide +kernel
theorem dX5_count_102 : decode cX5_count 102 = .ok (.getfield 103, 3) := by decide +kernel
theorem dX5_count_105 : decode cX5_count 105 = .ok (.goto 5, 3) := by decide +kernel
theorem dX5_count_108 : decode cX5_count 108 = .ok (.bipush (-102), 2) := by decide +kernel
theorem dX5_count_110 : decode cX5_count 110 = .ok (.ireturn, 1) := by decide +kernel
theorem dX5_mix_0 : decode cX5_mix 0 = .ok (.aload_n 0, 1) := by decide +kernel
theorem dX5_mix_1 : decode cX5_mix 1 = .ok (.ldc2_w 121, 3) := by decide +kernel
theorem dX5_mix_4 : decode cX5_mix 4 = .ok (.aload_n 0, 1) := by decide +kernel
theorem dX5_mix_5 : decode cX5_mix 5 = .ok (.getfield 123, 3) := by decide +kernel
theorem dX5_mix_8 : decode cX5_mix 8 = .ok (.lmul, 1) := by decide +kernel
theorem dX5_mix_9 : decode cX5_mix 9 = .ok (.lload_n 1, 1) := by decide +kernel
theorem dX5_mix_10 : decode cX5_mix 10 = .ok (.ladd, 1) := by decide +kernel
theorem dX5_mix_11 : decode cX5_mix 11 = .ok (.putfield 123, 3) := by decide +kernel
theorem dX5_mix_14 : decode cX5_mix 14 = .ok (.return_, 1) := by decide +kernel
theorem dX5_digest_0 : decode cX5_digest 0 = .ok (.aload_n 0, 1) := by decide +kernel
theorem dX5_digest_1 : decode cX5_digest 1 = .ok (.ldc2_w 126, 3) := by decide +kernel
theorem dX5_digest_4 : decode cX5_digest 4 = .ok (.putfield 123, 3) := by decide +kernel
theorem dX5_digest_7 : decode cX5_digest 7 = .ok (.aload_n 0, 1) := by decide +kernel
theorem dX5_digest_8 : decode cX5_digest 8 = .ok (.aload_n 0, 1) := by decide +kernel
theorem dX5_digest_9 : decode cX5_digest 9 = .ok (.getfield 7, 3) := by decide +kernel
theorem dX5_digest_12 : decode cX5_digest 12 = .ok (.i2l, 1) := by decide +kernel
theorem dX5_digest_13 : decode cX5_digest 13 = .ok (.invokevirtual 128, 3) := by decide +kernel
theorem dX5_digest_16 : decode cX5_digest 16 = .ok (.aload_n 0, 1) := by decide +kernel
theorem dX5_digest_17 : decode cX5_digest 17 = .ok (.iconst 0, 1) := by decide +kernel
theorem dX5_digest_18 : decode cX5_digest 18 = .ok (.invokevirtual 59, 3) := by decide +kernel
theorem dX5_digest_21 : decode cX5_digest 21 = .ok (.iconst 0, 1) := by decide +kernel
theorem dX5_digest_22 : decode cX5_digest 22 = .ok (.istore_n 1, 1) := by decide +kernel
theorem dX5_digest_23 : decode cX5_digest 23 = .ok (.iload_n 1, 1) := by decide +kernel
theorem dX5_digest_24 : decode cX5_digest 24 = .ok (.aload_n 0, 1) := by decide +kernel
theorem dX5_digest_25 : decode cX5_digest 25 = .ok (.getfield 7, 3) := by decide +kernel
theorem dX5_digest_28 : decode cX5_digest 28 = .ok (.if_icmp .ge 54, 3) := by decide +kernel
theorem dX5_digest_31 : decode cX5_digest 31 = .ok (.iload_n 1, 1) := by decide +kernel
theorem dX5_digest_32 : decode cX5_digest 32 = .ok (.iconst 1, 1) := by decide +kernel
theorem dX5_digest_33 : decode cX5_digest 33 = .ok (.iadd, 1) := by decide +kernel
theorem dX5_digest_34 : decode cX5_digest 34 = .ok (.istore_n 2, 1) := by decide +kernel
theorem dX5_digest_35 : decode cX5_digest 35 = .ok (.iload_n 2, 1) := by decide +kernel
theorem dX5_digest_36 : decode cX5_digest 36 = .ok (.aload_n 0, 1) := by decide +kernel
theorem dX5_digest_37 : decode cX5_digest 37 = .ok (.getfield 7, 3) := by decide +kernel
theorem dX5_digest_40 : decode cX5_digest 40 = .ok (.if_icmp .ge 36, 3) := by decide +kernel
theorem dX5_digest_43 : decode cX5_digest 43 = .ok (.aload_n 0, 1) := by decide +kernel
theorem dX5_digest_44 : decode cX5_digest 44 = .ok (.aload_n 0, 1) := by decide +kernel
theorem dX5_digest_45 : decode cX5_digest 45 = .ok (.iload_n 1, 1) := by decide +kernel
theorem dX5_digest_46 : decode cX5_digest 46 = .ok (.iload_n 2, 1) := by decide +kernel
theorem dX5_digest_47 : decode cX5_digest 47 = .ok (.invokevirtual 44, 3) := by decide +kernel
theorem dX5_digest_50 : decode cX5_digest 50 = .ok (.i2l, 1) := by decide +kernel
theorem dX5_digest_51 : decode cX5_digest 51 = .ok (.invokevirtual 128, 3) := by decide +kernel
theorem dX5_digest_54 : decode cX5_digest 54 = .ok (.aload_n 0, 1) := by decide +kernel
theorem dX5_digest_55 : decode cX5_digest 55 = .ok (.aload_n 0, 1) := by decide +kernel
theorem dX5_digest_56 : decode cX5_digest 56 = .ok (.getfield 17, 3) := by decide +kernel
theorem dX5_digest_59 : decode cX5_digest 59 = .ok (.bipush 6, 2) := by decide +kernel
theorem dX5_digest_61 : decode cX5_digest 61 = .ok (.iload_n 1, 1) := by decide +kernel
theorem dX5_digest_62 : decode cX5_digest 62 = .ok (.imul, 1) := by decide +kernel
theorem dX5_digest_63 : decode cX5_digest 63 = .ok (.iload_n 2, 1) := by decide +kernel
theorem dX5_digest_64 : decode cX5_digest 64 = .ok (.iadd, 1) := by decide +kernel
theorem dX5_digest_65 : decode cX5_digest 65 = .ok (.iaload, 1) := by decide +kernel
theorem dX5_digest_66 : decode cX5_digest 66 = .ok (.i2l, 1) := by decide +kernel
theorem dX5_digest_67 : decode cX5_digest 67 = .ok (.invokevirtual 128, 3) := by decide +kernel
theorem dX5_digest_70 : decode cX5_digest 70 = .ok (.iinc 2 1, 3) := by decide +kernel
theorem dX5_digest_73 : decode cX5_digest 73 = .ok (.goto (-38), 3) := by decide +kernel
theorem dX5_digest_76 : decode cX5_digest 76 = .ok (.iinc 1 1, 3) := by decide +kernel
theorem dX5_digest_79 : decode cX5_digest 79 = .ok (.goto (-56), 3) := by decide +kernel
theorem dX5_digest_82 : decode cX5_digest 82 = .ok (.aload_n 0, 1) := by decide +kernel
theorem dX5_digest_83 : decode cX5_digest 83 = .ok (.aload_n 0, 1) := by decide +kernel
theorem dX5_digest_84 : decode cX5_digest 84 = .ok (.getfield 103, 3) := by decide +kernel
theorem dX5_digest_87 : decode cX5_digest 87 = .ok (.i2l, 1) := by decide +kernel
theorem dX5_digest_88 : decode cX5_digest 88 = .ok (.invokevirtual 128, 3) := by decide +kernel
theorem dX5_digest_91 : decode cX5_digest 91 = .ok (.aload_n 0, 1) := by decide +kernel
theorem dX5_digest_92 : decode cX5_digest 92 = .ok (.getfield 123, 3) := by decide +kernel
theorem dX5_digest_95 : decode cX5_digest 95 = .ok (.lreturn, 1) := by decide +kernel
